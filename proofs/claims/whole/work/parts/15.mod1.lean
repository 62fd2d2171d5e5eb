noncomputable def FX8_in  (a0 : Int32) (a1 : Int32) (a2 : Int32) : Option (Int32) :=
  if a0 < a1 then (some (0 : Int32)) else (if a2 < a0 then (some (0 : Int32)) else (some (1 : Int32)))
abbrev GX8_in (p : Program) (l : Launch) (e : Env) (s : State) (m : MethodId) (below : List Frame) (meth : Method) (c : Code) (a0 : Int32) (a1 : Int32) (a2 : Int32) (out : Int32) (H : Heap) (locs : List Loc) (g : JFrame) : Prop := W p l e (headSpec (Cond.code yX8_in cX8_in 3 (some .boolean) :: GW) { frames := 0, cells := 0, slots := 0, locals := 0 }).room s m ([.int a0, .int a1, .int a2] : List Value).toArray below meth c H locs 0 0 (MQ below (vp_Si (fun r => r = out)) ([.int a0, .int a1, .int a2] : List Value).toArray s 0 0 (fun _ => False)) g
theorem ksX8_in : CalS yX8_in cX8_in 3 (some .boolean) 3 := ⟨wC_yX8_in, wT_yX8_in, wI_RX8, by decide +kernel⟩
set_option maxHeartbeats 4000000 in
set_option maxRecDepth 100000 in
theorem kX8_in (l : Launch) (D : va_G) (cI cJ cZ : ClassId) (a0 : Int32) (a1 : Int32) (a2 : Int32) (out : Int32) (hf : FX8_in a0 a1 a2 = some out) : MSi l yX8_in (Cond.code yX8_in cX8_in 3 (some .boolean) :: GW) { frames := 0, cells := 0, slots := 0, locals := 0 } D cI cJ cZ [.int a0, .int a1, .int a2] out := by
  refine Met.ofW (cc := cX8_in) (maxL := 3) (ret := (some .boolean)) (by decide +kernel) rfl ?_
  intro p e s m args below meth c s₁ B hml hv
  obtain ⟨rfl, hK⟩ := hv
  have hx := B.exec
  have hb := B.bytes
  have hr := B.returns
  have hlocks := B.notSynchronized
  have hg : ∀ w ∈ GW, w.before _ s = true := fun w h => atoms_spec (ws := Cond.code yX8_in cX8_in 3 (some .boolean) :: GW) B.pre w (List.mem_cons_of_mem _ h)
  have hown : s.vm.findClass RX8 = some m.cls := findClass_of_methodNamed B.named
  have hl := lv_entry [.int a0, .int a1, .int a2] (n := 3) (Nat.le_of_ble_eq_true rfl)
  rw [lg_entry_eq]
  generalize (lg_sl [.int a0, .int a1, .int a2] ++ List.replicate (3 - (lg_sl [.int a0, .int a1, .int a2]).length) Slot.unset).toArray = ls at hl ⊢
  replace hl : lv_has ls 3 [(0, .int a0), (1, .int a1), (2, .int a2)] := hl
  obtain ⟨x, hf, hM⟩ : ∃ x, FX8_in a0 a1 a2 = some x ∧ x = out := ⟨out, hf, rfl⟩
  refine lv_iload_n hx hb dX8_in_0 rfl (lv_at hl 0 rfl) ?_
  refine lv_iload_n hx hb dX8_in_1 rfl (lv_at hl 1 rfl) ?_
  refine lv_icmp_lt (tgt := 14) hx hb dX8_in_2 (by decide) (fun hc => ?_) (fun hc => ?_)
  · replace hf := ite_t hc hf
    refine lv_iconst (v := 0) hx hb dX8_in_14 (by decide) ?_
    replace hf := Option.some.inj hf
    subst hf
    replace hM : (0 : Int32) = out := hM
    subst hM
    exact rt_s hx hb hr hlocks (by decide) rfl dX8_in_15
  · replace hf := ite_f hc hf
    refine lv_iload_n hx hb dX8_in_5 rfl (lv_at hl 0 rfl) ?_
    refine lv_iload_n hx hb dX8_in_6 rfl (lv_at hl 2 rfl) ?_
    refine lv_icmp_gt (tgt := 14) hx hb dX8_in_7 (by decide) (fun hc => ?_) (fun hc => ?_)
    · replace hf := ite_t hc hf
      refine lv_iconst (v := 0) hx hb dX8_in_14 (by decide) ?_
      replace hf := Option.some.inj hf
      subst hf
      replace hM : (0 : Int32) = out := hM
      subst hM
      exact rt_s hx hb hr hlocks (by decide) rfl dX8_in_15
    · replace hf := ite_f hc hf
      refine lv_iconst (v := 1) hx hb dX8_in_10 (by decide) ?_
      refine lv_goto (tgt := 15) hx hb dX8_in_11 (by decide) ?_
      replace hf := Option.some.inj hf
      subst hf
      replace hM : (1 : Int32) = out := hM
      subst hM
      exact rt_s hx hb hr hlocks (by decide) rfl dX8_in_15
noncomputable def FX8_isRoad (M_roads : Int32) (a1 : Int32) : Option (Int32) :=
  (FX8_in a1 (0 : Int32) (M_roads - (1 : Int32))).bind (fun x1 => if x1 = (0 : Int32) ∨ x1 = (1 : Int32) then (some x1) else none)
abbrev GX8_isRoad (p : Program) (l : Launch) (e : Env) (s : State) (m : MethodId) (below : List Frame) (meth : Method) (c : Code) (D : va_G) (cI cJ cZ : ClassId) (m0 m1 m2 m3 m4 m5 m6 m7 m8 m9 m10 m11 m12 m13 : Nat) (M_posts : Int32) (M_roads : Int32) (M_size : Int32) (M_rows : Int32) (M_nextRows : Int32) (M_first : Nat → Int32) (M_second : Nat → Int32) (M_number : Nat → Int32) (M_lists : Nat → Int32) (M_square : Nat → Int32) (M_fan : Nat → Int32) (M_trial : Nat → Int32) (M_touching : Nat → Int32) (M_having : Nat → Int32) (M_most : Nat → Int32) (M_only : Nat → Int32) (M_can : Nat → Int32) (M_next : Nat → Int32) (a1 : Int32) (out : Int32) (H : Heap) (locs : List Loc) (g : JFrame) : Prop := W p l e (headSpec (Cond.code yX8_isRoad cX8_isRoad 2 (some .boolean) :: GW) { frames := 1, cells := 0, slots := 0, locals := 22 }).room s m ([.ref m0, .int a1] : List Value).toArray below meth c H locs 0 0 (MQ below (va_Qi (fun r (_ : Unit) => r = out) (BW D (wM cI cJ cZ m0 m1 m2 m3 m4 m5 m6 m7 m8 m9 m10 m11 m12 m13 M_posts M_roads M_size M_rows M_nextRows M_first M_second M_number M_lists M_square M_fan M_trial M_touching M_having M_most M_only M_can M_next) s.heap.size (fun _ => (wM cI cJ cZ m0 m1 m2 m3 m4 m5 m6 m7 m8 m9 m10 m11 m12 m13 M_posts M_roads M_size M_rows M_nextRows M_first M_second M_number M_lists M_square M_fan M_trial M_touching M_having M_most M_only M_can M_next))) (va_A (wM cI cJ cZ m0 m1 m2 m3 m4 m5 m6 m7 m8 m9 m10 m11 m12 m13 M_posts M_roads M_size M_rows M_nextRows M_first M_second M_number M_lists M_square M_fan M_trial M_touching M_having M_most M_only M_can M_next) s.heap.size)) ([.ref m0, .int a1] : List Value).toArray s 0 0 (va_A (wM cI cJ cZ m0 m1 m2 m3 m4 m5 m6 m7 m8 m9 m10 m11 m12 m13 M_posts M_roads M_size M_rows M_nextRows M_first M_second M_number M_lists M_square M_fan M_trial M_touching M_having M_most M_only M_can M_next) s.heap.size)) g
theorem kvX8_isRoad : CalV RX8 yX8_isRoad cX8_isRoad 2 (some .boolean) 1 := ⟨wC_yX8_isRoad, wM_yX8_isRoad, wS_yX8_isRoad, wI_RX8, by decide +kernel⟩
set_option maxHeartbeats 4000000 in
set_option maxRecDepth 100000 in
theorem kX8_isRoad (l : Launch) (D : va_G) (cI cJ cZ : ClassId) (m0 m1 m2 m3 m4 m5 m6 m7 m8 m9 m10 m11 m12 m13 : Nat) (M_posts : Int32) (M_roads : Int32) (M_size : Int32) (M_rows : Int32) (M_nextRows : Int32) (M_first : Nat → Int32) (M_second : Nat → Int32) (M_number : Nat → Int32) (M_lists : Nat → Int32) (M_square : Nat → Int32) (M_fan : Nat → Int32) (M_trial : Nat → Int32) (M_touching : Nat → Int32) (M_having : Nat → Int32) (M_most : Nat → Int32) (M_only : Nat → Int32) (M_can : Nat → Int32) (M_next : Nat → Int32) (a1 : Int32) (out : Int32) (hf : FX8_isRoad M_roads a1 = some out) : MI l yX8_isRoad (Cond.code yX8_isRoad cX8_isRoad 2 (some .boolean) :: GW) { frames := 1, cells := 0, slots := 0, locals := 22 } D cI cJ cZ [.ref m0, .int a1] (wM cI cJ cZ m0 m1 m2 m3 m4 m5 m6 m7 m8 m9 m10 m11 m12 m13 M_posts M_roads M_size M_rows M_nextRows M_first M_second M_number M_lists M_square M_fan M_trial M_touching M_having M_most M_only M_can M_next) (fun r (_ : Unit) => r = out) (fun _ => (wM cI cJ cZ m0 m1 m2 m3 m4 m5 m6 m7 m8 m9 m10 m11 m12 m13 M_posts M_roads M_size M_rows M_nextRows M_first M_second M_number M_lists M_square M_fan M_trial M_touching M_having M_most M_only M_can M_next)) := by
  intro sz
  refine Met.ofW (cc := cX8_isRoad) (maxL := 2) (ret := (some .boolean)) (by decide +kernel) rfl ?_
  intro p e s m args below meth c s₁ B hml hv
  obtain ⟨rfl, hsz, hP, hK, hD0⟩ := hv
  have hx := B.exec
  have hb := B.bytes
  have hr := B.returns
  have hlocks := B.notSynchronized
  have hg : ∀ w ∈ GW, w.before _ s = true := fun w h => atoms_spec (ws := Cond.code yX8_isRoad cX8_isRoad 2 (some .boolean) :: GW) B.pre w (List.mem_cons_of_mem _ h)
  have hown : s.vm.findClass RX8 = some m.cls := findClass_of_methodNamed B.named
  subst hsz
  obtain ⟨A, hAe⟩ : ∃ A, A = va_A (wM cI cJ cZ m0 m1 m2 m3 m4 m5 m6 m7 m8 m9 m10 m11 m12 m13 M_posts M_roads M_size M_rows M_nextRows M_first M_second M_number M_lists M_square M_fan M_trial M_touching M_having M_most M_only M_can M_next) s.heap.size := ⟨_, rfl⟩
  have hA : ∀ q : Nat, s.heap.size ≤ q → A q := fun q h => by rw [hAe]; exact Or.inr h
  have hI : WI D A s.heap (wM cI cJ cZ m0 m1 m2 m3 m4 m5 m6 m7 m8 m9 m10 m11 m12 m13 M_posts M_roads M_size M_rows M_nextRows M_first M_second M_number M_lists M_square M_fan M_trial M_touching M_having M_most M_only M_can M_next) s.heap [] := ⟨hP, by rw [hAe]; exact hD0.self, va_S.rf⟩
  have hl := lv_entry [.ref m0, .int a1] (n := 2) (Nat.le_of_ble_eq_true rfl)
  rw [lg_entry_eq]
  generalize (lg_sl [.ref m0, .int a1] ++ List.replicate (2 - (lg_sl [.ref m0, .int a1]).length) Slot.unset).toArray = ls at hl ⊢
  replace hl : lv_has ls 2 [(0, .ref m0), (1, .int a1)] := hl
  obtain ⟨x, hf, hM⟩ : ∃ x, FX8_isRoad M_roads a1 = some x ∧ x = out := ⟨out, hf, rfl⟩
  refine lv_iload_n hx hb dX8_isRoad_0 rfl (lv_at hl 1 rfl) ?_
  refine lv_iconst (v := 0) hx hb dX8_isRoad_1 (by decide) ?_
  refine lv_aload_n hx hb dX8_isRoad_2 rfl (lv_at hl 0 rfl) ?_
  refine w_get hx hb hg hown hK hI iX8 0 rfl rfl 1 (by decide) wF_RX8_57 rfl dX8_isRoad_3 ?_
  refine lv_iconst (v := 1) hx hb dX8_isRoad_6 (by decide) ?_
  refine lv_isub hx hb dX8_isRoad_7 ?_
  obtain ⟨x1, hx1, hf⟩ := bd_e hf
  refine w_S (rest := []) hx hb hml hg hown hK (kX8_in l D cI cJ cZ a1 (0 : Int32) (M_roads - (1 : Int32)) x1 hx1) ksX8_in wL_RX8_60 ⟨Nat.le_of_ble_eq_true rfl, Nat.le_of_ble_eq_true rfl⟩ ⟨rfl, rfl⟩ rfl rfl hl.1 (Nat.le_of_ble_eq_true rfl) dX8_isRoad_8 ⟨Nat.zero_le _, Nat.zero_le _⟩ ?_
  obtain ⟨hz, hf⟩ := zb_e hf
  replace hf := Option.some.inj hf
  subst hf
  replace hM : x1 = out := hM
  subst hM
  exact rt_i (u := ()) hx hb hr hlocks (zb_n hz) hI hAe rfl dX8_isRoad_11
noncomputable def FX8_ends (M_first : Nat → Int32) (M_second : Nat → Int32) (a1 : Int32) (a2 : Int32) : Option (Int32) :=
  rd M_first 24 a1 (fun x1 => if x1 = a2 then (some (1 : Int32)) else (rd M_second 24 a1 (fun x2 => if x2 = a2 then (some (1 : Int32)) else (some (0 : Int32)))))
abbrev GX8_ends (p : Program) (l : Launch) (e : Env) (s : State) (m : MethodId) (below : List Frame) (meth : Method) (c : Code) (D : va_G) (cI cJ cZ : ClassId) (m0 m1 m2 m3 m4 m5 m6 m7 m8 m9 m10 m11 m12 m13 : Nat) (M_posts : Int32) (M_roads : Int32) (M_size : Int32) (M_rows : Int32) (M_nextRows : Int32) (M_first : Nat → Int32) (M_second : Nat → Int32) (M_number : Nat → Int32) (M_lists : Nat → Int32) (M_square : Nat → Int32) (M_fan : Nat → Int32) (M_trial : Nat → Int32) (M_touching : Nat → Int32) (M_having : Nat → Int32) (M_most : Nat → Int32) (M_only : Nat → Int32) (M_can : Nat → Int32) (M_next : Nat → Int32) (a1 : Int32) (a2 : Int32) (out : Int32) (H : Heap) (locs : List Loc) (g : JFrame) : Prop := W p l e (headSpec (Cond.code yX8_ends cX8_ends 3 (some .boolean) :: GW) { frames := 0, cells := 0, slots := 0, locals := 0 }).room s m ([.ref m0, .int a1, .int a2] : List Value).toArray below meth c H locs 0 0 (MQ below (va_Qi (fun r (_ : Unit) => r = out) (BW D (wM cI cJ cZ m0 m1 m2 m3 m4 m5 m6 m7 m8 m9 m10 m11 m12 m13 M_posts M_roads M_size M_rows M_nextRows M_first M_second M_number M_lists M_square M_fan M_trial M_touching M_having M_most M_only M_can M_next) s.heap.size (fun _ => (wM cI cJ cZ m0 m1 m2 m3 m4 m5 m6 m7 m8 m9 m10 m11 m12 m13 M_posts M_roads M_size M_rows M_nextRows M_first M_second M_number M_lists M_square M_fan M_trial M_touching M_having M_most M_only M_can M_next))) (va_A (wM cI cJ cZ m0 m1 m2 m3 m4 m5 m6 m7 m8 m9 m10 m11 m12 m13 M_posts M_roads M_size M_rows M_nextRows M_first M_second M_number M_lists M_square M_fan M_trial M_touching M_having M_most M_only M_can M_next) s.heap.size)) ([.ref m0, .int a1, .int a2] : List Value).toArray s 0 0 (va_A (wM cI cJ cZ m0 m1 m2 m3 m4 m5 m6 m7 m8 m9 m10 m11 m12 m13 M_posts M_roads M_size M_rows M_nextRows M_first M_second M_number M_lists M_square M_fan M_trial M_touching M_having M_most M_only M_can M_next) s.heap.size)) g
theorem kvX8_ends : CalV RX8 yX8_ends cX8_ends 3 (some .boolean) 2 := ⟨wC_yX8_ends, wM_yX8_ends, wS_yX8_ends, wI_RX8, by decide +kernel⟩
set_option maxHeartbeats 4000000 in
set_option maxRecDepth 100000 in
theorem kX8_ends (l : Launch) (D : va_G) (cI cJ cZ : ClassId) (m0 m1 m2 m3 m4 m5 m6 m7 m8 m9 m10 m11 m12 m13 : Nat) (M_posts : Int32) (M_roads : Int32) (M_size : Int32) (M_rows : Int32) (M_nextRows : Int32) (M_first : Nat → Int32) (M_second : Nat → Int32) (M_number : Nat → Int32) (M_lists : Nat → Int32) (M_square : Nat → Int32) (M_fan : Nat → Int32) (M_trial : Nat → Int32) (M_touching : Nat → Int32) (M_having : Nat → Int32) (M_most : Nat → Int32) (M_only : Nat → Int32) (M_can : Nat → Int32) (M_next : Nat → Int32) (a1 : Int32) (a2 : Int32) (out : Int32) (hf : FX8_ends M_first M_second a1 a2 = some out) : MI l yX8_ends (Cond.code yX8_ends cX8_ends 3 (some .boolean) :: GW) { frames := 0, cells := 0, slots := 0, locals := 0 } D cI cJ cZ [.ref m0, .int a1, .int a2] (wM cI cJ cZ m0 m1 m2 m3 m4 m5 m6 m7 m8 m9 m10 m11 m12 m13 M_posts M_roads M_size M_rows M_nextRows M_first M_second M_number M_lists M_square M_fan M_trial M_touching M_having M_most M_only M_can M_next) (fun r (_ : Unit) => r = out) (fun _ => (wM cI cJ cZ m0 m1 m2 m3 m4 m5 m6 m7 m8 m9 m10 m11 m12 m13 M_posts M_roads M_size M_rows M_nextRows M_first M_second M_number M_lists M_square M_fan M_trial M_touching M_having M_most M_only M_can M_next)) := by
  intro sz
  refine Met.ofW (cc := cX8_ends) (maxL := 3) (ret := (some .boolean)) (by decide +kernel) rfl ?_
  intro p e s m args below meth c s₁ B hml hv
  obtain ⟨rfl, hsz, hP, hK, hD0⟩ := hv
  have hx := B.exec
  have hb := B.bytes
  have hr := B.returns
  have hlocks := B.notSynchronized
  have hg : ∀ w ∈ GW, w.before _ s = true := fun w h => atoms_spec (ws := Cond.code yX8_ends cX8_ends 3 (some .boolean) :: GW) B.pre w (List.mem_cons_of_mem _ h)
  have hown : s.vm.findClass RX8 = some m.cls := findClass_of_methodNamed B.named
  subst hsz
  obtain ⟨A, hAe⟩ : ∃ A, A = va_A (wM cI cJ cZ m0 m1 m2 m3 m4 m5 m6 m7 m8 m9 m10 m11 m12 m13 M_posts M_roads M_size M_rows M_nextRows M_first M_second M_number M_lists M_square M_fan M_trial M_touching M_having M_most M_only M_can M_next) s.heap.size := ⟨_, rfl⟩
  have hA : ∀ q : Nat, s.heap.size ≤ q → A q := fun q h => by rw [hAe]; exact Or.inr h
  have hI : WI D A s.heap (wM cI cJ cZ m0 m1 m2 m3 m4 m5 m6 m7 m8 m9 m10 m11 m12 m13 M_posts M_roads M_size M_rows M_nextRows M_first M_second M_number M_lists M_square M_fan M_trial M_touching M_having M_most M_only M_can M_next) s.heap [] := ⟨hP, by rw [hAe]; exact hD0.self, va_S.rf⟩
  have hl := lv_entry [.ref m0, .int a1, .int a2] (n := 3) (Nat.le_of_ble_eq_true rfl)
  rw [lg_entry_eq]
  generalize (lg_sl [.ref m0, .int a1, .int a2] ++ List.replicate (3 - (lg_sl [.ref m0, .int a1, .int a2]).length) Slot.unset).toArray = ls at hl ⊢
  replace hl : lv_has ls 3 [(0, .ref m0), (1, .int a1), (2, .int a2)] := hl
  obtain ⟨x, hf, hM⟩ : ∃ x, FX8_ends M_first M_second a1 a2 = some x ∧ x = out := ⟨out, hf, rfl⟩
  refine lv_aload_n hx hb dX8_ends_0 rfl (lv_at hl 0 rfl) ?_
  refine w_get hx hb hg hown hK hI iX8 0 rfl rfl 2 (by decide) wF_RX8_7 rfl dX8_ends_1 ?_
  refine lv_iload_n hx hb dX8_ends_4 rfl (lv_at hl 1 rfl) ?_
  obtain ⟨hin, hf⟩ := rd_e hf
  refine w_iald hx hb hK hI 1 rfl hin dX8_ends_5 (fun x1 ex1 => ?_)
  replace hf := hf x1 ex1
  refine lv_iload_n hx hb dX8_ends_6 rfl (lv_at hl 2 rfl) ?_
  refine lv_icmp_eq (tgt := 20) hx hb dX8_ends_7 (by decide) (fun hc => ?_) (fun hc => ?_)
  · replace hf := ite_t hc hf
    refine lv_iconst (v := 1) hx hb dX8_ends_20 (by decide) ?_
    refine lv_goto (tgt := 25) hx hb dX8_ends_21 (by decide) ?_
    replace hf := Option.some.inj hf
    subst hf
    replace hM : (1 : Int32) = out := hM
    subst hM
    exact rt_i (u := ()) hx hb hr hlocks (by decide) hI hAe rfl dX8_ends_25
  · replace hf := ite_f hc hf
    refine lv_aload_n hx hb dX8_ends_10 rfl (lv_at hl 0 rfl) ?_
    refine w_get hx hb hg hown hK hI iX8 0 rfl rfl 3 (by decide) wF_RX8_13 rfl dX8_ends_11 ?_
    refine lv_iload_n hx hb dX8_ends_14 rfl (lv_at hl 1 rfl) ?_
    obtain ⟨hin, hf⟩ := rd_e hf
    refine w_iald hx hb hK hI 2 rfl hin dX8_ends_15 (fun x2 ex2 => ?_)
    replace hf := hf x2 ex2
    refine lv_iload_n hx hb dX8_ends_16 rfl (lv_at hl 2 rfl) ?_
    refine lv_icmp_ne (tgt := 24) hx hb dX8_ends_17 (by decide) (fun hc => ?_) (fun hc => ?_)
    · replace hf := ite_f hc hf
      refine lv_iconst (v := 0) hx hb dX8_ends_24 (by decide) ?_
      replace hf := Option.some.inj hf
      subst hf
      replace hM : (0 : Int32) = out := hM
      subst hM
      exact rt_i (u := ()) hx hb hr hlocks (by decide) hI hAe rfl dX8_ends_25
    · replace hf := ite_t hc hf
      refine lv_iconst (v := 1) hx hb dX8_ends_20 (by decide) ?_
      refine lv_goto (tgt := 25) hx hb dX8_ends_21 (by decide) ?_
      replace hf := Option.some.inj hf
      subst hf
      replace hM : (1 : Int32) = out := hM
      subst hM
      exact rt_i (u := ()) hx hb hr hlocks (by decide) hI hAe rfl dX8_ends_25
noncomputable def FX8_meet (M_first : Nat → Int32) (M_second : Nat → Int32) (a1 : Int32) (a2 : Int32) : Option (Int32) :=
  rd M_first 24 a2 (fun x1 => (FX8_ends M_first M_second a1 x1).bind (fun o2 => if o2 = (0 : Int32) then (rd M_second 24 a2 (fun x3 => (FX8_ends M_first M_second a1 x3).bind (fun o4 => if o4 = (0 : Int32) then (some (0 : Int32)) else (some (1 : Int32))))) else (some (1 : Int32))))
abbrev GX8_meet (p : Program) (l : Launch) (e : Env) (s : State) (m : MethodId) (below : List Frame) (meth : Method) (c : Code) (D : va_G) (cI cJ cZ : ClassId) (m0 m1 m2 m3 m4 m5 m6 m7 m8 m9 m10 m11 m12 m13 : Nat) (M_posts : Int32) (M_roads : Int32) (M_size : Int32) (M_rows : Int32) (M_nextRows : Int32) (M_first : Nat → Int32) (M_second : Nat → Int32) (M_number : Nat → Int32) (M_lists : Nat → Int32) (M_square : Nat → Int32) (M_fan : Nat → Int32) (M_trial : Nat → Int32) (M_touching : Nat → Int32) (M_having : Nat → Int32) (M_most : Nat → Int32) (M_only : Nat → Int32) (M_can : Nat → Int32) (M_next : Nat → Int32) (a1 : Int32) (a2 : Int32) (out : Int32) (H : Heap) (locs : List Loc) (g : JFrame) : Prop := W p l e (headSpec (Cond.code yX8_meet cX8_meet 3 (some .boolean) :: GW) { frames := 1, cells := 0, slots := 0, locals := 22 }).room s m ([.ref m0, .int a1, .int a2] : List Value).toArray below meth c H locs 0 0 (MQ below (va_Qi (fun r (_ : Unit) => r = out) (BW D (wM cI cJ cZ m0 m1 m2 m3 m4 m5 m6 m7 m8 m9 m10 m11 m12 m13 M_posts M_roads M_size M_rows M_nextRows M_first M_second M_number M_lists M_square M_fan M_trial M_touching M_having M_most M_only M_can M_next) s.heap.size (fun _ => (wM cI cJ cZ m0 m1 m2 m3 m4 m5 m6 m7 m8 m9 m10 m11 m12 m13 M_posts M_roads M_size M_rows M_nextRows M_first M_second M_number M_lists M_square M_fan M_trial M_touching M_having M_most M_only M_can M_next))) (va_A (wM cI cJ cZ m0 m1 m2 m3 m4 m5 m6 m7 m8 m9 m10 m11 m12 m13 M_posts M_roads M_size M_rows M_nextRows M_first M_second M_number M_lists M_square M_fan M_trial M_touching M_having M_most M_only M_can M_next) s.heap.size)) ([.ref m0, .int a1, .int a2] : List Value).toArray s 0 0 (va_A (wM cI cJ cZ m0 m1 m2 m3 m4 m5 m6 m7 m8 m9 m10 m11 m12 m13 M_posts M_roads M_size M_rows M_nextRows M_first M_second M_number M_lists M_square M_fan M_trial M_touching M_having M_most M_only M_can M_next) s.heap.size)) g
theorem kvX8_meet : CalV RX8 yX8_meet cX8_meet 3 (some .boolean) 2 := ⟨wC_yX8_meet, wM_yX8_meet, wS_yX8_meet, wI_RX8, by decide +kernel⟩
set_option maxHeartbeats 4000000 in
set_option maxRecDepth 100000 in
theorem kX8_meet (l : Launch) (D : va_G) (cI cJ cZ : ClassId) (m0 m1 m2 m3 m4 m5 m6 m7 m8 m9 m10 m11 m12 m13 : Nat) (M_posts : Int32) (M_roads : Int32) (M_size : Int32) (M_rows : Int32) (M_nextRows : Int32) (M_first : Nat → Int32) (M_second : Nat → Int32) (M_number : Nat → Int32) (M_lists : Nat → Int32) (M_square : Nat → Int32) (M_fan : Nat → Int32) (M_trial : Nat → Int32) (M_touching : Nat → Int32) (M_having : Nat → Int32) (M_most : Nat → Int32) (M_only : Nat → Int32) (M_can : Nat → Int32) (M_next : Nat → Int32) (a1 : Int32) (a2 : Int32) (out : Int32) (hf : FX8_meet M_first M_second a1 a2 = some out) : MI l yX8_meet (Cond.code yX8_meet cX8_meet 3 (some .boolean) :: GW) { frames := 1, cells := 0, slots := 0, locals := 22 } D cI cJ cZ [.ref m0, .int a1, .int a2] (wM cI cJ cZ m0 m1 m2 m3 m4 m5 m6 m7 m8 m9 m10 m11 m12 m13 M_posts M_roads M_size M_rows M_nextRows M_first M_second M_number M_lists M_square M_fan M_trial M_touching M_having M_most M_only M_can M_next) (fun r (_ : Unit) => r = out) (fun _ => (wM cI cJ cZ m0 m1 m2 m3 m4 m5 m6 m7 m8 m9 m10 m11 m12 m13 M_posts M_roads M_size M_rows M_nextRows M_first M_second M_number M_lists M_square M_fan M_trial M_touching M_having M_most M_only M_can M_next)) := by
  intro sz
  refine Met.ofW (cc := cX8_meet) (maxL := 3) (ret := (some .boolean)) (by decide +kernel) rfl ?_
  intro p e s m args below meth c s₁ B hml hv
  obtain ⟨rfl, hsz, hP, hK, hD0⟩ := hv
  have hx := B.exec
  have hb := B.bytes
  have hr := B.returns
  have hlocks := B.notSynchronized
  have hg : ∀ w ∈ GW, w.before _ s = true := fun w h => atoms_spec (ws := Cond.code yX8_meet cX8_meet 3 (some .boolean) :: GW) B.pre w (List.mem_cons_of_mem _ h)
  have hown : s.vm.findClass RX8 = some m.cls := findClass_of_methodNamed B.named
  subst hsz
  obtain ⟨A, hAe⟩ : ∃ A, A = va_A (wM cI cJ cZ m0 m1 m2 m3 m4 m5 m6 m7 m8 m9 m10 m11 m12 m13 M_posts M_roads M_size M_rows M_nextRows M_first M_second M_number M_lists M_square M_fan M_trial M_touching M_having M_most M_only M_can M_next) s.heap.size := ⟨_, rfl⟩
  have hA : ∀ q : Nat, s.heap.size ≤ q → A q := fun q h => by rw [hAe]; exact Or.inr h
  have hI : WI D A s.heap (wM cI cJ cZ m0 m1 m2 m3 m4 m5 m6 m7 m8 m9 m10 m11 m12 m13 M_posts M_roads M_size M_rows M_nextRows M_first M_second M_number M_lists M_square M_fan M_trial M_touching M_having M_most M_only M_can M_next) s.heap [] := ⟨hP, by rw [hAe]; exact hD0.self, va_S.rf⟩
  have hl := lv_entry [.ref m0, .int a1, .int a2] (n := 3) (Nat.le_of_ble_eq_true rfl)
  rw [lg_entry_eq]
  generalize (lg_sl [.ref m0, .int a1, .int a2] ++ List.replicate (3 - (lg_sl [.ref m0, .int a1, .int a2]).length) Slot.unset).toArray = ls at hl ⊢
  replace hl : lv_has ls 3 [(0, .ref m0), (1, .int a1), (2, .int a2)] := hl
  obtain ⟨x, hf, hM⟩ : ∃ x, FX8_meet M_first M_second a1 a2 = some x ∧ x = out := ⟨out, hf, rfl⟩
  refine lv_aload_n hx hb dX8_meet_0 rfl (lv_at hl 0 rfl) ?_
  refine lv_iload_n hx hb dX8_meet_1 rfl (lv_at hl 1 rfl) ?_
  refine lv_aload_n hx hb dX8_meet_2 rfl (lv_at hl 0 rfl) ?_
  refine w_get hx hb hg hown hK hI iX8 0 rfl rfl 2 (by decide) wF_RX8_7 rfl dX8_meet_3 ?_
  refine lv_iload_n hx hb dX8_meet_6 rfl (lv_at hl 2 rfl) ?_
  obtain ⟨hin, hf⟩ := rd_e hf
  refine w_iald hx hb hK hI 1 rfl hin dX8_meet_7 (fun x1 ex1 => ?_)
  replace hf := hf x1 ex1
  obtain ⟨o2, ho2, hf⟩ := bd_e hf
  refine w_Vi0 (wc := (wM cI cJ cZ m0 m1 m2 m3 m4 m5 m6 m7 m8 m9 m10 m11 m12 m13 M_posts M_roads M_size M_rows M_nextRows M_first M_second M_number M_lists M_square M_fan M_trial M_touching M_having M_most M_only M_can M_next)) (wr := []) (rest := []) hx hb hml hg hown hK hA hI (kX8_ends l D cI cJ cZ m0 m1 m2 m3 m4 m5 m6 m7 m8 m9 m10 m11 m12 m13 M_posts M_roads M_size M_rows M_nextRows M_first M_second M_number M_lists M_square M_fan M_trial M_touching M_having M_most M_only M_can M_next a1 x1 o2 ho2) kvX8_ends wL_RX8_64 ⟨Nat.le_of_ble_eq_true rfl, Nat.le_of_ble_eq_true rfl⟩ rfl rfl [0, 1, 2, 3, 4, 5, 6, 7, 8, 9, 10, 11, 12, 13] [] rfl rfl rfl rfl (by decide) rfl rfl hl.1 (Nat.le_of_ble_eq_true rfl) dX8_meet_8 ⟨Nat.zero_le _, Nat.zero_le _⟩ ⟨rfl, rfl⟩ (fun r u H locs hp hI => ?_)
  replace hp : r = o2 := hp
  rw [hp]
  clear hp
  replace hI : WI D A s.heap (wM cI cJ cZ m0 m1 m2 m3 m4 m5 m6 m7 m8 m9 m10 m11 m12 m13 M_posts M_roads M_size M_rows M_nextRows M_first M_second M_number M_lists M_square M_fan M_trial M_touching M_having M_most M_only M_can M_next) H locs := hI
  refine lv_if_ne (tgt := 28) hx hb dX8_meet_11 (by decide) (fun hc => ?_) (fun hc => ?_)
  · replace hf := ite_f hc hf
    refine lv_iconst (v := 1) hx hb dX8_meet_28 (by decide) ?_
    refine lv_goto (tgt := 33) hx hb dX8_meet_29 (by decide) ?_
    replace hf := Option.some.inj hf
    subst hf
    replace hM : (1 : Int32) = out := hM
    subst hM
    exact rt_i (u := ()) hx hb hr hlocks (by decide) hI hAe rfl dX8_meet_33
  · replace hf := ite_t hc hf
    refine lv_aload_n hx hb dX8_meet_14 rfl (lv_at hl 0 rfl) ?_
    refine lv_iload_n hx hb dX8_meet_15 rfl (lv_at hl 1 rfl) ?_
    refine lv_aload_n hx hb dX8_meet_16 rfl (lv_at hl 0 rfl) ?_
    refine w_get hx hb hg hown hK hI iX8 0 rfl rfl 3 (by decide) wF_RX8_13 rfl dX8_meet_17 ?_
    refine lv_iload_n hx hb dX8_meet_20 rfl (lv_at hl 2 rfl) ?_
    obtain ⟨hin, hf⟩ := rd_e hf
    refine w_iald hx hb hK hI 2 rfl hin dX8_meet_21 (fun x3 ex3 => ?_)
    replace hf := hf x3 ex3
    obtain ⟨o4, ho4, hf⟩ := bd_e hf
    refine w_Vi0 (wc := (wM cI cJ cZ m0 m1 m2 m3 m4 m5 m6 m7 m8 m9 m10 m11 m12 m13 M_posts M_roads M_size M_rows M_nextRows M_first M_second M_number M_lists M_square M_fan M_trial M_touching M_having M_most M_only M_can M_next)) (wr := []) (rest := []) hx hb hml hg hown hK hA hI (kX8_ends l D cI cJ cZ m0 m1 m2 m3 m4 m5 m6 m7 m8 m9 m10 m11 m12 m13 M_posts M_roads M_size M_rows M_nextRows M_first M_second M_number M_lists M_square M_fan M_trial M_touching M_having M_most M_only M_can M_next a1 x3 o4 ho4) kvX8_ends wL_RX8_64 ⟨Nat.le_of_ble_eq_true rfl, Nat.le_of_ble_eq_true rfl⟩ rfl rfl [0, 1, 2, 3, 4, 5, 6, 7, 8, 9, 10, 11, 12, 13] [] rfl rfl rfl rfl (by decide) rfl rfl hl.1 (Nat.le_of_ble_eq_true rfl) dX8_meet_22 ⟨Nat.zero_le _, Nat.zero_le _⟩ ⟨rfl, rfl⟩ (fun r u H locs hp hI => ?_)
    replace hp : r = o4 := hp
    rw [hp]
    clear hp
    replace hI : WI D A s.heap (wM cI cJ cZ m0 m1 m2 m3 m4 m5 m6 m7 m8 m9 m10 m11 m12 m13 M_posts M_roads M_size M_rows M_nextRows M_first M_second M_number M_lists M_square M_fan M_trial M_touching M_having M_most M_only M_can M_next) H locs := hI
    refine lv_if_eq (tgt := 32) hx hb dX8_meet_25 (by decide) (fun hc => ?_) (fun hc => ?_)
    · replace hf := ite_t hc hf
      refine lv_iconst (v := 0) hx hb dX8_meet_32 (by decide) ?_
      replace hf := Option.some.inj hf
      subst hf
      replace hM : (0 : Int32) = out := hM
      subst hM
      exact rt_i (u := ()) hx hb hr hlocks (by decide) hI hAe rfl dX8_meet_33
    · replace hf := ite_f hc hf
      refine lv_iconst (v := 1) hx hb dX8_meet_28 (by decide) ?_
      refine lv_goto (tgt := 33) hx hb dX8_meet_29 (by decide) ?_
      replace hf := Option.some.inj hf
      subst hf
      replace hM : (1 : Int32) = out := hM
      subst hM
      exact rt_i (u := ()) hx hb hr hlocks (by decide) hI hAe rfl dX8_meet_33
noncomputable def FX8_post (M_posts_0 : Int32)  : Option (Int32 × Int32) :=
  if M_posts_0 = (12 : Int32) then (some ((-2 : Int32), M_posts_0)) else (bnd (M_posts_0 + (1 : Int32)) (fun x1 => some ((x1 - (1 : Int32)), x1)))
abbrev GX8_post (p : Program) (l : Launch) (e : Env) (s : State) (m : MethodId) (below : List Frame) (meth : Method) (c : Code) (D : va_G) (cI cJ cZ : ClassId) (m0 m1 m2 m3 m4 m5 m6 m7 m8 m9 m10 m11 m12 m13 : Nat) (M_posts_0 : Int32) (M_roads : Int32) (M_size : Int32) (M_rows : Int32) (M_nextRows : Int32) (M_first : Nat → Int32) (M_second : Nat → Int32) (M_number : Nat → Int32) (M_lists : Nat → Int32) (M_square : Nat → Int32) (M_fan : Nat → Int32) (M_trial : Nat → Int32) (M_touching : Nat → Int32) (M_having : Nat → Int32) (M_most : Nat → Int32) (M_only : Nat → Int32) (M_can : Nat → Int32) (M_next : Nat → Int32)  (out : Int32 × Int32) (H : Heap) (locs : List Loc) (g : JFrame) : Prop := W p l e (headSpec (Cond.code yX8_post cX8_post 1 (some .int) :: GW) { frames := 0, cells := 0, slots := 0, locals := 0 }).room s m ([.ref m0] : List Value).toArray below meth c H locs 0 0 (MQ below (va_Qi (fun r (_ : Unit) => r = out.1) (BW D (wM cI cJ cZ m0 m1 m2 m3 m4 m5 m6 m7 m8 m9 m10 m11 m12 m13 M_posts_0 M_roads M_size M_rows M_nextRows M_first M_second M_number M_lists M_square M_fan M_trial M_touching M_having M_most M_only M_can M_next) s.heap.size (fun _ => (wM cI cJ cZ m0 m1 m2 m3 m4 m5 m6 m7 m8 m9 m10 m11 m12 m13 out.2 M_roads M_size M_rows M_nextRows M_first M_second M_number M_lists M_square M_fan M_trial M_touching M_having M_most M_only M_can M_next))) (va_A (wM cI cJ cZ m0 m1 m2 m3 m4 m5 m6 m7 m8 m9 m10 m11 m12 m13 M_posts_0 M_roads M_size M_rows M_nextRows M_first M_second M_number M_lists M_square M_fan M_trial M_touching M_having M_most M_only M_can M_next) s.heap.size)) ([.ref m0] : List Value).toArray s 0 0 (va_A (wM cI cJ cZ m0 m1 m2 m3 m4 m5 m6 m7 m8 m9 m10 m11 m12 m13 M_posts_0 M_roads M_size M_rows M_nextRows M_first M_second M_number M_lists M_square M_fan M_trial M_touching M_having M_most M_only M_can M_next) s.heap.size)) g
theorem kvX8_post : CalV RX8 yX8_post cX8_post 1 (some .int) 0 := ⟨wC_yX8_post, wM_yX8_post, wS_yX8_post, wI_RX8, by decide +kernel⟩
set_option maxHeartbeats 4000000 in
set_option maxRecDepth 100000 in
theorem kX8_post (l : Launch) (D : va_G) (cI cJ cZ : ClassId) (m0 m1 m2 m3 m4 m5 m6 m7 m8 m9 m10 m11 m12 m13 : Nat) (M_posts_0 : Int32) (M_roads : Int32) (M_size : Int32) (M_rows : Int32) (M_nextRows : Int32) (M_first : Nat → Int32) (M_second : Nat → Int32) (M_number : Nat → Int32) (M_lists : Nat → Int32) (M_square : Nat → Int32) (M_fan : Nat → Int32) (M_trial : Nat → Int32) (M_touching : Nat → Int32) (M_having : Nat → Int32) (M_most : Nat → Int32) (M_only : Nat → Int32) (M_can : Nat → Int32) (M_next : Nat → Int32)  (out : Int32 × Int32) (hf : FX8_post M_posts_0 = some out) : MI l yX8_post (Cond.code yX8_post cX8_post 1 (some .int) :: GW) { frames := 0, cells := 0, slots := 0, locals := 0 } D cI cJ cZ [.ref m0] (wM cI cJ cZ m0 m1 m2 m3 m4 m5 m6 m7 m8 m9 m10 m11 m12 m13 M_posts_0 M_roads M_size M_rows M_nextRows M_first M_second M_number M_lists M_square M_fan M_trial M_touching M_having M_most M_only M_can M_next) (fun r (_ : Unit) => r = out.1) (fun _ => (wM cI cJ cZ m0 m1 m2 m3 m4 m5 m6 m7 m8 m9 m10 m11 m12 m13 out.2 M_roads M_size M_rows M_nextRows M_first M_second M_number M_lists M_square M_fan M_trial M_touching M_having M_most M_only M_can M_next)) := by
  intro sz
  refine Met.ofW (cc := cX8_post) (maxL := 1) (ret := (some .int)) (by decide +kernel) rfl ?_
  intro p e s m args below meth c s₁ B hml hv
  obtain ⟨rfl, hsz, hP, hK, hD0⟩ := hv
  have hx := B.exec
  have hb := B.bytes
  have hr := B.returns
  have hlocks := B.notSynchronized
  have hg : ∀ w ∈ GW, w.before _ s = true := fun w h => atoms_spec (ws := Cond.code yX8_post cX8_post 1 (some .int) :: GW) B.pre w (List.mem_cons_of_mem _ h)
  have hown : s.vm.findClass RX8 = some m.cls := findClass_of_methodNamed B.named
  subst hsz
  obtain ⟨A, hAe⟩ : ∃ A, A = va_A (wM cI cJ cZ m0 m1 m2 m3 m4 m5 m6 m7 m8 m9 m10 m11 m12 m13 M_posts_0 M_roads M_size M_rows M_nextRows M_first M_second M_number M_lists M_square M_fan M_trial M_touching M_having M_most M_only M_can M_next) s.heap.size := ⟨_, rfl⟩
  have hA : ∀ q : Nat, s.heap.size ≤ q → A q := fun q h => by rw [hAe]; exact Or.inr h
  have hI : WI D A s.heap (wM cI cJ cZ m0 m1 m2 m3 m4 m5 m6 m7 m8 m9 m10 m11 m12 m13 M_posts_0 M_roads M_size M_rows M_nextRows M_first M_second M_number M_lists M_square M_fan M_trial M_touching M_having M_most M_only M_can M_next) s.heap [] := ⟨hP, by rw [hAe]; exact hD0.self, va_S.rf⟩
  have hl := lv_entry [.ref m0] (n := 1) (Nat.le_of_ble_eq_true rfl)
  rw [lg_entry_eq]
  generalize (lg_sl [.ref m0] ++ List.replicate (1 - (lg_sl [.ref m0]).length) Slot.unset).toArray = ls at hl ⊢
  replace hl : lv_has ls 1 [(0, .ref m0)] := hl
  obtain ⟨x, hf, hM⟩ : ∃ x, FX8_post M_posts_0 = some x ∧ x = out := ⟨out, hf, rfl⟩
  refine lv_aload_n hx hb dX8_post_0 rfl (lv_at hl 0 rfl) ?_
  refine w_get hx hb hg hown hK hI iX8 0 rfl rfl 0 (by decide) wF_RX8_68 rfl dX8_post_1 ?_
  refine lv_bipush (v := 12) hx hb dX8_post_4 (by decide) ?_
  refine lv_icmp_ne (tgt := 12) hx hb dX8_post_6 (by decide) (fun hc => ?_) (fun hc => ?_)
  · replace hf := ite_f hc hf
    refine lv_aload_n hx hb dX8_post_12 rfl (lv_at hl 0 rfl) ?_
    refine lv_dup hx hb dX8_post_13 rfl ?_
    refine w_get hx hb hg hown hK hI iX8 0 rfl rfl 0 (by decide) wF_RX8_68 rfl dX8_post_14 ?_
    refine lv_iconst (v := 1) hx hb dX8_post_17 (by decide) ?_
    refine lv_iadd hx hb dX8_post_18 ?_
    refine lv_topi (fun x1 ex1 => ?_)
    replace hf := bnd_e hf x1 ex1
    refine w_put (W1 := (wM cI cJ cZ m0 m1 m2 m3 m4 m5 m6 m7 m8 m9 m10 m11 m12 m13 x1 M_roads M_size M_rows M_nextRows M_first M_second M_number M_lists M_square M_fan M_trial M_touching M_having M_most M_only M_can M_next)) hx hb hg hown hK hI iX8 tyX8 tyX8_ok nmX8 0 rfl rfl 0 (by decide) wF_RX8_68 rfl (tyX8_ok 0 (by decide)) rfl rfl (Nat.le_of_ble_eq_true rfl) dX8_post_19 rfl (fun H locs hI => ?_)
    refine lv_aload_n hx hb dX8_post_22 rfl (lv_at hl 0 rfl) ?_
    refine w_get hx hb hg hown hK hI iX8 0 rfl rfl 0 (by decide) wF_RX8_68 rfl dX8_post_23 ?_
    refine lv_iconst (v := 1) hx hb dX8_post_26 (by decide) ?_
    refine lv_isub hx hb dX8_post_27 ?_
    replace hf := Option.some.inj hf
    subst hf
    replace hM : ((x1 - (1 : Int32)), x1) = out := hM
    subst hM
    exact rt_i (u := ()) hx hb hr hlocks rfl hI hAe rfl dX8_post_28
  · replace hf := ite_t hc hf
    refine lv_bipush (v := -2) hx hb dX8_post_9 (by decide) ?_
    replace hf := Option.some.inj hf
    subst hf
    replace hM : ((-2 : Int32), M_posts_0) = out := hM
    subst hM
    exact rt_i (u := ()) hx hb hr hlocks rfl hI hAe rfl dX8_post_11
noncomputable def FX8_road (M_posts : Int32) (M_roads_0 : Int32) (M_first_0 : Nat → Int32) (M_second_0 : Nat → Int32) (M_number_0 : Nat → Int32) (M_lists_0 : Nat → Int32) (a1 : Int32) (a2 : Int32) : Option (Int32 × Int32 × (Nat → Int32) × (Nat → Int32) × (Nat → Int32) × (Nat → Int32)) :=
  (FX8_in a1 (0 : Int32) (M_posts - (1 : Int32))).bind (fun x1 => if x1 = (0 : Int32) then (some ((-2 : Int32), M_roads_0, M_first_0, M_second_0, M_number_0, M_lists_0)) else ((FX8_in a2 (0 : Int32) (M_posts - (1 : Int32))).bind (fun x2 => if x2 = (0 : Int32) then (some ((-2 : Int32), M_roads_0, M_first_0, M_second_0, M_number_0, M_lists_0)) else (if a1 = a2 then (some ((-2 : Int32), M_roads_0, M_first_0, M_second_0, M_number_0, M_lists_0)) else (if M_roads_0 = (24 : Int32) then (some ((-2 : Int32), M_roads_0, M_first_0, M_second_0, M_number_0, M_lists_0)) else (wr M_first_0 24 M_roads_0 a1 (fun g3 => wr M_second_0 24 M_roads_0 a2 (fun g4 => wr M_number_0 24 M_roads_0 (-1 : Int32) (fun g5 => wr M_lists_0 24 M_roads_0 (65535 : Int32) (fun g6 => bnd (M_roads_0 + (1 : Int32)) (fun x7 => some ((x7 - (1 : Int32)), x7, g3, g4, g5, g6))))))))))))
abbrev GX8_road (p : Program) (l : Launch) (e : Env) (s : State) (m : MethodId) (below : List Frame) (meth : Method) (c : Code) (D : va_G) (cI cJ cZ : ClassId) (m0 m1 m2 m3 m4 m5 m6 m7 m8 m9 m10 m11 m12 m13 : Nat) (M_posts : Int32) (M_roads_0 : Int32) (M_size : Int32) (M_rows : Int32) (M_nextRows : Int32) (M_first_0 : Nat → Int32) (M_second_0 : Nat → Int32) (M_number_0 : Nat → Int32) (M_lists_0 : Nat → Int32) (M_square : Nat → Int32) (M_fan : Nat → Int32) (M_trial : Nat → Int32) (M_touching : Nat → Int32) (M_having : Nat → Int32) (M_most : Nat → Int32) (M_only : Nat → Int32) (M_can : Nat → Int32) (M_next : Nat → Int32) (a1 : Int32) (a2 : Int32) (out : Int32 × Int32 × (Nat → Int32) × (Nat → Int32) × (Nat → Int32) × (Nat → Int32)) (H : Heap) (locs : List Loc) (g : JFrame) : Prop := W p l e (headSpec (Cond.code yX8_road cX8_road 3 (some .int) :: GW) { frames := 1, cells := 0, slots := 0, locals := 22 }).room s m ([.ref m0, .int a1, .int a2] : List Value).toArray below meth c H locs 0 0 (MQ below (va_Qi (fun r (_ : Unit) => r = out.1) (BW D (wM cI cJ cZ m0 m1 m2 m3 m4 m5 m6 m7 m8 m9 m10 m11 m12 m13 M_posts M_roads_0 M_size M_rows M_nextRows M_first_0 M_second_0 M_number_0 M_lists_0 M_square M_fan M_trial M_touching M_having M_most M_only M_can M_next) s.heap.size (fun _ => (wM cI cJ cZ m0 m1 m2 m3 m4 m5 m6 m7 m8 m9 m10 m11 m12 m13 M_posts out.2.1 M_size M_rows M_nextRows out.2.2.1 out.2.2.2.1 out.2.2.2.2.1 out.2.2.2.2.2 M_square M_fan M_trial M_touching M_having M_most M_only M_can M_next))) (va_A (wM cI cJ cZ m0 m1 m2 m3 m4 m5 m6 m7 m8 m9 m10 m11 m12 m13 M_posts M_roads_0 M_size M_rows M_nextRows M_first_0 M_second_0 M_number_0 M_lists_0 M_square M_fan M_trial M_touching M_having M_most M_only M_can M_next) s.heap.size)) ([.ref m0, .int a1, .int a2] : List Value).toArray s 0 0 (va_A (wM cI cJ cZ m0 m1 m2 m3 m4 m5 m6 m7 m8 m9 m10 m11 m12 m13 M_posts M_roads_0 M_size M_rows M_nextRows M_first_0 M_second_0 M_number_0 M_lists_0 M_square M_fan M_trial M_touching M_having M_most M_only M_can M_next) s.heap.size)) g
theorem kvX8_road : CalV RX8 yX8_road cX8_road 3 (some .int) 2 := ⟨wC_yX8_road, wM_yX8_road, wS_yX8_road, wI_RX8, by decide +kernel⟩
set_option maxHeartbeats 4000000 in
set_option maxRecDepth 100000 in
theorem kX8_road (l : Launch) (D : va_G) (cI cJ cZ : ClassId) (m0 m1 m2 m3 m4 m5 m6 m7 m8 m9 m10 m11 m12 m13 : Nat) (M_posts : Int32) (M_roads_0 : Int32) (M_size : Int32) (M_rows : Int32) (M_nextRows : Int32) (M_first_0 : Nat → Int32) (M_second_0 : Nat → Int32) (M_number_0 : Nat → Int32) (M_lists_0 : Nat → Int32) (M_square : Nat → Int32) (M_fan : Nat → Int32) (M_trial : Nat → Int32) (M_touching : Nat → Int32) (M_having : Nat → Int32) (M_most : Nat → Int32) (M_only : Nat → Int32) (M_can : Nat → Int32) (M_next : Nat → Int32) (a1 : Int32) (a2 : Int32) (out : Int32 × Int32 × (Nat → Int32) × (Nat → Int32) × (Nat → Int32) × (Nat → Int32)) (hf : FX8_road M_posts M_roads_0 M_first_0 M_second_0 M_number_0 M_lists_0 a1 a2 = some out) : MI l yX8_road (Cond.code yX8_road cX8_road 3 (some .int) :: GW) { frames := 1, cells := 0, slots := 0, locals := 22 } D cI cJ cZ [.ref m0, .int a1, .int a2] (wM cI cJ cZ m0 m1 m2 m3 m4 m5 m6 m7 m8 m9 m10 m11 m12 m13 M_posts M_roads_0 M_size M_rows M_nextRows M_first_0 M_second_0 M_number_0 M_lists_0 M_square M_fan M_trial M_touching M_having M_most M_only M_can M_next) (fun r (_ : Unit) => r = out.1) (fun _ => (wM cI cJ cZ m0 m1 m2 m3 m4 m5 m6 m7 m8 m9 m10 m11 m12 m13 M_posts out.2.1 M_size M_rows M_nextRows out.2.2.1 out.2.2.2.1 out.2.2.2.2.1 out.2.2.2.2.2 M_square M_fan M_trial M_touching M_having M_most M_only M_can M_next)) := by
  intro sz
  refine Met.ofW (cc := cX8_road) (maxL := 3) (ret := (some .int)) (by decide +kernel) rfl ?_
  intro p e s m args below meth c s₁ B hml hv
  obtain ⟨rfl, hsz, hP, hK, hD0⟩ := hv
  have hx := B.exec
  have hb := B.bytes
  have hr := B.returns
  have hlocks := B.notSynchronized
  have hg : ∀ w ∈ GW, w.before _ s = true := fun w h => atoms_spec (ws := Cond.code yX8_road cX8_road 3 (some .int) :: GW) B.pre w (List.mem_cons_of_mem _ h)
  have hown : s.vm.findClass RX8 = some m.cls := findClass_of_methodNamed B.named
  subst hsz
  obtain ⟨A, hAe⟩ : ∃ A, A = va_A (wM cI cJ cZ m0 m1 m2 m3 m4 m5 m6 m7 m8 m9 m10 m11 m12 m13 M_posts M_roads_0 M_size M_rows M_nextRows M_first_0 M_second_0 M_number_0 M_lists_0 M_square M_fan M_trial M_touching M_having M_most M_only M_can M_next) s.heap.size := ⟨_, rfl⟩
  have hA : ∀ q : Nat, s.heap.size ≤ q → A q := fun q h => by rw [hAe]; exact Or.inr h
  have hI : WI D A s.heap (wM cI cJ cZ m0 m1 m2 m3 m4 m5 m6 m7 m8 m9 m10 m11 m12 m13 M_posts M_roads_0 M_size M_rows M_nextRows M_first_0 M_second_0 M_number_0 M_lists_0 M_square M_fan M_trial M_touching M_having M_most M_only M_can M_next) s.heap [] := ⟨hP, by rw [hAe]; exact hD0.self, va_S.rf⟩
  have hl := lv_entry [.ref m0, .int a1, .int a2] (n := 3) (Nat.le_of_ble_eq_true rfl)
  rw [lg_entry_eq]
  generalize (lg_sl [.ref m0, .int a1, .int a2] ++ List.replicate (3 - (lg_sl [.ref m0, .int a1, .int a2]).length) Slot.unset).toArray = ls at hl ⊢
  replace hl : lv_has ls 3 [(0, .ref m0), (1, .int a1), (2, .int a2)] := hl
  obtain ⟨x, hf, hM⟩ : ∃ x, FX8_road M_posts M_roads_0 M_first_0 M_second_0 M_number_0 M_lists_0 a1 a2 = some x ∧ x = out := ⟨out, hf, rfl⟩
  refine lv_iload_n hx hb dX8_road_0 rfl (lv_at hl 1 rfl) ?_
  refine lv_iconst (v := 0) hx hb dX8_road_1 (by decide) ?_
  refine lv_aload_n hx hb dX8_road_2 rfl (lv_at hl 0 rfl) ?_
  refine w_get hx hb hg hown hK hI iX8 0 rfl rfl 0 (by decide) wF_RX8_68 rfl dX8_road_3 ?_
  refine lv_iconst (v := 1) hx hb dX8_road_6 (by decide) ?_
  refine lv_isub hx hb dX8_road_7 ?_
  obtain ⟨x1, hx1, hf⟩ := bd_e hf
  refine w_S (rest := []) hx hb hml hg hown hK (kX8_in l D cI cJ cZ a1 (0 : Int32) (M_posts - (1 : Int32)) x1 hx1) ksX8_in wL_RX8_60 ⟨Nat.le_of_ble_eq_true rfl, Nat.le_of_ble_eq_true rfl⟩ ⟨rfl, rfl⟩ rfl rfl hl.1 (Nat.le_of_ble_eq_true rfl) dX8_road_8 ⟨Nat.zero_le _, Nat.zero_le _⟩ ?_
  refine lv_if_eq (tgt := 42) hx hb dX8_road_11 (by decide) (fun hc => ?_) (fun hc => ?_)
  · replace hf := ite_t hc hf
    refine lv_bipush (v := -2) hx hb dX8_road_42 (by decide) ?_
    replace hf := Option.some.inj hf
    subst hf
    replace hM : ((-2 : Int32), M_roads_0, M_first_0, M_second_0, M_number_0, M_lists_0) = out := hM
    subst hM
    exact rt_i (u := ()) hx hb hr hlocks rfl hI hAe rfl dX8_road_44
  · replace hf := ite_f hc hf
    refine lv_iload_n hx hb dX8_road_14 rfl (lv_at hl 2 rfl) ?_
    refine lv_iconst (v := 0) hx hb dX8_road_15 (by decide) ?_
    refine lv_aload_n hx hb dX8_road_16 rfl (lv_at hl 0 rfl) ?_
    refine w_get hx hb hg hown hK hI iX8 0 rfl rfl 0 (by decide) wF_RX8_68 rfl dX8_road_17 ?_
    refine lv_iconst (v := 1) hx hb dX8_road_20 (by decide) ?_
    refine lv_isub hx hb dX8_road_21 ?_
    obtain ⟨x2, hx2, hf⟩ := bd_e hf
    refine w_S (rest := []) hx hb hml hg hown hK (kX8_in l D cI cJ cZ a2 (0 : Int32) (M_posts - (1 : Int32)) x2 hx2) ksX8_in wL_RX8_60 ⟨Nat.le_of_ble_eq_true rfl, Nat.le_of_ble_eq_true rfl⟩ ⟨rfl, rfl⟩ rfl rfl hl.1 (Nat.le_of_ble_eq_true rfl) dX8_road_22 ⟨Nat.zero_le _, Nat.zero_le _⟩ ?_
    refine lv_if_eq (tgt := 42) hx hb dX8_road_25 (by decide) (fun hc => ?_) (fun hc => ?_)
    · replace hf := ite_t hc hf
      refine lv_bipush (v := -2) hx hb dX8_road_42 (by decide) ?_
      replace hf := Option.some.inj hf
      subst hf
      replace hM : ((-2 : Int32), M_roads_0, M_first_0, M_second_0, M_number_0, M_lists_0) = out := hM
      subst hM
      exact rt_i (u := ()) hx hb hr hlocks rfl hI hAe rfl dX8_road_44
    · replace hf := ite_f hc hf
      refine lv_iload_n hx hb dX8_road_28 rfl (lv_at hl 1 rfl) ?_
      refine lv_iload_n hx hb dX8_road_29 rfl (lv_at hl 2 rfl) ?_
      refine lv_icmp_eq (tgt := 42) hx hb dX8_road_30 (by decide) (fun hc => ?_) (fun hc => ?_)
      · replace hf := ite_t hc hf
        refine lv_bipush (v := -2) hx hb dX8_road_42 (by decide) ?_
        replace hf := Option.some.inj hf
        subst hf
        replace hM : ((-2 : Int32), M_roads_0, M_first_0, M_second_0, M_number_0, M_lists_0) = out := hM
        subst hM
        exact rt_i (u := ()) hx hb hr hlocks rfl hI hAe rfl dX8_road_44
      · replace hf := ite_f hc hf
        refine lv_aload_n hx hb dX8_road_33 rfl (lv_at hl 0 rfl) ?_
        refine w_get hx hb hg hown hK hI iX8 0 rfl rfl 1 (by decide) wF_RX8_57 rfl dX8_road_34 ?_
        refine lv_bipush (v := 24) hx hb dX8_road_37 (by decide) ?_
        refine lv_icmp_ne (tgt := 45) hx hb dX8_road_39 (by decide) (fun hc => ?_) (fun hc => ?_)
        · replace hf := ite_f hc hf
          refine lv_aload_n hx hb dX8_road_45 rfl (lv_at hl 0 rfl) ?_
          refine w_get hx hb hg hown hK hI iX8 0 rfl rfl 2 (by decide) wF_RX8_7 rfl dX8_road_46 ?_
          refine lv_aload_n hx hb dX8_road_49 rfl (lv_at hl 0 rfl) ?_
          refine w_get hx hb hg hown hK hI iX8 0 rfl rfl 1 (by decide) wF_RX8_57 rfl dX8_road_50 ?_
          refine lv_iload_n hx hb dX8_road_53 rfl (lv_at hl 1 rfl) ?_
          obtain ⟨hin, hf⟩ := wr_e hf
          obtain ⟨g3, eg3⟩ : ∃ g : Nat → Int32, g = upd M_first_0 (M_roads_0).toNatClampNeg a1 := ⟨_, rfl⟩
          replace hf := hf g3 eg3
          refine w_iast (g := g3) (W1 := (wM cI cJ cZ m0 m1 m2 m3 m4 m5 m6 m7 m8 m9 m10 m11 m12 m13 M_posts M_roads_0 M_size M_rows M_nextRows g3 M_second_0 M_number_0 M_lists_0 M_square M_fan M_trial M_touching M_having M_most M_only M_can M_next)) hx hb hK hI 1 rfl hin eg3 dX8_road_54 rfl (fun H locs hI => ?_)
          refine lv_aload_n hx hb dX8_road_55 rfl (lv_at hl 0 rfl) ?_
          refine w_get hx hb hg hown hK hI iX8 0 rfl rfl 3 (by decide) wF_RX8_13 rfl dX8_road_56 ?_
          refine lv_aload_n hx hb dX8_road_59 rfl (lv_at hl 0 rfl) ?_
          refine w_get hx hb hg hown hK hI iX8 0 rfl rfl 1 (by decide) wF_RX8_57 rfl dX8_road_60 ?_
          refine lv_iload_n hx hb dX8_road_63 rfl (lv_at hl 2 rfl) ?_
          obtain ⟨hin, hf⟩ := wr_e hf
          obtain ⟨g4, eg4⟩ : ∃ g : Nat → Int32, g = upd M_second_0 (M_roads_0).toNatClampNeg a2 := ⟨_, rfl⟩
          replace hf := hf g4 eg4
          refine w_iast (g := g4) (W1 := (wM cI cJ cZ m0 m1 m2 m3 m4 m5 m6 m7 m8 m9 m10 m11 m12 m13 M_posts M_roads_0 M_size M_rows M_nextRows g3 g4 M_number_0 M_lists_0 M_square M_fan M_trial M_touching M_having M_most M_only M_can M_next)) hx hb hK hI 2 rfl hin eg4 dX8_road_64 rfl (fun H locs hI => ?_)
          refine lv_aload_n hx hb dX8_road_65 rfl (lv_at hl 0 rfl) ?_
          refine w_get hx hb hg hown hK hI iX8 0 rfl rfl 4 (by decide) wF_RX8_16 rfl dX8_road_66 ?_
          refine lv_aload_n hx hb dX8_road_69 rfl (lv_at hl 0 rfl) ?_
          refine w_get hx hb hg hown hK hI iX8 0 rfl rfl 1 (by decide) wF_RX8_57 rfl dX8_road_70 ?_
          refine lv_iconst (v := -1) hx hb dX8_road_73 (by decide) ?_
          obtain ⟨hin, hf⟩ := wr_e hf
          obtain ⟨g5, eg5⟩ : ∃ g : Nat → Int32, g = upd M_number_0 (M_roads_0).toNatClampNeg (-1 : Int32) := ⟨_, rfl⟩
          replace hf := hf g5 eg5
          refine w_iast (g := g5) (W1 := (wM cI cJ cZ m0 m1 m2 m3 m4 m5 m6 m7 m8 m9 m10 m11 m12 m13 M_posts M_roads_0 M_size M_rows M_nextRows g3 g4 g5 M_lists_0 M_square M_fan M_trial M_touching M_having M_most M_only M_can M_next)) hx hb hK hI 3 rfl hin eg5 dX8_road_74 rfl (fun H locs hI => ?_)
          refine lv_aload_n hx hb dX8_road_75 rfl (lv_at hl 0 rfl) ?_
          refine w_get hx hb hg hown hK hI iX8 0 rfl rfl 5 (by decide) wF_RX8_19 rfl dX8_road_76 ?_
          refine lv_aload_n hx hb dX8_road_79 rfl (lv_at hl 0 rfl) ?_
          refine w_get hx hb hg hown hK hI iX8 0 rfl rfl 1 (by decide) wF_RX8_57 rfl dX8_road_80 ?_
          refine lv_ldc hx hb hown (hg _ wV_RX8_71) dX8_road_83 ?_
          obtain ⟨hin, hf⟩ := wr_e hf
          obtain ⟨g6, eg6⟩ : ∃ g : Nat → Int32, g = upd M_lists_0 (M_roads_0).toNatClampNeg (65535 : Int32) := ⟨_, rfl⟩
          replace hf := hf g6 eg6
          refine w_iast (g := g6) (W1 := (wM cI cJ cZ m0 m1 m2 m3 m4 m5 m6 m7 m8 m9 m10 m11 m12 m13 M_posts M_roads_0 M_size M_rows M_nextRows g3 g4 g5 g6 M_square M_fan M_trial M_touching M_having M_most M_only M_can M_next)) hx hb hK hI 4 rfl hin eg6 dX8_road_85 rfl (fun H locs hI => ?_)
          refine lv_aload_n hx hb dX8_road_86 rfl (lv_at hl 0 rfl) ?_
          refine lv_dup hx hb dX8_road_87 rfl ?_
          refine w_get hx hb hg hown hK hI iX8 0 rfl rfl 1 (by decide) wF_RX8_57 rfl dX8_road_88 ?_
          refine lv_iconst (v := 1) hx hb dX8_road_91 (by decide) ?_
          refine lv_iadd hx hb dX8_road_92 ?_
          refine lv_topi (fun x7 ex7 => ?_)
          replace hf := bnd_e hf x7 ex7
          refine w_put (W1 := (wM cI cJ cZ m0 m1 m2 m3 m4 m5 m6 m7 m8 m9 m10 m11 m12 m13 M_posts x7 M_size M_rows M_nextRows g3 g4 g5 g6 M_square M_fan M_trial M_touching M_having M_most M_only M_can M_next)) hx hb hg hown hK hI iX8 tyX8 tyX8_ok nmX8 0 rfl rfl 1 (by decide) wF_RX8_57 rfl (tyX8_ok 1 (by decide)) rfl rfl (Nat.le_of_ble_eq_true rfl) dX8_road_93 rfl (fun H locs hI => ?_)
          refine lv_aload_n hx hb dX8_road_96 rfl (lv_at hl 0 rfl) ?_
          refine w_get hx hb hg hown hK hI iX8 0 rfl rfl 1 (by decide) wF_RX8_57 rfl dX8_road_97 ?_
          refine lv_iconst (v := 1) hx hb dX8_road_100 (by decide) ?_
          refine lv_isub hx hb dX8_road_101 ?_
          replace hf := Option.some.inj hf
          subst hf
          replace hM : ((x7 - (1 : Int32)), x7, g3, g4, g5, g6) = out := hM
          subst hM
          exact rt_i (u := ()) hx hb hr hlocks rfl hI hAe rfl dX8_road_102
        · replace hf := ite_t hc hf
          refine lv_bipush (v := -2) hx hb dX8_road_42 (by decide) ?_
          replace hf := Option.some.inj hf
          subst hf
          replace hM : ((-2 : Int32), M_roads_0, M_first_0, M_second_0, M_number_0, M_lists_0) = out := hM
          subst hM
          exact rt_i (u := ()) hx hb hr hlocks rfl hI hAe rfl dX8_road_44
noncomputable def FX8_drop (M_roads_0 : Int32)  : Option (Int32 × Int32) :=
  if M_roads_0 = (0 : Int32) then (some ((-2 : Int32), M_roads_0)) else (bnd (M_roads_0 - (1 : Int32)) (fun x1 => some (x1, x1)))
abbrev GX8_drop (p : Program) (l : Launch) (e : Env) (s : State) (m : MethodId) (below : List Frame) (meth : Method) (c : Code) (D : va_G) (cI cJ cZ : ClassId) (m0 m1 m2 m3 m4 m5 m6 m7 m8 m9 m10 m11 m12 m13 : Nat) (M_posts : Int32) (M_roads_0 : Int32) (M_size : Int32) (M_rows : Int32) (M_nextRows : Int32) (M_first : Nat → Int32) (M_second : Nat → Int32) (M_number : Nat → Int32) (M_lists : Nat → Int32) (M_square : Nat → Int32) (M_fan : Nat → Int32) (M_trial : Nat → Int32) (M_touching : Nat → Int32) (M_having : Nat → Int32) (M_most : Nat → Int32) (M_only : Nat → Int32) (M_can : Nat → Int32) (M_next : Nat → Int32)  (out : Int32 × Int32) (H : Heap) (locs : List Loc) (g : JFrame) : Prop := W p l e (headSpec (Cond.code yX8_drop cX8_drop 1 (some .int) :: GW) { frames := 0, cells := 0, slots := 0, locals := 0 }).room s m ([.ref m0] : List Value).toArray below meth c H locs 0 0 (MQ below (va_Qi (fun r (_ : Unit) => r = out.1) (BW D (wM cI cJ cZ m0 m1 m2 m3 m4 m5 m6 m7 m8 m9 m10 m11 m12 m13 M_posts M_roads_0 M_size M_rows M_nextRows M_first M_second M_number M_lists M_square M_fan M_trial M_touching M_having M_most M_only M_can M_next) s.heap.size (fun _ => (wM cI cJ cZ m0 m1 m2 m3 m4 m5 m6 m7 m8 m9 m10 m11 m12 m13 M_posts out.2 M_size M_rows M_nextRows M_first M_second M_number M_lists M_square M_fan M_trial M_touching M_having M_most M_only M_can M_next))) (va_A (wM cI cJ cZ m0 m1 m2 m3 m4 m5 m6 m7 m8 m9 m10 m11 m12 m13 M_posts M_roads_0 M_size M_rows M_nextRows M_first M_second M_number M_lists M_square M_fan M_trial M_touching M_having M_most M_only M_can M_next) s.heap.size)) ([.ref m0] : List Value).toArray s 0 0 (va_A (wM cI cJ cZ m0 m1 m2 m3 m4 m5 m6 m7 m8 m9 m10 m11 m12 m13 M_posts M_roads_0 M_size M_rows M_nextRows M_first M_second M_number M_lists M_square M_fan M_trial M_touching M_having M_most M_only M_can M_next) s.heap.size)) g
theorem kvX8_drop : CalV RX8 yX8_drop cX8_drop 1 (some .int) 0 := ⟨wC_yX8_drop, wM_yX8_drop, wS_yX8_drop, wI_RX8, by decide +kernel⟩
set_option maxHeartbeats 4000000 in
set_option maxRecDepth 100000 in
theorem kX8_drop (l : Launch) (D : va_G) (cI cJ cZ : ClassId) (m0 m1 m2 m3 m4 m5 m6 m7 m8 m9 m10 m11 m12 m13 : Nat) (M_posts : Int32) (M_roads_0 : Int32) (M_size : Int32) (M_rows : Int32) (M_nextRows : Int32) (M_first : Nat → Int32) (M_second : Nat → Int32) (M_number : Nat → Int32) (M_lists : Nat → Int32) (M_square : Nat → Int32) (M_fan : Nat → Int32) (M_trial : Nat → Int32) (M_touching : Nat → Int32) (M_having : Nat → Int32) (M_most : Nat → Int32) (M_only : Nat → Int32) (M_can : Nat → Int32) (M_next : Nat → Int32)  (out : Int32 × Int32) (hf : FX8_drop M_roads_0 = some out) : MI l yX8_drop (Cond.code yX8_drop cX8_drop 1 (some .int) :: GW) { frames := 0, cells := 0, slots := 0, locals := 0 } D cI cJ cZ [.ref m0] (wM cI cJ cZ m0 m1 m2 m3 m4 m5 m6 m7 m8 m9 m10 m11 m12 m13 M_posts M_roads_0 M_size M_rows M_nextRows M_first M_second M_number M_lists M_square M_fan M_trial M_touching M_having M_most M_only M_can M_next) (fun r (_ : Unit) => r = out.1) (fun _ => (wM cI cJ cZ m0 m1 m2 m3 m4 m5 m6 m7 m8 m9 m10 m11 m12 m13 M_posts out.2 M_size M_rows M_nextRows M_first M_second M_number M_lists M_square M_fan M_trial M_touching M_having M_most M_only M_can M_next)) := by
  intro sz
  refine Met.ofW (cc := cX8_drop) (maxL := 1) (ret := (some .int)) (by decide +kernel) rfl ?_
  intro p e s m args below meth c s₁ B hml hv
  obtain ⟨rfl, hsz, hP, hK, hD0⟩ := hv
  have hx := B.exec
  have hb := B.bytes
  have hr := B.returns
  have hlocks := B.notSynchronized
  have hg : ∀ w ∈ GW, w.before _ s = true := fun w h => atoms_spec (ws := Cond.code yX8_drop cX8_drop 1 (some .int) :: GW) B.pre w (List.mem_cons_of_mem _ h)
  have hown : s.vm.findClass RX8 = some m.cls := findClass_of_methodNamed B.named
  subst hsz
  obtain ⟨A, hAe⟩ : ∃ A, A = va_A (wM cI cJ cZ m0 m1 m2 m3 m4 m5 m6 m7 m8 m9 m10 m11 m12 m13 M_posts M_roads_0 M_size M_rows M_nextRows M_first M_second M_number M_lists M_square M_fan M_trial M_touching M_having M_most M_only M_can M_next) s.heap.size := ⟨_, rfl⟩
  have hA : ∀ q : Nat, s.heap.size ≤ q → A q := fun q h => by rw [hAe]; exact Or.inr h
  have hI : WI D A s.heap (wM cI cJ cZ m0 m1 m2 m3 m4 m5 m6 m7 m8 m9 m10 m11 m12 m13 M_posts M_roads_0 M_size M_rows M_nextRows M_first M_second M_number M_lists M_square M_fan M_trial M_touching M_having M_most M_only M_can M_next) s.heap [] := ⟨hP, by rw [hAe]; exact hD0.self, va_S.rf⟩
  have hl := lv_entry [.ref m0] (n := 1) (Nat.le_of_ble_eq_true rfl)
  rw [lg_entry_eq]
  generalize (lg_sl [.ref m0] ++ List.replicate (1 - (lg_sl [.ref m0]).length) Slot.unset).toArray = ls at hl ⊢
  replace hl : lv_has ls 1 [(0, .ref m0)] := hl
  obtain ⟨x, hf, hM⟩ : ∃ x, FX8_drop M_roads_0 = some x ∧ x = out := ⟨out, hf, rfl⟩
  refine lv_aload_n hx hb dX8_drop_0 rfl (lv_at hl 0 rfl) ?_
  refine w_get hx hb hg hown hK hI iX8 0 rfl rfl 1 (by decide) wF_RX8_57 rfl dX8_drop_1 ?_
  refine lv_if_ne (tgt := 10) hx hb dX8_drop_4 (by decide) (fun hc => ?_) (fun hc => ?_)
  · replace hf := ite_f hc hf
    refine lv_aload_n hx hb dX8_drop_10 rfl (lv_at hl 0 rfl) ?_
    refine lv_dup hx hb dX8_drop_11 rfl ?_
    refine w_get hx hb hg hown hK hI iX8 0 rfl rfl 1 (by decide) wF_RX8_57 rfl dX8_drop_12 ?_
    refine lv_iconst (v := 1) hx hb dX8_drop_15 (by decide) ?_
    refine lv_isub hx hb dX8_drop_16 ?_
    refine lv_topi (fun x1 ex1 => ?_)
    replace hf := bnd_e hf x1 ex1
    refine w_put (W1 := (wM cI cJ cZ m0 m1 m2 m3 m4 m5 m6 m7 m8 m9 m10 m11 m12 m13 M_posts x1 M_size M_rows M_nextRows M_first M_second M_number M_lists M_square M_fan M_trial M_touching M_having M_most M_only M_can M_next)) hx hb hg hown hK hI iX8 tyX8 tyX8_ok nmX8 0 rfl rfl 1 (by decide) wF_RX8_57 rfl (tyX8_ok 1 (by decide)) rfl rfl (Nat.le_of_ble_eq_true rfl) dX8_drop_17 rfl (fun H locs hI => ?_)
    refine lv_aload_n hx hb dX8_drop_20 rfl (lv_at hl 0 rfl) ?_
    refine w_get hx hb hg hown hK hI iX8 0 rfl rfl 1 (by decide) wF_RX8_57 rfl dX8_drop_21 ?_
    replace hf := Option.some.inj hf
    subst hf
    replace hM : (x1, x1) = out := hM
    subst hM
    exact rt_i (u := ()) hx hb hr hlocks rfl hI hAe rfl dX8_drop_24
  · replace hf := ite_t hc hf
    refine lv_bipush (v := -2) hx hb dX8_drop_7 (by decide) ?_
    replace hf := Option.some.inj hf
    subst hf
    replace hM : ((-2 : Int32), M_roads_0) = out := hM
    subst hM
    exact rt_i (u := ()) hx hb hr hlocks rfl hI hAe rfl dX8_drop_9
noncomputable def FX8_paint (M_roads : Int32) (M_number_0 : Nat → Int32) (a1 : Int32) (a2 : Int32) : Option (Int32 × (Nat → Int32)) :=
  (FX8_isRoad M_roads a1).bind (fun o1 => if o1 = (0 : Int32) then (some ((-2 : Int32), M_number_0)) else ((FX8_in a2 (-1 : Int32) (15 : Int32)).bind (fun x2 => if x2 = (0 : Int32) then (some ((-2 : Int32), M_number_0)) else (rd M_number_0 24 a1 (fun x3 => wr M_number_0 24 a1 a2 (fun g4 => some (x3, g4)))))))
abbrev GX8_paint (p : Program) (l : Launch) (e : Env) (s : State) (m : MethodId) (below : List Frame) (meth : Method) (c : Code) (D : va_G) (cI cJ cZ : ClassId) (m0 m1 m2 m3 m4 m5 m6 m7 m8 m9 m10 m11 m12 m13 : Nat) (M_posts : Int32) (M_roads : Int32) (M_size : Int32) (M_rows : Int32) (M_nextRows : Int32) (M_first : Nat → Int32) (M_second : Nat → Int32) (M_number_0 : Nat → Int32) (M_lists : Nat → Int32) (M_square : Nat → Int32) (M_fan : Nat → Int32) (M_trial : Nat → Int32) (M_touching : Nat → Int32) (M_having : Nat → Int32) (M_most : Nat → Int32) (M_only : Nat → Int32) (M_can : Nat → Int32) (M_next : Nat → Int32) (a1 : Int32) (a2 : Int32) (out : Int32 × (Nat → Int32)) (H : Heap) (locs : List Loc) (g : JFrame) : Prop := W p l e (headSpec (Cond.code yX8_paint cX8_paint 4 (some .int) :: GW) { frames := 2, cells := 0, slots := 0, locals := 43 }).room s m ([.ref m0, .int a1, .int a2] : List Value).toArray below meth c H locs 0 0 (MQ below (va_Qi (fun r (_ : Unit) => r = out.1) (BW D (wM cI cJ cZ m0 m1 m2 m3 m4 m5 m6 m7 m8 m9 m10 m11 m12 m13 M_posts M_roads M_size M_rows M_nextRows M_first M_second M_number_0 M_lists M_square M_fan M_trial M_touching M_having M_most M_only M_can M_next) s.heap.size (fun _ => (wM cI cJ cZ m0 m1 m2 m3 m4 m5 m6 m7 m8 m9 m10 m11 m12 m13 M_posts M_roads M_size M_rows M_nextRows M_first M_second out.2 M_lists M_square M_fan M_trial M_touching M_having M_most M_only M_can M_next))) (va_A (wM cI cJ cZ m0 m1 m2 m3 m4 m5 m6 m7 m8 m9 m10 m11 m12 m13 M_posts M_roads M_size M_rows M_nextRows M_first M_second M_number_0 M_lists M_square M_fan M_trial M_touching M_having M_most M_only M_can M_next) s.heap.size)) ([.ref m0, .int a1, .int a2] : List Value).toArray s 0 0 (va_A (wM cI cJ cZ m0 m1 m2 m3 m4 m5 m6 m7 m8 m9 m10 m11 m12 m13 M_posts M_roads M_size M_rows M_nextRows M_first M_second M_number_0 M_lists M_square M_fan M_trial M_touching M_having M_most M_only M_can M_next) s.heap.size)) g
theorem kvX8_paint : CalV RX8 yX8_paint cX8_paint 4 (some .int) 2 := ⟨wC_yX8_paint, wM_yX8_paint, wS_yX8_paint, wI_RX8, by decide +kernel⟩
set_option maxHeartbeats 4000000 in
set_option maxRecDepth 100000 in
theorem kX8_paint (l : Launch) (D : va_G) (cI cJ cZ : ClassId) (m0 m1 m2 m3 m4 m5 m6 m7 m8 m9 m10 m11 m12 m13 : Nat) (M_posts : Int32) (M_roads : Int32) (M_size : Int32) (M_rows : Int32) (M_nextRows : Int32) (M_first : Nat → Int32) (M_second : Nat → Int32) (M_number_0 : Nat → Int32) (M_lists : Nat → Int32) (M_square : Nat → Int32) (M_fan : Nat → Int32) (M_trial : Nat → Int32) (M_touching : Nat → Int32) (M_having : Nat → Int32) (M_most : Nat → Int32) (M_only : Nat → Int32) (M_can : Nat → Int32) (M_next : Nat → Int32) (a1 : Int32) (a2 : Int32) (out : Int32 × (Nat → Int32)) (hf : FX8_paint M_roads M_number_0 a1 a2 = some out) : MI l yX8_paint (Cond.code yX8_paint cX8_paint 4 (some .int) :: GW) { frames := 2, cells := 0, slots := 0, locals := 43 } D cI cJ cZ [.ref m0, .int a1, .int a2] (wM cI cJ cZ m0 m1 m2 m3 m4 m5 m6 m7 m8 m9 m10 m11 m12 m13 M_posts M_roads M_size M_rows M_nextRows M_first M_second M_number_0 M_lists M_square M_fan M_trial M_touching M_having M_most M_only M_can M_next) (fun r (_ : Unit) => r = out.1) (fun _ => (wM cI cJ cZ m0 m1 m2 m3 m4 m5 m6 m7 m8 m9 m10 m11 m12 m13 M_posts M_roads M_size M_rows M_nextRows M_first M_second out.2 M_lists M_square M_fan M_trial M_touching M_having M_most M_only M_can M_next)) := by
  intro sz
  refine Met.ofW (cc := cX8_paint) (maxL := 4) (ret := (some .int)) (by decide +kernel) rfl ?_
  intro p e s m args below meth c s₁ B hml hv
  obtain ⟨rfl, hsz, hP, hK, hD0⟩ := hv
  have hx := B.exec
  have hb := B.bytes
  have hr := B.returns
  have hlocks := B.notSynchronized
  have hg : ∀ w ∈ GW, w.before _ s = true := fun w h => atoms_spec (ws := Cond.code yX8_paint cX8_paint 4 (some .int) :: GW) B.pre w (List.mem_cons_of_mem _ h)
  have hown : s.vm.findClass RX8 = some m.cls := findClass_of_methodNamed B.named
  subst hsz
  obtain ⟨A, hAe⟩ : ∃ A, A = va_A (wM cI cJ cZ m0 m1 m2 m3 m4 m5 m6 m7 m8 m9 m10 m11 m12 m13 M_posts M_roads M_size M_rows M_nextRows M_first M_second M_number_0 M_lists M_square M_fan M_trial M_touching M_having M_most M_only M_can M_next) s.heap.size := ⟨_, rfl⟩
  have hA : ∀ q : Nat, s.heap.size ≤ q → A q := fun q h => by rw [hAe]; exact Or.inr h
  have hI : WI D A s.heap (wM cI cJ cZ m0 m1 m2 m3 m4 m5 m6 m7 m8 m9 m10 m11 m12 m13 M_posts M_roads M_size M_rows M_nextRows M_first M_second M_number_0 M_lists M_square M_fan M_trial M_touching M_having M_most M_only M_can M_next) s.heap [] := ⟨hP, by rw [hAe]; exact hD0.self, va_S.rf⟩
  have hl := lv_entry [.ref m0, .int a1, .int a2] (n := 4) (Nat.le_of_ble_eq_true rfl)
  rw [lg_entry_eq]
  generalize (lg_sl [.ref m0, .int a1, .int a2] ++ List.replicate (4 - (lg_sl [.ref m0, .int a1, .int a2]).length) Slot.unset).toArray = ls at hl ⊢
  replace hl : lv_has ls 4 [(0, .ref m0), (1, .int a1), (2, .int a2)] := hl
  obtain ⟨x, hf, hM⟩ : ∃ x, FX8_paint M_roads M_number_0 a1 a2 = some x ∧ x = out := ⟨out, hf, rfl⟩
  refine lv_aload_n hx hb dX8_paint_0 rfl (lv_at hl 0 rfl) ?_
  refine lv_iload_n hx hb dX8_paint_1 rfl (lv_at hl 1 rfl) ?_
  obtain ⟨o1, ho1, hf⟩ := bd_e hf
  refine w_Vi0 (wc := (wM cI cJ cZ m0 m1 m2 m3 m4 m5 m6 m7 m8 m9 m10 m11 m12 m13 M_posts M_roads M_size M_rows M_nextRows M_first M_second M_number_0 M_lists M_square M_fan M_trial M_touching M_having M_most M_only M_can M_next)) (wr := []) (rest := []) hx hb hml hg hown hK hA hI (kX8_isRoad l D cI cJ cZ m0 m1 m2 m3 m4 m5 m6 m7 m8 m9 m10 m11 m12 m13 M_posts M_roads M_size M_rows M_nextRows M_first M_second M_number_0 M_lists M_square M_fan M_trial M_touching M_having M_most M_only M_can M_next a1 o1 ho1) kvX8_isRoad wL_RX8_72 ⟨Nat.le_of_ble_eq_true rfl, Nat.le_of_ble_eq_true rfl⟩ rfl rfl [0, 1, 2, 3, 4, 5, 6, 7, 8, 9, 10, 11, 12, 13] [] rfl rfl rfl rfl (by decide) rfl rfl hl.1 (Nat.le_of_ble_eq_true rfl) dX8_paint_2 ⟨Nat.zero_le _, Nat.zero_le _⟩ ⟨rfl, rfl⟩ (fun r u H locs hp hI => ?_)
  replace hp : r = o1 := hp
  rw [hp]
  clear hp
  replace hI : WI D A s.heap (wM cI cJ cZ m0 m1 m2 m3 m4 m5 m6 m7 m8 m9 m10 m11 m12 m13 M_posts M_roads M_size M_rows M_nextRows M_first M_second M_number_0 M_lists M_square M_fan M_trial M_touching M_having M_most M_only M_can M_next) H locs := hI
  refine lv_if_eq (tgt := 18) hx hb dX8_paint_5 (by decide) (fun hc => ?_) (fun hc => ?_)
  · replace hf := ite_t hc hf
    refine lv_bipush (v := -2) hx hb dX8_paint_18 (by decide) ?_
    replace hf := Option.some.inj hf
    subst hf
    replace hM : ((-2 : Int32), M_number_0) = out := hM
    subst hM
    exact rt_i (u := ()) hx hb hr hlocks rfl hI hAe rfl dX8_paint_20
  · replace hf := ite_f hc hf
    refine lv_iload_n hx hb dX8_paint_8 rfl (lv_at hl 2 rfl) ?_
    refine lv_iconst (v := -1) hx hb dX8_paint_9 (by decide) ?_
    refine lv_bipush (v := 15) hx hb dX8_paint_10 (by decide) ?_
    obtain ⟨x2, hx2, hf⟩ := bd_e hf
    refine w_S (rest := []) hx hb hml hg hown hK (kX8_in l D cI cJ cZ a2 (-1 : Int32) (15 : Int32) x2 hx2) ksX8_in wL_RX8_60 ⟨Nat.le_of_ble_eq_true rfl, Nat.le_of_ble_eq_true rfl⟩ ⟨rfl, rfl⟩ rfl rfl hl.1 (Nat.le_of_ble_eq_true rfl) dX8_paint_12 ⟨Nat.zero_le _, Nat.zero_le _⟩ ?_
    refine lv_if_ne (tgt := 21) hx hb dX8_paint_15 (by decide) (fun hc => ?_) (fun hc => ?_)
    · replace hf := ite_f hc hf
      refine lv_aload_n hx hb dX8_paint_21 rfl (lv_at hl 0 rfl) ?_
      refine w_get hx hb hg hown hK hI iX8 0 rfl rfl 4 (by decide) wF_RX8_16 rfl dX8_paint_22 ?_
      refine lv_iload_n hx hb dX8_paint_25 rfl (lv_at hl 1 rfl) ?_
      obtain ⟨hin, hf⟩ := rd_e hf
      refine w_iald hx hb hK hI 3 rfl hin dX8_paint_26 (fun x3 ex3 => ?_)
      replace hf := hf x3 ex3
      refine lv_istore_n (lv' := [(3, .int x3), (0, .ref m0), (1, .int a1), (2, .int a2)]) hx hb dX8_paint_27 rfl hl (by decide) rfl (fun ls hl => ?_)
      refine lv_aload_n hx hb dX8_paint_28 rfl (lv_at hl 1 rfl) ?_
      refine w_get hx hb hg hown hK hI iX8 0 rfl rfl 4 (by decide) wF_RX8_16 rfl dX8_paint_29 ?_
      refine lv_iload_n hx hb dX8_paint_32 rfl (lv_at hl 2 rfl) ?_
      refine lv_iload_n hx hb dX8_paint_33 rfl (lv_at hl 3 rfl) ?_
      obtain ⟨hin, hf⟩ := wr_e hf
      obtain ⟨g4, eg4⟩ : ∃ g : Nat → Int32, g = upd M_number_0 (a1).toNatClampNeg a2 := ⟨_, rfl⟩
      replace hf := hf g4 eg4
      refine w_iast (g := g4) (W1 := (wM cI cJ cZ m0 m1 m2 m3 m4 m5 m6 m7 m8 m9 m10 m11 m12 m13 M_posts M_roads M_size M_rows M_nextRows M_first M_second g4 M_lists M_square M_fan M_trial M_touching M_having M_most M_only M_can M_next)) hx hb hK hI 3 rfl hin eg4 dX8_paint_34 rfl (fun H locs hI => ?_)
      refine lv_iload_n hx hb dX8_paint_35 rfl (lv_at hl 0 rfl) ?_
      replace hf := Option.some.inj hf
      subst hf
      replace hM : (x3, g4) = out := hM
      subst hM
      exact rt_i (u := ()) hx hb hr hlocks rfl hI hAe rfl dX8_paint_36
    · replace hf := ite_t hc hf
      refine lv_bipush (v := -2) hx hb dX8_paint_18 (by decide) ?_
      replace hf := Option.some.inj hf
      subst hf
      replace hM : ((-2 : Int32), M_number_0) = out := hM
      subst hM
      exact rt_i (u := ()) hx hb hr hlocks rfl hI hAe rfl dX8_paint_20
noncomputable def X8_numbered_L4 (M_roads : Int32) (M_number : Nat → Int32) (v : Int32 × Int32) : Option ((Int32 × Int32) ⊕ (Int32)) :=
  if M_roads ≤ v.2 then (some (.inr v.1)) else (rd M_number 24 v.2 (fun x1 => if x1 < (0 : Int32) then (bnd (v.1 + (0 : Int32)) (fun x2 => bnd (v.2 + (1 : Int32)) (fun x3 => some (.inl (x2, x3))))) else (bnd (v.1 + (1 : Int32)) (fun x4 => bnd (v.2 + (1 : Int32)) (fun x5 => some (.inl (x4, x5)))))))
noncomputable def FX8_numbered (M_roads : Int32) (M_number : Nat → Int32)  : Option (Int32) :=
  loopO (X8_numbered_L4 M_roads M_number) ((0 : Int32), (0 : Int32))
abbrev GX8_numbered (p : Program) (l : Launch) (e : Env) (s : State) (m : MethodId) (below : List Frame) (meth : Method) (c : Code) (D : va_G) (cI cJ cZ : ClassId) (m0 m1 m2 m3 m4 m5 m6 m7 m8 m9 m10 m11 m12 m13 : Nat) (M_posts : Int32) (M_roads : Int32) (M_size : Int32) (M_rows : Int32) (M_nextRows : Int32) (M_first : Nat → Int32) (M_second : Nat → Int32) (M_number : Nat → Int32) (M_lists : Nat → Int32) (M_square : Nat → Int32) (M_fan : Nat → Int32) (M_trial : Nat → Int32) (M_touching : Nat → Int32) (M_having : Nat → Int32) (M_most : Nat → Int32) (M_only : Nat → Int32) (M_can : Nat → Int32) (M_next : Nat → Int32)  (out : Int32) (H : Heap) (locs : List Loc) (g : JFrame) : Prop := W p l e (headSpec (Cond.code yX8_numbered cX8_numbered 3 (some .int) :: GW) { frames := 0, cells := 0, slots := 0, locals := 0 }).room s m ([.ref m0] : List Value).toArray below meth c H locs 0 0 (MQ below (va_Qi (fun r (_ : Unit) => r = out) (BW D (wM cI cJ cZ m0 m1 m2 m3 m4 m5 m6 m7 m8 m9 m10 m11 m12 m13 M_posts M_roads M_size M_rows M_nextRows M_first M_second M_number M_lists M_square M_fan M_trial M_touching M_having M_most M_only M_can M_next) s.heap.size (fun _ => (wM cI cJ cZ m0 m1 m2 m3 m4 m5 m6 m7 m8 m9 m10 m11 m12 m13 M_posts M_roads M_size M_rows M_nextRows M_first M_second M_number M_lists M_square M_fan M_trial M_touching M_having M_most M_only M_can M_next))) (va_A (wM cI cJ cZ m0 m1 m2 m3 m4 m5 m6 m7 m8 m9 m10 m11 m12 m13 M_posts M_roads M_size M_rows M_nextRows M_first M_second M_number M_lists M_square M_fan M_trial M_touching M_having M_most M_only M_can M_next) s.heap.size)) ([.ref m0] : List Value).toArray s 0 0 (va_A (wM cI cJ cZ m0 m1 m2 m3 m4 m5 m6 m7 m8 m9 m10 m11 m12 m13 M_posts M_roads M_size M_rows M_nextRows M_first M_second M_number M_lists M_square M_fan M_trial M_touching M_having M_most M_only M_can M_next) s.heap.size)) g
theorem kvX8_numbered : CalV RX8 yX8_numbered cX8_numbered 3 (some .int) 0 := ⟨wC_yX8_numbered, wM_yX8_numbered, wS_yX8_numbered, wI_RX8, by decide +kernel⟩
set_option maxHeartbeats 4000000 in
set_option maxRecDepth 100000 in
theorem kX8_numbered (l : Launch) (D : va_G) (cI cJ cZ : ClassId) (m0 m1 m2 m3 m4 m5 m6 m7 m8 m9 m10 m11 m12 m13 : Nat) (M_posts : Int32) (M_roads : Int32) (M_size : Int32) (M_rows : Int32) (M_nextRows : Int32) (M_first : Nat → Int32) (M_second : Nat → Int32) (M_number : Nat → Int32) (M_lists : Nat → Int32) (M_square : Nat → Int32) (M_fan : Nat → Int32) (M_trial : Nat → Int32) (M_touching : Nat → Int32) (M_having : Nat → Int32) (M_most : Nat → Int32) (M_only : Nat → Int32) (M_can : Nat → Int32) (M_next : Nat → Int32)  (out : Int32) (hf : FX8_numbered M_roads M_number = some out) : MI l yX8_numbered (Cond.code yX8_numbered cX8_numbered 3 (some .int) :: GW) { frames := 0, cells := 0, slots := 0, locals := 0 } D cI cJ cZ [.ref m0] (wM cI cJ cZ m0 m1 m2 m3 m4 m5 m6 m7 m8 m9 m10 m11 m12 m13 M_posts M_roads M_size M_rows M_nextRows M_first M_second M_number M_lists M_square M_fan M_trial M_touching M_having M_most M_only M_can M_next) (fun r (_ : Unit) => r = out) (fun _ => (wM cI cJ cZ m0 m1 m2 m3 m4 m5 m6 m7 m8 m9 m10 m11 m12 m13 M_posts M_roads M_size M_rows M_nextRows M_first M_second M_number M_lists M_square M_fan M_trial M_touching M_having M_most M_only M_can M_next)) := by
  intro sz
  refine Met.ofW (cc := cX8_numbered) (maxL := 3) (ret := (some .int)) (by decide +kernel) rfl ?_
  intro p e s m args below meth c s₁ B hml hv
  obtain ⟨rfl, hsz, hP, hK, hD0⟩ := hv
  have hx := B.exec
  have hb := B.bytes
  have hr := B.returns
  have hlocks := B.notSynchronized
  have hg : ∀ w ∈ GW, w.before _ s = true := fun w h => atoms_spec (ws := Cond.code yX8_numbered cX8_numbered 3 (some .int) :: GW) B.pre w (List.mem_cons_of_mem _ h)
  have hown : s.vm.findClass RX8 = some m.cls := findClass_of_methodNamed B.named
  subst hsz
  obtain ⟨A, hAe⟩ : ∃ A, A = va_A (wM cI cJ cZ m0 m1 m2 m3 m4 m5 m6 m7 m8 m9 m10 m11 m12 m13 M_posts M_roads M_size M_rows M_nextRows M_first M_second M_number M_lists M_square M_fan M_trial M_touching M_having M_most M_only M_can M_next) s.heap.size := ⟨_, rfl⟩
  have hA : ∀ q : Nat, s.heap.size ≤ q → A q := fun q h => by rw [hAe]; exact Or.inr h
  have hI : WI D A s.heap (wM cI cJ cZ m0 m1 m2 m3 m4 m5 m6 m7 m8 m9 m10 m11 m12 m13 M_posts M_roads M_size M_rows M_nextRows M_first M_second M_number M_lists M_square M_fan M_trial M_touching M_having M_most M_only M_can M_next) s.heap [] := ⟨hP, by rw [hAe]; exact hD0.self, va_S.rf⟩
  have hl := lv_entry [.ref m0] (n := 3) (Nat.le_of_ble_eq_true rfl)
  rw [lg_entry_eq]
  generalize (lg_sl [.ref m0] ++ List.replicate (3 - (lg_sl [.ref m0]).length) Slot.unset).toArray = ls at hl ⊢
  replace hl : lv_has ls 3 [(0, .ref m0)] := hl
  have L4 : ∀ (v : Int32 × Int32) (x : Int32), loopO (X8_numbered_L4 M_roads M_number) v = some x → (fun z : Int32 => z = out) x → (fun (v : Int32 × Int32) => ∀ (H : Heap) (locs : List Loc) (ls : Array Slot), WI D A s.heap (wM cI cJ cZ m0 m1 m2 m3 m4 m5 m6 m7 m8 m9 m10 m11 m12 m13 M_posts M_roads M_size M_rows M_nextRows M_first M_second M_number M_lists M_square M_fan M_trial M_touching M_having M_most M_only M_can M_next) H locs → lv_has ls 3 [(0, .ref m0), (1, .int v.1), (2, .int v.2)] → GX8_numbered p l e s m below meth c D cI cJ cZ m0 m1 m2 m3 m4 m5 m6 m7 m8 m9 m10 m11 m12 m13 M_posts M_roads M_size M_rows M_nextRows M_first M_second M_number M_lists M_square M_fan M_trial M_touching M_having M_most M_only M_can M_next  out H locs (F0 m 4 ls [])) v := by
    refine loopO_ind (fun (v : Int32 × Int32) => ∀ (H : Heap) (locs : List Loc) (ls : Array Slot), WI D A s.heap (wM cI cJ cZ m0 m1 m2 m3 m4 m5 m6 m7 m8 m9 m10 m11 m12 m13 M_posts M_roads M_size M_rows M_nextRows M_first M_second M_number M_lists M_square M_fan M_trial M_touching M_having M_most M_only M_can M_next) H locs → lv_has ls 3 [(0, .ref m0), (1, .int v.1), (2, .int v.2)] → GX8_numbered p l e s m below meth c D cI cJ cZ m0 m1 m2 m3 m4 m5 m6 m7 m8 m9 m10 m11 m12 m13 M_posts M_roads M_size M_rows M_nextRows M_first M_second M_number M_lists M_square M_fan M_trial M_touching M_having M_most M_only M_can M_next  out H locs (F0 m 4 ls [])) (fun z : Int32 => z = out) ?_
    intro v x hf hM H locs ls hI hl
    refine lv_iload_n hx hb dX8_numbered_4 rfl (lv_at hl 2 rfl) ?_
    refine lv_aload_n hx hb dX8_numbered_5 rfl (lv_at hl 0 rfl) ?_
    refine w_get hx hb hg hown hK hI iX8 0 rfl rfl 1 (by decide) wF_RX8_57 rfl dX8_numbered_6 ?_
    refine lv_icmp_ge (tgt := 35) hx hb dX8_numbered_9 (by decide) (fun hc => ?_) (fun hc => ?_)
    · replace hf := ite_t hc hf
      refine lv_iload_n hx hb dX8_numbered_35 rfl (lv_at hl 1 rfl) ?_
      replace hf := Option.some.inj hf
      subst hf
      replace hM : v.1 = out := hM
      subst hM
      exact rt_i (u := ()) hx hb hr hlocks rfl hI hAe rfl dX8_numbered_36
    · replace hf := ite_f hc hf
      refine lv_iload_n hx hb dX8_numbered_12 rfl (lv_at hl 1 rfl) ?_
      refine lv_aload_n hx hb dX8_numbered_13 rfl (lv_at hl 0 rfl) ?_
      refine w_get hx hb hg hown hK hI iX8 0 rfl rfl 4 (by decide) wF_RX8_16 rfl dX8_numbered_14 ?_
      refine lv_iload_n hx hb dX8_numbered_17 rfl (lv_at hl 2 rfl) ?_
      obtain ⟨hin, hf⟩ := rd_e hf
      refine w_iald hx hb hK hI 3 rfl hin dX8_numbered_18 (fun x1 ex1 => ?_)
      replace hf := hf x1 ex1
      refine lv_if_lt (tgt := 26) hx hb dX8_numbered_19 (by decide) (fun hc => ?_) (fun hc => ?_)
      · replace hf := ite_t hc hf
        refine lv_iconst (v := 0) hx hb dX8_numbered_26 (by decide) ?_
        refine lv_iadd hx hb dX8_numbered_27 ?_
        refine lv_topi (fun x2 ex2 => ?_)
        replace hf := bnd_e hf x2 ex2
        refine lv_istore_n (lv' := [(1, .int x2), (0, .ref m0), (2, .int v.2)]) hx hb dX8_numbered_28 rfl hl (by decide) rfl (fun ls hl => ?_)
        obtain ⟨x3, ex3⟩ : ∃ y : Int32, y = (v.2 + (1 : Int32)) := ⟨_, rfl⟩
        replace hf := bnd_e hf x3 ex3
        refine lv_iinc (v := x3) (lv' := [(2, .int x3), (1, .int x2), (0, .ref m0)]) hx hb dX8_numbered_29 hl (k := 2) rfl (by rw [ex3]; rfl) (by decide) rfl (fun ls hl => ?_)
        refine lv_goto (tgt := 4) hx hb dX8_numbered_32 (by decide) ?_
        replace hf := Option.some.inj hf
        subst hf
        exact hM _ _ _ hI (lv_sub hl [2, 1, 0] rfl)
      · replace hf := ite_f hc hf
        refine lv_iconst (v := 1) hx hb dX8_numbered_22 (by decide) ?_
        refine lv_goto (tgt := 27) hx hb dX8_numbered_23 (by decide) ?_
        refine lv_iadd hx hb dX8_numbered_27 ?_
        refine lv_topi (fun x4 ex4 => ?_)
        replace hf := bnd_e hf x4 ex4
        refine lv_istore_n (lv' := [(1, .int x4), (0, .ref m0), (2, .int v.2)]) hx hb dX8_numbered_28 rfl hl (by decide) rfl (fun ls hl => ?_)
        obtain ⟨x5, ex5⟩ : ∃ y : Int32, y = (v.2 + (1 : Int32)) := ⟨_, rfl⟩
        replace hf := bnd_e hf x5 ex5
        refine lv_iinc (v := x5) (lv' := [(2, .int x5), (1, .int x4), (0, .ref m0)]) hx hb dX8_numbered_29 hl (k := 2) rfl (by rw [ex5]; rfl) (by decide) rfl (fun ls hl => ?_)
        refine lv_goto (tgt := 4) hx hb dX8_numbered_32 (by decide) ?_
        replace hf := Option.some.inj hf
        subst hf
        exact hM _ _ _ hI (lv_sub hl [2, 1, 0] rfl)
  obtain ⟨x, hf, hM⟩ : ∃ x, FX8_numbered M_roads M_number = some x ∧ x = out := ⟨out, hf, rfl⟩
  refine lv_iconst (v := 0) hx hb dX8_numbered_0 (by decide) ?_
  refine lv_istore_n (lv' := [(1, .int (0 : Int32)), (0, .ref m0)]) hx hb dX8_numbered_1 rfl hl (by decide) rfl (fun ls hl => ?_)
  refine lv_iconst (v := 0) hx hb dX8_numbered_2 (by decide) ?_
  refine lv_istore_n (lv' := [(2, .int (0 : Int32)), (1, .int (0 : Int32)), (0, .ref m0)]) hx hb dX8_numbered_3 rfl hl (by decide) rfl (fun ls hl => ?_)
  exact L4  ((0 : Int32), (0 : Int32)) _ hf hM _ _ _ hI (lv_sub hl [2, 1, 0] rfl)
noncomputable def X8_wash_L7 (M_roads : Int32) (l1 : Int32) (v : (Nat → Int32) × Int32) : Option (((Nat → Int32) × Int32) ⊕ (Int32 × (Nat → Int32))) :=
  if M_roads ≤ v.2 then (some (.inr (l1, v.1))) else (wr v.1 24 v.2 (-1 : Int32) (fun g2 => bnd (v.2 + (1 : Int32)) (fun x3 => some (.inl (g2, x3)))))
noncomputable def FX8_wash (M_roads : Int32) (M_number_0 : Nat → Int32)  : Option (Int32 × (Nat → Int32)) :=
  (FX8_numbered M_roads M_number_0).bind (fun o1 => loopO (X8_wash_L7 M_roads o1) (M_number_0, (0 : Int32)))
abbrev GX8_wash (p : Program) (l : Launch) (e : Env) (s : State) (m : MethodId) (below : List Frame) (meth : Method) (c : Code) (D : va_G) (cI cJ cZ : ClassId) (m0 m1 m2 m3 m4 m5 m6 m7 m8 m9 m10 m11 m12 m13 : Nat) (M_posts : Int32) (M_roads : Int32) (M_size : Int32) (M_rows : Int32) (M_nextRows : Int32) (M_first : Nat → Int32) (M_second : Nat → Int32) (M_number_0 : Nat → Int32) (M_lists : Nat → Int32) (M_square : Nat → Int32) (M_fan : Nat → Int32) (M_trial : Nat → Int32) (M_touching : Nat → Int32) (M_having : Nat → Int32) (M_most : Nat → Int32) (M_only : Nat → Int32) (M_can : Nat → Int32) (M_next : Nat → Int32)  (out : Int32 × (Nat → Int32)) (H : Heap) (locs : List Loc) (g : JFrame) : Prop := W p l e (headSpec (Cond.code yX8_wash cX8_wash 3 (some .int) :: GW) { frames := 1, cells := 0, slots := 0, locals := 22 }).room s m ([.ref m0] : List Value).toArray below meth c H locs 0 0 (MQ below (va_Qi (fun r (_ : Unit) => r = out.1) (BW D (wM cI cJ cZ m0 m1 m2 m3 m4 m5 m6 m7 m8 m9 m10 m11 m12 m13 M_posts M_roads M_size M_rows M_nextRows M_first M_second M_number_0 M_lists M_square M_fan M_trial M_touching M_having M_most M_only M_can M_next) s.heap.size (fun _ => (wM cI cJ cZ m0 m1 m2 m3 m4 m5 m6 m7 m8 m9 m10 m11 m12 m13 M_posts M_roads M_size M_rows M_nextRows M_first M_second out.2 M_lists M_square M_fan M_trial M_touching M_having M_most M_only M_can M_next))) (va_A (wM cI cJ cZ m0 m1 m2 m3 m4 m5 m6 m7 m8 m9 m10 m11 m12 m13 M_posts M_roads M_size M_rows M_nextRows M_first M_second M_number_0 M_lists M_square M_fan M_trial M_touching M_having M_most M_only M_can M_next) s.heap.size)) ([.ref m0] : List Value).toArray s 0 0 (va_A (wM cI cJ cZ m0 m1 m2 m3 m4 m5 m6 m7 m8 m9 m10 m11 m12 m13 M_posts M_roads M_size M_rows M_nextRows M_first M_second M_number_0 M_lists M_square M_fan M_trial M_touching M_having M_most M_only M_can M_next) s.heap.size)) g
theorem kvX8_wash : CalV RX8 yX8_wash cX8_wash 3 (some .int) 0 := ⟨wC_yX8_wash, wM_yX8_wash, wS_yX8_wash, wI_RX8, by decide +kernel⟩
set_option maxHeartbeats 4000000 in
set_option maxRecDepth 100000 in
theorem kX8_wash (l : Launch) (D : va_G) (cI cJ cZ : ClassId) (m0 m1 m2 m3 m4 m5 m6 m7 m8 m9 m10 m11 m12 m13 : Nat) (M_posts : Int32) (M_roads : Int32) (M_size : Int32) (M_rows : Int32) (M_nextRows : Int32) (M_first : Nat → Int32) (M_second : Nat → Int32) (M_number_0 : Nat → Int32) (M_lists : Nat → Int32) (M_square : Nat → Int32) (M_fan : Nat → Int32) (M_trial : Nat → Int32) (M_touching : Nat → Int32) (M_having : Nat → Int32) (M_most : Nat → Int32) (M_only : Nat → Int32) (M_can : Nat → Int32) (M_next : Nat → Int32)  (out : Int32 × (Nat → Int32)) (hf : FX8_wash M_roads M_number_0 = some out) : MI l yX8_wash (Cond.code yX8_wash cX8_wash 3 (some .int) :: GW) { frames := 1, cells := 0, slots := 0, locals := 22 } D cI cJ cZ [.ref m0] (wM cI cJ cZ m0 m1 m2 m3 m4 m5 m6 m7 m8 m9 m10 m11 m12 m13 M_posts M_roads M_size M_rows M_nextRows M_first M_second M_number_0 M_lists M_square M_fan M_trial M_touching M_having M_most M_only M_can M_next) (fun r (_ : Unit) => r = out.1) (fun _ => (wM cI cJ cZ m0 m1 m2 m3 m4 m5 m6 m7 m8 m9 m10 m11 m12 m13 M_posts M_roads M_size M_rows M_nextRows M_first M_second out.2 M_lists M_square M_fan M_trial M_touching M_having M_most M_only M_can M_next)) := by
  intro sz
  refine Met.ofW (cc := cX8_wash) (maxL := 3) (ret := (some .int)) (by decide +kernel) rfl ?_
  intro p e s m args below meth c s₁ B hml hv
  obtain ⟨rfl, hsz, hP, hK, hD0⟩ := hv
  have hx := B.exec
  have hb := B.bytes
  have hr := B.returns
  have hlocks := B.notSynchronized
  have hg : ∀ w ∈ GW, w.before _ s = true := fun w h => atoms_spec (ws := Cond.code yX8_wash cX8_wash 3 (some .int) :: GW) B.pre w (List.mem_cons_of_mem _ h)
  have hown : s.vm.findClass RX8 = some m.cls := findClass_of_methodNamed B.named
  subst hsz
  obtain ⟨A, hAe⟩ : ∃ A, A = va_A (wM cI cJ cZ m0 m1 m2 m3 m4 m5 m6 m7 m8 m9 m10 m11 m12 m13 M_posts M_roads M_size M_rows M_nextRows M_first M_second M_number_0 M_lists M_square M_fan M_trial M_touching M_having M_most M_only M_can M_next) s.heap.size := ⟨_, rfl⟩
  have hA : ∀ q : Nat, s.heap.size ≤ q → A q := fun q h => by rw [hAe]; exact Or.inr h
  have hI : WI D A s.heap (wM cI cJ cZ m0 m1 m2 m3 m4 m5 m6 m7 m8 m9 m10 m11 m12 m13 M_posts M_roads M_size M_rows M_nextRows M_first M_second M_number_0 M_lists M_square M_fan M_trial M_touching M_having M_most M_only M_can M_next) s.heap [] := ⟨hP, by rw [hAe]; exact hD0.self, va_S.rf⟩
  have hl := lv_entry [.ref m0] (n := 3) (Nat.le_of_ble_eq_true rfl)
  rw [lg_entry_eq]
  generalize (lg_sl [.ref m0] ++ List.replicate (3 - (lg_sl [.ref m0]).length) Slot.unset).toArray = ls at hl ⊢
  replace hl : lv_has ls 3 [(0, .ref m0)] := hl
  have L7 : ∀ (l1 : Int32), ∀ (v : (Nat → Int32) × Int32) (x : Int32 × (Nat → Int32)), loopO (X8_wash_L7 M_roads l1) v = some x → (fun z : Int32 × (Nat → Int32) => z = out) x → (fun (v : (Nat → Int32) × Int32) => ∀ (H : Heap) (locs : List Loc) (ls : Array Slot), WI D A s.heap (wM cI cJ cZ m0 m1 m2 m3 m4 m5 m6 m7 m8 m9 m10 m11 m12 m13 M_posts M_roads M_size M_rows M_nextRows M_first M_second v.1 M_lists M_square M_fan M_trial M_touching M_having M_most M_only M_can M_next) H locs → lv_has ls 3 [(0, .ref m0), (1, .int l1), (2, .int v.2)] → GX8_wash p l e s m below meth c D cI cJ cZ m0 m1 m2 m3 m4 m5 m6 m7 m8 m9 m10 m11 m12 m13 M_posts M_roads M_size M_rows M_nextRows M_first M_second M_number_0 M_lists M_square M_fan M_trial M_touching M_having M_most M_only M_can M_next  out H locs (F0 m 7 ls [])) v := by
    intro l1
    refine loopO_ind (fun (v : (Nat → Int32) × Int32) => ∀ (H : Heap) (locs : List Loc) (ls : Array Slot), WI D A s.heap (wM cI cJ cZ m0 m1 m2 m3 m4 m5 m6 m7 m8 m9 m10 m11 m12 m13 M_posts M_roads M_size M_rows M_nextRows M_first M_second v.1 M_lists M_square M_fan M_trial M_touching M_having M_most M_only M_can M_next) H locs → lv_has ls 3 [(0, .ref m0), (1, .int l1), (2, .int v.2)] → GX8_wash p l e s m below meth c D cI cJ cZ m0 m1 m2 m3 m4 m5 m6 m7 m8 m9 m10 m11 m12 m13 M_posts M_roads M_size M_rows M_nextRows M_first M_second M_number_0 M_lists M_square M_fan M_trial M_touching M_having M_most M_only M_can M_next  out H locs (F0 m 7 ls [])) (fun z : Int32 × (Nat → Int32) => z = out) ?_
    intro v x hf hM H locs ls hI hl
    refine lv_iload_n hx hb dX8_wash_7 rfl (lv_at hl 2 rfl) ?_
    refine lv_aload_n hx hb dX8_wash_8 rfl (lv_at hl 0 rfl) ?_
    refine w_get hx hb hg hown hK hI iX8 0 rfl rfl 1 (by decide) wF_RX8_57 rfl dX8_wash_9 ?_
    refine lv_icmp_ge (tgt := 28) hx hb dX8_wash_12 (by decide) (fun hc => ?_) (fun hc => ?_)
    · replace hf := ite_t hc hf
      refine lv_iload_n hx hb dX8_wash_28 rfl (lv_at hl 1 rfl) ?_
      replace hf := Option.some.inj hf
      subst hf
      replace hM : (l1, v.1) = out := hM
      subst hM
      exact rt_i (u := ()) hx hb hr hlocks rfl hI hAe rfl dX8_wash_29
    · replace hf := ite_f hc hf
      refine lv_aload_n hx hb dX8_wash_15 rfl (lv_at hl 0 rfl) ?_
      refine w_get hx hb hg hown hK hI iX8 0 rfl rfl 4 (by decide) wF_RX8_16 rfl dX8_wash_16 ?_
      refine lv_iload_n hx hb dX8_wash_19 rfl (lv_at hl 2 rfl) ?_
      refine lv_iconst (v := -1) hx hb dX8_wash_20 (by decide) ?_
      obtain ⟨hin, hf⟩ := wr_e hf
      obtain ⟨g2, eg2⟩ : ∃ g : Nat → Int32, g = upd v.1 (v.2).toNatClampNeg (-1 : Int32) := ⟨_, rfl⟩
      replace hf := hf g2 eg2
      refine w_iast (g := g2) (W1 := (wM cI cJ cZ m0 m1 m2 m3 m4 m5 m6 m7 m8 m9 m10 m11 m12 m13 M_posts M_roads M_size M_rows M_nextRows M_first M_second g2 M_lists M_square M_fan M_trial M_touching M_having M_most M_only M_can M_next)) hx hb hK hI 3 rfl hin eg2 dX8_wash_21 rfl (fun H locs hI => ?_)
      obtain ⟨x3, ex3⟩ : ∃ y : Int32, y = (v.2 + (1 : Int32)) := ⟨_, rfl⟩
      replace hf := bnd_e hf x3 ex3
      refine lv_iinc (v := x3) (lv' := [(2, .int x3), (0, .ref m0), (1, .int l1)]) hx hb dX8_wash_22 hl (k := 2) rfl (by rw [ex3]; rfl) (by decide) rfl (fun ls hl => ?_)
      refine lv_goto (tgt := 7) hx hb dX8_wash_25 (by decide) ?_
      replace hf := Option.some.inj hf
      subst hf
      exact hM _ _ _ hI (lv_sub hl [1, 2, 0] rfl)
  obtain ⟨x, hf, hM⟩ : ∃ x, FX8_wash M_roads M_number_0 = some x ∧ x = out := ⟨out, hf, rfl⟩
  refine lv_aload_n hx hb dX8_wash_0 rfl (lv_at hl 0 rfl) ?_
  obtain ⟨o1, ho1, hf⟩ := bd_e hf
  refine w_Vi0 (wc := (wM cI cJ cZ m0 m1 m2 m3 m4 m5 m6 m7 m8 m9 m10 m11 m12 m13 M_posts M_roads M_size M_rows M_nextRows M_first M_second M_number_0 M_lists M_square M_fan M_trial M_touching M_having M_most M_only M_can M_next)) (wr := []) (rest := []) hx hb hml hg hown hK hA hI (kX8_numbered l D cI cJ cZ m0 m1 m2 m3 m4 m5 m6 m7 m8 m9 m10 m11 m12 m13 M_posts M_roads M_size M_rows M_nextRows M_first M_second M_number_0 M_lists M_square M_fan M_trial M_touching M_having M_most M_only M_can M_next  o1 ho1) kvX8_numbered wL_RX8_76 ⟨Nat.le_of_ble_eq_true rfl, Nat.le_of_ble_eq_true rfl⟩ rfl rfl [0, 1, 2, 3, 4, 5, 6, 7, 8, 9, 10, 11, 12, 13] [] rfl rfl rfl rfl (by decide) rfl rfl hl.1 (Nat.le_of_ble_eq_true rfl) dX8_wash_1 ⟨Nat.zero_le _, Nat.zero_le _⟩ ⟨rfl, rfl⟩ (fun r u H locs hp hI => ?_)
  replace hp : r = o1 := hp
  rw [hp]
  clear hp
  replace hI : WI D A s.heap (wM cI cJ cZ m0 m1 m2 m3 m4 m5 m6 m7 m8 m9 m10 m11 m12 m13 M_posts M_roads M_size M_rows M_nextRows M_first M_second M_number_0 M_lists M_square M_fan M_trial M_touching M_having M_most M_only M_can M_next) H locs := hI
  refine lv_istore_n (lv' := [(1, .int o1), (0, .ref m0)]) hx hb dX8_wash_4 rfl hl (by decide) rfl (fun ls hl => ?_)
  refine lv_iconst (v := 0) hx hb dX8_wash_5 (by decide) ?_
  refine lv_istore_n (lv' := [(2, .int (0 : Int32)), (1, .int o1), (0, .ref m0)]) hx hb dX8_wash_6 rfl hl (by decide) rfl (fun ls hl => ?_)
  exact L7 o1 (M_number_0, (0 : Int32)) _ hf hM _ _ _ hI (lv_sub hl [2, 1, 0] rfl)
noncomputable def FX8_of (M_roads : Int32) (M_first : Nat → Int32) (M_second : Nat → Int32) (M_number : Nat → Int32) (M_lists : Nat → Int32) (a1 : Int32) (a2 : Int32) : Option (Int32) :=
  (FX8_isRoad M_roads a1).bind (fun o1 => if o1 = (0 : Int32) then (some (-2 : Int32)) else (if a2 = (0 : Int32) then (rd M_first 24 a1 (fun x5 => some x5)) else (if a2 = (1 : Int32) then (rd M_second 24 a1 (fun x4 => some x4)) else (if a2 = (2 : Int32) then (rd M_number 24 a1 (fun x3 => some x3)) else (if a2 = (3 : Int32) then (rd M_lists 24 a1 (fun x2 => some x2)) else (some (-2 : Int32)))))))
abbrev GX8_of (p : Program) (l : Launch) (e : Env) (s : State) (m : MethodId) (below : List Frame) (meth : Method) (c : Code) (D : va_G) (cI cJ cZ : ClassId) (m0 m1 m2 m3 m4 m5 m6 m7 m8 m9 m10 m11 m12 m13 : Nat) (M_posts : Int32) (M_roads : Int32) (M_size : Int32) (M_rows : Int32) (M_nextRows : Int32) (M_first : Nat → Int32) (M_second : Nat → Int32) (M_number : Nat → Int32) (M_lists : Nat → Int32) (M_square : Nat → Int32) (M_fan : Nat → Int32) (M_trial : Nat → Int32) (M_touching : Nat → Int32) (M_having : Nat → Int32) (M_most : Nat → Int32) (M_only : Nat → Int32) (M_can : Nat → Int32) (M_next : Nat → Int32) (a1 : Int32) (a2 : Int32) (out : Int32) (H : Heap) (locs : List Loc) (g : JFrame) : Prop := W p l e (headSpec (Cond.code yX8_of cX8_of 3 (some .int) :: GW) { frames := 2, cells := 0, slots := 0, locals := 43 }).room s m ([.ref m0, .int a1, .int a2] : List Value).toArray below meth c H locs 0 0 (MQ below (va_Qi (fun r (_ : Unit) => r = out) (BW D (wM cI cJ cZ m0 m1 m2 m3 m4 m5 m6 m7 m8 m9 m10 m11 m12 m13 M_posts M_roads M_size M_rows M_nextRows M_first M_second M_number M_lists M_square M_fan M_trial M_touching M_having M_most M_only M_can M_next) s.heap.size (fun _ => (wM cI cJ cZ m0 m1 m2 m3 m4 m5 m6 m7 m8 m9 m10 m11 m12 m13 M_posts M_roads M_size M_rows M_nextRows M_first M_second M_number M_lists M_square M_fan M_trial M_touching M_having M_most M_only M_can M_next))) (va_A (wM cI cJ cZ m0 m1 m2 m3 m4 m5 m6 m7 m8 m9 m10 m11 m12 m13 M_posts M_roads M_size M_rows M_nextRows M_first M_second M_number M_lists M_square M_fan M_trial M_touching M_having M_most M_only M_can M_next) s.heap.size)) ([.ref m0, .int a1, .int a2] : List Value).toArray s 0 0 (va_A (wM cI cJ cZ m0 m1 m2 m3 m4 m5 m6 m7 m8 m9 m10 m11 m12 m13 M_posts M_roads M_size M_rows M_nextRows M_first M_second M_number M_lists M_square M_fan M_trial M_touching M_having M_most M_only M_can M_next) s.heap.size)) g
theorem kvX8_of : CalV RX8 yX8_of cX8_of 3 (some .int) 2 := ⟨wC_yX8_of, wM_yX8_of, wS_yX8_of, wI_RX8, by decide +kernel⟩
set_option maxHeartbeats 4000000 in
set_option maxRecDepth 100000 in
theorem kX8_of (l : Launch) (D : va_G) (cI cJ cZ : ClassId) (m0 m1 m2 m3 m4 m5 m6 m7 m8 m9 m10 m11 m12 m13 : Nat) (M_posts : Int32) (M_roads : Int32) (M_size : Int32) (M_rows : Int32) (M_nextRows : Int32) (M_first : Nat → Int32) (M_second : Nat → Int32) (M_number : Nat → Int32) (M_lists : Nat → Int32) (M_square : Nat → Int32) (M_fan : Nat → Int32) (M_trial : Nat → Int32) (M_touching : Nat → Int32) (M_having : Nat → Int32) (M_most : Nat → Int32) (M_only : Nat → Int32) (M_can : Nat → Int32) (M_next : Nat → Int32) (a1 : Int32) (a2 : Int32) (out : Int32) (hf : FX8_of M_roads M_first M_second M_number M_lists a1 a2 = some out) : MI l yX8_of (Cond.code yX8_of cX8_of 3 (some .int) :: GW) { frames := 2, cells := 0, slots := 0, locals := 43 } D cI cJ cZ [.ref m0, .int a1, .int a2] (wM cI cJ cZ m0 m1 m2 m3 m4 m5 m6 m7 m8 m9 m10 m11 m12 m13 M_posts M_roads M_size M_rows M_nextRows M_first M_second M_number M_lists M_square M_fan M_trial M_touching M_having M_most M_only M_can M_next) (fun r (_ : Unit) => r = out) (fun _ => (wM cI cJ cZ m0 m1 m2 m3 m4 m5 m6 m7 m8 m9 m10 m11 m12 m13 M_posts M_roads M_size M_rows M_nextRows M_first M_second M_number M_lists M_square M_fan M_trial M_touching M_having M_most M_only M_can M_next)) := by
  intro sz
  refine Met.ofW (cc := cX8_of) (maxL := 3) (ret := (some .int)) (by decide +kernel) rfl ?_
  intro p e s m args below meth c s₁ B hml hv
  obtain ⟨rfl, hsz, hP, hK, hD0⟩ := hv
  have hx := B.exec
  have hb := B.bytes
  have hr := B.returns
  have hlocks := B.notSynchronized
  have hg : ∀ w ∈ GW, w.before _ s = true := fun w h => atoms_spec (ws := Cond.code yX8_of cX8_of 3 (some .int) :: GW) B.pre w (List.mem_cons_of_mem _ h)
  have hown : s.vm.findClass RX8 = some m.cls := findClass_of_methodNamed B.named
  subst hsz
  obtain ⟨A, hAe⟩ : ∃ A, A = va_A (wM cI cJ cZ m0 m1 m2 m3 m4 m5 m6 m7 m8 m9 m10 m11 m12 m13 M_posts M_roads M_size M_rows M_nextRows M_first M_second M_number M_lists M_square M_fan M_trial M_touching M_having M_most M_only M_can M_next) s.heap.size := ⟨_, rfl⟩
  have hA : ∀ q : Nat, s.heap.size ≤ q → A q := fun q h => by rw [hAe]; exact Or.inr h
  have hI : WI D A s.heap (wM cI cJ cZ m0 m1 m2 m3 m4 m5 m6 m7 m8 m9 m10 m11 m12 m13 M_posts M_roads M_size M_rows M_nextRows M_first M_second M_number M_lists M_square M_fan M_trial M_touching M_having M_most M_only M_can M_next) s.heap [] := ⟨hP, by rw [hAe]; exact hD0.self, va_S.rf⟩
  have hl := lv_entry [.ref m0, .int a1, .int a2] (n := 3) (Nat.le_of_ble_eq_true rfl)
  rw [lg_entry_eq]
  generalize (lg_sl [.ref m0, .int a1, .int a2] ++ List.replicate (3 - (lg_sl [.ref m0, .int a1, .int a2]).length) Slot.unset).toArray = ls at hl ⊢
  replace hl : lv_has ls 3 [(0, .ref m0), (1, .int a1), (2, .int a2)] := hl
  obtain ⟨x, hf, hM⟩ : ∃ x, FX8_of M_roads M_first M_second M_number M_lists a1 a2 = some x ∧ x = out := ⟨out, hf, rfl⟩
  refine lv_aload_n hx hb dX8_of_0 rfl (lv_at hl 0 rfl) ?_
  refine lv_iload_n hx hb dX8_of_1 rfl (lv_at hl 1 rfl) ?_
  obtain ⟨o1, ho1, hf⟩ := bd_e hf
  refine w_Vi0 (wc := (wM cI cJ cZ m0 m1 m2 m3 m4 m5 m6 m7 m8 m9 m10 m11 m12 m13 M_posts M_roads M_size M_rows M_nextRows M_first M_second M_number M_lists M_square M_fan M_trial M_touching M_having M_most M_only M_can M_next)) (wr := []) (rest := []) hx hb hml hg hown hK hA hI (kX8_isRoad l D cI cJ cZ m0 m1 m2 m3 m4 m5 m6 m7 m8 m9 m10 m11 m12 m13 M_posts M_roads M_size M_rows M_nextRows M_first M_second M_number M_lists M_square M_fan M_trial M_touching M_having M_most M_only M_can M_next a1 o1 ho1) kvX8_isRoad wL_RX8_72 ⟨Nat.le_of_ble_eq_true rfl, Nat.le_of_ble_eq_true rfl⟩ rfl rfl [0, 1, 2, 3, 4, 5, 6, 7, 8, 9, 10, 11, 12, 13] [] rfl rfl rfl rfl (by decide) rfl rfl hl.1 (Nat.le_of_ble_eq_true rfl) dX8_of_2 ⟨Nat.zero_le _, Nat.zero_le _⟩ ⟨rfl, rfl⟩ (fun r u H locs hp hI => ?_)
  replace hp : r = o1 := hp
  rw [hp]
  clear hp
  replace hI : WI D A s.heap (wM cI cJ cZ m0 m1 m2 m3 m4 m5 m6 m7 m8 m9 m10 m11 m12 m13 M_posts M_roads M_size M_rows M_nextRows M_first M_second M_number M_lists M_square M_fan M_trial M_touching M_having M_most M_only M_can M_next) H locs := hI
  refine lv_if_ne (tgt := 11) hx hb dX8_of_5 (by decide) (fun hc => ?_) (fun hc => ?_)
  · replace hf := ite_f hc hf
    refine lv_iload_n hx hb dX8_of_11 rfl (lv_at hl 2 rfl) ?_
    refine lv_if_ne (tgt := 24) hx hb dX8_of_12 (by decide) (fun hc => ?_) (fun hc => ?_)
    · replace hf := ite_f hc hf
      refine lv_iload_n hx hb dX8_of_24 rfl (lv_at hl 2 rfl) ?_
      refine lv_iconst (v := 1) hx hb dX8_of_25 (by decide) ?_
      refine lv_icmp_ne (tgt := 38) hx hb dX8_of_26 (by decide) (fun hc => ?_) (fun hc => ?_)
      · replace hf := ite_f hc hf
        refine lv_iload_n hx hb dX8_of_38 rfl (lv_at hl 2 rfl) ?_
        refine lv_iconst (v := 2) hx hb dX8_of_39 (by decide) ?_
        refine lv_icmp_ne (tgt := 52) hx hb dX8_of_40 (by decide) (fun hc => ?_) (fun hc => ?_)
        · replace hf := ite_f hc hf
          refine lv_iload_n hx hb dX8_of_52 rfl (lv_at hl 2 rfl) ?_
          refine lv_iconst (v := 3) hx hb dX8_of_53 (by decide) ?_
          refine lv_icmp_ne (tgt := 66) hx hb dX8_of_54 (by decide) (fun hc => ?_) (fun hc => ?_)
          · replace hf := ite_f hc hf
            refine lv_bipush (v := -2) hx hb dX8_of_66 (by decide) ?_
            replace hf := Option.some.inj hf
            subst hf
            replace hM : (-2 : Int32) = out := hM
            subst hM
            exact rt_i (u := ()) hx hb hr hlocks rfl hI hAe rfl dX8_of_68
          · replace hf := ite_t hc hf
            refine lv_aload_n hx hb dX8_of_57 rfl (lv_at hl 0 rfl) ?_
            refine w_get hx hb hg hown hK hI iX8 0 rfl rfl 5 (by decide) wF_RX8_19 rfl dX8_of_58 ?_
            refine lv_iload_n hx hb dX8_of_61 rfl (lv_at hl 1 rfl) ?_
            obtain ⟨hin, hf⟩ := rd_e hf
            refine w_iald hx hb hK hI 4 rfl hin dX8_of_62 (fun x2 ex2 => ?_)
            replace hf := hf x2 ex2
            refine lv_goto (tgt := 68) hx hb dX8_of_63 (by decide) ?_
            replace hf := Option.some.inj hf
            subst hf
            replace hM : x2 = out := hM
            subst hM
            exact rt_i (u := ()) hx hb hr hlocks rfl hI hAe rfl dX8_of_68
        · replace hf := ite_t hc hf
          refine lv_aload_n hx hb dX8_of_43 rfl (lv_at hl 0 rfl) ?_
          refine w_get hx hb hg hown hK hI iX8 0 rfl rfl 4 (by decide) wF_RX8_16 rfl dX8_of_44 ?_
          refine lv_iload_n hx hb dX8_of_47 rfl (lv_at hl 1 rfl) ?_
          obtain ⟨hin, hf⟩ := rd_e hf
          refine w_iald hx hb hK hI 3 rfl hin dX8_of_48 (fun x3 ex3 => ?_)
          replace hf := hf x3 ex3
          refine lv_goto (tgt := 68) hx hb dX8_of_49 (by decide) ?_
          replace hf := Option.some.inj hf
          subst hf
          replace hM : x3 = out := hM
          subst hM
          exact rt_i (u := ()) hx hb hr hlocks rfl hI hAe rfl dX8_of_68
      · replace hf := ite_t hc hf
        refine lv_aload_n hx hb dX8_of_29 rfl (lv_at hl 0 rfl) ?_
        refine w_get hx hb hg hown hK hI iX8 0 rfl rfl 3 (by decide) wF_RX8_13 rfl dX8_of_30 ?_
        refine lv_iload_n hx hb dX8_of_33 rfl (lv_at hl 1 rfl) ?_
        obtain ⟨hin, hf⟩ := rd_e hf
        refine w_iald hx hb hK hI 2 rfl hin dX8_of_34 (fun x4 ex4 => ?_)
        replace hf := hf x4 ex4
        refine lv_goto (tgt := 68) hx hb dX8_of_35 (by decide) ?_
        replace hf := Option.some.inj hf
        subst hf
        replace hM : x4 = out := hM
        subst hM
        exact rt_i (u := ()) hx hb hr hlocks rfl hI hAe rfl dX8_of_68
    · replace hf := ite_t hc hf
      refine lv_aload_n hx hb dX8_of_15 rfl (lv_at hl 0 rfl) ?_
      refine w_get hx hb hg hown hK hI iX8 0 rfl rfl 2 (by decide) wF_RX8_7 rfl dX8_of_16 ?_
      refine lv_iload_n hx hb dX8_of_19 rfl (lv_at hl 1 rfl) ?_
      obtain ⟨hin, hf⟩ := rd_e hf
      refine w_iald hx hb hK hI 1 rfl hin dX8_of_20 (fun x5 ex5 => ?_)
      replace hf := hf x5 ex5
      refine lv_goto (tgt := 68) hx hb dX8_of_21 (by decide) ?_
      replace hf := Option.some.inj hf
      subst hf
      replace hM : x5 = out := hM
      subst hM
      exact rt_i (u := ()) hx hb hr hlocks rfl hI hAe rfl dX8_of_68
  · replace hf := ite_t hc hf
    refine lv_bipush (v := -2) hx hb dX8_of_8 (by decide) ?_
    replace hf := Option.some.inj hf
    subst hf
    replace hM : (-2 : Int32) = out := hM
    subst hM
    exact rt_i (u := ()) hx hb hr hlocks rfl hI hAe rfl dX8_of_10
noncomputable def X8_roadsAt_L4 (M_roads : Int32) (M_first : Nat → Int32) (M_second : Nat → Int32) (l1 : Int32) (v : Int32 × Int32) : Option ((Int32 × Int32) ⊕ (Int32)) :=
  if M_roads ≤ v.2 then (some (.inr v.1)) else ((FX8_ends M_first M_second v.2 l1).bind (fun o1 => if o1 = (0 : Int32) then (bnd (v.1 + (0 : Int32)) (fun x2 => bnd (v.2 + (1 : Int32)) (fun x3 => some (.inl (x2, x3))))) else (bnd (v.1 + (1 : Int32)) (fun x4 => bnd (v.2 + (1 : Int32)) (fun x5 => some (.inl (x4, x5)))))))
noncomputable def FX8_roadsAt (M_roads : Int32) (M_first : Nat → Int32) (M_second : Nat → Int32) (a1 : Int32) : Option (Int32) :=
  loopO (X8_roadsAt_L4 M_roads M_first M_second a1) ((0 : Int32), (0 : Int32))
abbrev GX8_roadsAt (p : Program) (l : Launch) (e : Env) (s : State) (m : MethodId) (below : List Frame) (meth : Method) (c : Code) (D : va_G) (cI cJ cZ : ClassId) (m0 m1 m2 m3 m4 m5 m6 m7 m8 m9 m10 m11 m12 m13 : Nat) (M_posts : Int32) (M_roads : Int32) (M_size : Int32) (M_rows : Int32) (M_nextRows : Int32) (M_first : Nat → Int32) (M_second : Nat → Int32) (M_number : Nat → Int32) (M_lists : Nat → Int32) (M_square : Nat → Int32) (M_fan : Nat → Int32) (M_trial : Nat → Int32) (M_touching : Nat → Int32) (M_having : Nat → Int32) (M_most : Nat → Int32) (M_only : Nat → Int32) (M_can : Nat → Int32) (M_next : Nat → Int32) (a1 : Int32) (out : Int32) (H : Heap) (locs : List Loc) (g : JFrame) : Prop := W p l e (headSpec (Cond.code yX8_roadsAt cX8_roadsAt 4 (some .int) :: GW) { frames := 1, cells := 0, slots := 0, locals := 22 }).room s m ([.ref m0, .int a1] : List Value).toArray below meth c H locs 0 0 (MQ below (va_Qi (fun r (_ : Unit) => r = out) (BW D (wM cI cJ cZ m0 m1 m2 m3 m4 m5 m6 m7 m8 m9 m10 m11 m12 m13 M_posts M_roads M_size M_rows M_nextRows M_first M_second M_number M_lists M_square M_fan M_trial M_touching M_having M_most M_only M_can M_next) s.heap.size (fun _ => (wM cI cJ cZ m0 m1 m2 m3 m4 m5 m6 m7 m8 m9 m10 m11 m12 m13 M_posts M_roads M_size M_rows M_nextRows M_first M_second M_number M_lists M_square M_fan M_trial M_touching M_having M_most M_only M_can M_next))) (va_A (wM cI cJ cZ m0 m1 m2 m3 m4 m5 m6 m7 m8 m9 m10 m11 m12 m13 M_posts M_roads M_size M_rows M_nextRows M_first M_second M_number M_lists M_square M_fan M_trial M_touching M_having M_most M_only M_can M_next) s.heap.size)) ([.ref m0, .int a1] : List Value).toArray s 0 0 (va_A (wM cI cJ cZ m0 m1 m2 m3 m4 m5 m6 m7 m8 m9 m10 m11 m12 m13 M_posts M_roads M_size M_rows M_nextRows M_first M_second M_number M_lists M_square M_fan M_trial M_touching M_having M_most M_only M_can M_next) s.heap.size)) g
theorem kvX8_roadsAt : CalV RX8 yX8_roadsAt cX8_roadsAt 4 (some .int) 1 := ⟨wC_yX8_roadsAt, wM_yX8_roadsAt, wS_yX8_roadsAt, wI_RX8, by decide +kernel⟩
set_option maxHeartbeats 4000000 in
set_option maxRecDepth 100000 in
theorem kX8_roadsAt (l : Launch) (D : va_G) (cI cJ cZ : ClassId) (m0 m1 m2 m3 m4 m5 m6 m7 m8 m9 m10 m11 m12 m13 : Nat) (M_posts : Int32) (M_roads : Int32) (M_size : Int32) (M_rows : Int32) (M_nextRows : Int32) (M_first : Nat → Int32) (M_second : Nat → Int32) (M_number : Nat → Int32) (M_lists : Nat → Int32) (M_square : Nat → Int32) (M_fan : Nat → Int32) (M_trial : Nat → Int32) (M_touching : Nat → Int32) (M_having : Nat → Int32) (M_most : Nat → Int32) (M_only : Nat → Int32) (M_can : Nat → Int32) (M_next : Nat → Int32) (a1 : Int32) (out : Int32) (hf : FX8_roadsAt M_roads M_first M_second a1 = some out) : MI l yX8_roadsAt (Cond.code yX8_roadsAt cX8_roadsAt 4 (some .int) :: GW) { frames := 1, cells := 0, slots := 0, locals := 22 } D cI cJ cZ [.ref m0, .int a1] (wM cI cJ cZ m0 m1 m2 m3 m4 m5 m6 m7 m8 m9 m10 m11 m12 m13 M_posts M_roads M_size M_rows M_nextRows M_first M_second M_number M_lists M_square M_fan M_trial M_touching M_having M_most M_only M_can M_next) (fun r (_ : Unit) => r = out) (fun _ => (wM cI cJ cZ m0 m1 m2 m3 m4 m5 m6 m7 m8 m9 m10 m11 m12 m13 M_posts M_roads M_size M_rows M_nextRows M_first M_second M_number M_lists M_square M_fan M_trial M_touching M_having M_most M_only M_can M_next)) := by
  intro sz
  refine Met.ofW (cc := cX8_roadsAt) (maxL := 4) (ret := (some .int)) (by decide +kernel) rfl ?_
  intro p e s m args below meth c s₁ B hml hv
  obtain ⟨rfl, hsz, hP, hK, hD0⟩ := hv
  have hx := B.exec
  have hb := B.bytes
  have hr := B.returns
  have hlocks := B.notSynchronized
  have hg : ∀ w ∈ GW, w.before _ s = true := fun w h => atoms_spec (ws := Cond.code yX8_roadsAt cX8_roadsAt 4 (some .int) :: GW) B.pre w (List.mem_cons_of_mem _ h)
  have hown : s.vm.findClass RX8 = some m.cls := findClass_of_methodNamed B.named
  subst hsz
  obtain ⟨A, hAe⟩ : ∃ A, A = va_A (wM cI cJ cZ m0 m1 m2 m3 m4 m5 m6 m7 m8 m9 m10 m11 m12 m13 M_posts M_roads M_size M_rows M_nextRows M_first M_second M_number M_lists M_square M_fan M_trial M_touching M_having M_most M_only M_can M_next) s.heap.size := ⟨_, rfl⟩
  have hA : ∀ q : Nat, s.heap.size ≤ q → A q := fun q h => by rw [hAe]; exact Or.inr h
  have hI : WI D A s.heap (wM cI cJ cZ m0 m1 m2 m3 m4 m5 m6 m7 m8 m9 m10 m11 m12 m13 M_posts M_roads M_size M_rows M_nextRows M_first M_second M_number M_lists M_square M_fan M_trial M_touching M_having M_most M_only M_can M_next) s.heap [] := ⟨hP, by rw [hAe]; exact hD0.self, va_S.rf⟩
  have hl := lv_entry [.ref m0, .int a1] (n := 4) (Nat.le_of_ble_eq_true rfl)
  rw [lg_entry_eq]
  generalize (lg_sl [.ref m0, .int a1] ++ List.replicate (4 - (lg_sl [.ref m0, .int a1]).length) Slot.unset).toArray = ls at hl ⊢
  replace hl : lv_has ls 4 [(0, .ref m0), (1, .int a1)] := hl
  have L4 : ∀ (l1 : Int32), ∀ (v : Int32 × Int32) (x : Int32), loopO (X8_roadsAt_L4 M_roads M_first M_second l1) v = some x → (fun z : Int32 => z = out) x → (fun (v : Int32 × Int32) => ∀ (H : Heap) (locs : List Loc) (ls : Array Slot), WI D A s.heap (wM cI cJ cZ m0 m1 m2 m3 m4 m5 m6 m7 m8 m9 m10 m11 m12 m13 M_posts M_roads M_size M_rows M_nextRows M_first M_second M_number M_lists M_square M_fan M_trial M_touching M_having M_most M_only M_can M_next) H locs → lv_has ls 4 [(0, .ref m0), (1, .int l1), (2, .int v.1), (3, .int v.2)] → GX8_roadsAt p l e s m below meth c D cI cJ cZ m0 m1 m2 m3 m4 m5 m6 m7 m8 m9 m10 m11 m12 m13 M_posts M_roads M_size M_rows M_nextRows M_first M_second M_number M_lists M_square M_fan M_trial M_touching M_having M_most M_only M_can M_next a1 out H locs (F0 m 4 ls [])) v := by
    intro l1
    refine loopO_ind (fun (v : Int32 × Int32) => ∀ (H : Heap) (locs : List Loc) (ls : Array Slot), WI D A s.heap (wM cI cJ cZ m0 m1 m2 m3 m4 m5 m6 m7 m8 m9 m10 m11 m12 m13 M_posts M_roads M_size M_rows M_nextRows M_first M_second M_number M_lists M_square M_fan M_trial M_touching M_having M_most M_only M_can M_next) H locs → lv_has ls 4 [(0, .ref m0), (1, .int l1), (2, .int v.1), (3, .int v.2)] → GX8_roadsAt p l e s m below meth c D cI cJ cZ m0 m1 m2 m3 m4 m5 m6 m7 m8 m9 m10 m11 m12 m13 M_posts M_roads M_size M_rows M_nextRows M_first M_second M_number M_lists M_square M_fan M_trial M_touching M_having M_most M_only M_can M_next a1 out H locs (F0 m 4 ls [])) (fun z : Int32 => z = out) ?_
    intro v x hf hM H locs ls hI hl
    refine lv_iload_n hx hb dX8_roadsAt_4 rfl (lv_at hl 3 rfl) ?_
    refine lv_aload_n hx hb dX8_roadsAt_5 rfl (lv_at hl 0 rfl) ?_
    refine w_get hx hb hg hown hK hI iX8 0 rfl rfl 1 (by decide) wF_RX8_57 rfl dX8_roadsAt_6 ?_
    refine lv_icmp_ge (tgt := 35) hx hb dX8_roadsAt_9 (by decide) (fun hc => ?_) (fun hc => ?_)
    · replace hf := ite_t hc hf
      refine lv_iload_n hx hb dX8_roadsAt_35 rfl (lv_at hl 2 rfl) ?_
      replace hf := Option.some.inj hf
      subst hf
      replace hM : v.1 = out := hM
      subst hM
      exact rt_i (u := ()) hx hb hr hlocks rfl hI hAe rfl dX8_roadsAt_36
    · replace hf := ite_f hc hf
      refine lv_iload_n hx hb dX8_roadsAt_12 rfl (lv_at hl 2 rfl) ?_
      refine lv_aload_n hx hb dX8_roadsAt_13 rfl (lv_at hl 0 rfl) ?_
      refine lv_iload_n hx hb dX8_roadsAt_14 rfl (lv_at hl 3 rfl) ?_
      refine lv_iload_n hx hb dX8_roadsAt_15 rfl (lv_at hl 1 rfl) ?_
      obtain ⟨o1, ho1, hf⟩ := bd_e hf
      refine w_Vi0 (wc := (wM cI cJ cZ m0 m1 m2 m3 m4 m5 m6 m7 m8 m9 m10 m11 m12 m13 M_posts M_roads M_size M_rows M_nextRows M_first M_second M_number M_lists M_square M_fan M_trial M_touching M_having M_most M_only M_can M_next)) (wr := []) (rest := [.int v.1]) hx hb hml hg hown hK hA hI (kX8_ends l D cI cJ cZ m0 m1 m2 m3 m4 m5 m6 m7 m8 m9 m10 m11 m12 m13 M_posts M_roads M_size M_rows M_nextRows M_first M_second M_number M_lists M_square M_fan M_trial M_touching M_having M_most M_only M_can M_next v.2 l1 o1 ho1) kvX8_ends wL_RX8_64 ⟨Nat.le_of_ble_eq_true rfl, Nat.le_of_ble_eq_true rfl⟩ rfl rfl [0, 1, 2, 3, 4, 5, 6, 7, 8, 9, 10, 11, 12, 13] [] rfl rfl rfl rfl (by decide) rfl rfl hl.1 (Nat.le_of_ble_eq_true rfl) dX8_roadsAt_16 ⟨Nat.zero_le _, Nat.zero_le _⟩ ⟨rfl, rfl⟩ (fun r u H locs hp hI => ?_)
      replace hp : r = o1 := hp
      rw [hp]
      clear hp
      replace hI : WI D A s.heap (wM cI cJ cZ m0 m1 m2 m3 m4 m5 m6 m7 m8 m9 m10 m11 m12 m13 M_posts M_roads M_size M_rows M_nextRows M_first M_second M_number M_lists M_square M_fan M_trial M_touching M_having M_most M_only M_can M_next) H locs := hI
      refine lv_if_eq (tgt := 26) hx hb dX8_roadsAt_19 (by decide) (fun hc => ?_) (fun hc => ?_)
      · replace hf := ite_t hc hf
        refine lv_iconst (v := 0) hx hb dX8_roadsAt_26 (by decide) ?_
        refine lv_iadd hx hb dX8_roadsAt_27 ?_
        refine lv_topi (fun x2 ex2 => ?_)
        replace hf := bnd_e hf x2 ex2
        refine lv_istore_n (lv' := [(2, .int x2), (0, .ref m0), (1, .int l1), (3, .int v.2)]) hx hb dX8_roadsAt_28 rfl hl (by decide) rfl (fun ls hl => ?_)
        obtain ⟨x3, ex3⟩ : ∃ y : Int32, y = (v.2 + (1 : Int32)) := ⟨_, rfl⟩
        replace hf := bnd_e hf x3 ex3
        refine lv_iinc (v := x3) (lv' := [(3, .int x3), (2, .int x2), (0, .ref m0), (1, .int l1)]) hx hb dX8_roadsAt_29 hl (k := 3) rfl (by rw [ex3]; rfl) (by decide) rfl (fun ls hl => ?_)
        refine lv_goto (tgt := 4) hx hb dX8_roadsAt_32 (by decide) ?_
        replace hf := Option.some.inj hf
        subst hf
        exact hM _ _ _ hI (lv_sub hl [2, 3, 1, 0] rfl)
      · replace hf := ite_f hc hf
        refine lv_iconst (v := 1) hx hb dX8_roadsAt_22 (by decide) ?_
        refine lv_goto (tgt := 27) hx hb dX8_roadsAt_23 (by decide) ?_
        refine lv_iadd hx hb dX8_roadsAt_27 ?_
        refine lv_topi (fun x4 ex4 => ?_)
        replace hf := bnd_e hf x4 ex4
        refine lv_istore_n (lv' := [(2, .int x4), (0, .ref m0), (1, .int l1), (3, .int v.2)]) hx hb dX8_roadsAt_28 rfl hl (by decide) rfl (fun ls hl => ?_)
        obtain ⟨x5, ex5⟩ : ∃ y : Int32, y = (v.2 + (1 : Int32)) := ⟨_, rfl⟩
        replace hf := bnd_e hf x5 ex5
        refine lv_iinc (v := x5) (lv' := [(3, .int x5), (2, .int x4), (0, .ref m0), (1, .int l1)]) hx hb dX8_roadsAt_29 hl (k := 3) rfl (by rw [ex5]; rfl) (by decide) rfl (fun ls hl => ?_)
        refine lv_goto (tgt := 4) hx hb dX8_roadsAt_32 (by decide) ?_
        replace hf := Option.some.inj hf
        subst hf
        exact hM _ _ _ hI (lv_sub hl [2, 3, 1, 0] rfl)
  obtain ⟨x, hf, hM⟩ : ∃ x, FX8_roadsAt M_roads M_first M_second a1 = some x ∧ x = out := ⟨out, hf, rfl⟩
  refine lv_iconst (v := 0) hx hb dX8_roadsAt_0 (by decide) ?_
  refine lv_istore_n (lv' := [(2, .int (0 : Int32)), (0, .ref m0), (1, .int a1)]) hx hb dX8_roadsAt_1 rfl hl (by decide) rfl (fun ls hl => ?_)
  refine lv_iconst (v := 0) hx hb dX8_roadsAt_2 (by decide) ?_
  refine lv_istore_n (lv' := [(3, .int (0 : Int32)), (2, .int (0 : Int32)), (0, .ref m0), (1, .int a1)]) hx hb dX8_roadsAt_3 rfl hl (by decide) rfl (fun ls hl => ?_)
  exact L4 a1 ((0 : Int32), (0 : Int32)) _ hf hM _ _ _ hI (lv_sub hl [2, 3, 1, 0] rfl)
noncomputable def FX8_roads (M_posts : Int32) (M_roads : Int32) (M_first : Nat → Int32) (M_second : Nat → Int32) (a1 : Int32) : Option (Int32) :=
  (FX8_in a1 (0 : Int32) (M_posts - (1 : Int32))).bind (fun x1 => if x1 = (0 : Int32) then (some (-2 : Int32)) else ((FX8_roadsAt M_roads M_first M_second a1).bind (fun o2 => some o2)))
abbrev GX8_roads (p : Program) (l : Launch) (e : Env) (s : State) (m : MethodId) (below : List Frame) (meth : Method) (c : Code) (D : va_G) (cI cJ cZ : ClassId) (m0 m1 m2 m3 m4 m5 m6 m7 m8 m9 m10 m11 m12 m13 : Nat) (M_posts : Int32) (M_roads : Int32) (M_size : Int32) (M_rows : Int32) (M_nextRows : Int32) (M_first : Nat → Int32) (M_second : Nat → Int32) (M_number : Nat → Int32) (M_lists : Nat → Int32) (M_square : Nat → Int32) (M_fan : Nat → Int32) (M_trial : Nat → Int32) (M_touching : Nat → Int32) (M_having : Nat → Int32) (M_most : Nat → Int32) (M_only : Nat → Int32) (M_can : Nat → Int32) (M_next : Nat → Int32) (a1 : Int32) (out : Int32) (H : Heap) (locs : List Loc) (g : JFrame) : Prop := W p l e (headSpec (Cond.code yX8_roads cX8_roads 2 (some .int) :: GW) { frames := 2, cells := 0, slots := 0, locals := 45 }).room s m ([.ref m0, .int a1] : List Value).toArray below meth c H locs 0 0 (MQ below (va_Qi (fun r (_ : Unit) => r = out) (BW D (wM cI cJ cZ m0 m1 m2 m3 m4 m5 m6 m7 m8 m9 m10 m11 m12 m13 M_posts M_roads M_size M_rows M_nextRows M_first M_second M_number M_lists M_square M_fan M_trial M_touching M_having M_most M_only M_can M_next) s.heap.size (fun _ => (wM cI cJ cZ m0 m1 m2 m3 m4 m5 m6 m7 m8 m9 m10 m11 m12 m13 M_posts M_roads M_size M_rows M_nextRows M_first M_second M_number M_lists M_square M_fan M_trial M_touching M_having M_most M_only M_can M_next))) (va_A (wM cI cJ cZ m0 m1 m2 m3 m4 m5 m6 m7 m8 m9 m10 m11 m12 m13 M_posts M_roads M_size M_rows M_nextRows M_first M_second M_number M_lists M_square M_fan M_trial M_touching M_having M_most M_only M_can M_next) s.heap.size)) ([.ref m0, .int a1] : List Value).toArray s 0 0 (va_A (wM cI cJ cZ m0 m1 m2 m3 m4 m5 m6 m7 m8 m9 m10 m11 m12 m13 M_posts M_roads M_size M_rows M_nextRows M_first M_second M_number M_lists M_square M_fan M_trial M_touching M_having M_most M_only M_can M_next) s.heap.size)) g
theorem kvX8_roads : CalV RX8 yX8_roads cX8_roads 2 (some .int) 1 := ⟨wC_yX8_roads, wM_yX8_roads, wS_yX8_roads, wI_RX8, by decide +kernel⟩
set_option maxHeartbeats 4000000 in
set_option maxRecDepth 100000 in
theorem kX8_roads (l : Launch) (D : va_G) (cI cJ cZ : ClassId) (m0 m1 m2 m3 m4 m5 m6 m7 m8 m9 m10 m11 m12 m13 : Nat) (M_posts : Int32) (M_roads : Int32) (M_size : Int32) (M_rows : Int32) (M_nextRows : Int32) (M_first : Nat → Int32) (M_second : Nat → Int32) (M_number : Nat → Int32) (M_lists : Nat → Int32) (M_square : Nat → Int32) (M_fan : Nat → Int32) (M_trial : Nat → Int32) (M_touching : Nat → Int32) (M_having : Nat → Int32) (M_most : Nat → Int32) (M_only : Nat → Int32) (M_can : Nat → Int32) (M_next : Nat → Int32) (a1 : Int32) (out : Int32) (hf : FX8_roads M_posts M_roads M_first M_second a1 = some out) : MI l yX8_roads (Cond.code yX8_roads cX8_roads 2 (some .int) :: GW) { frames := 2, cells := 0, slots := 0, locals := 45 } D cI cJ cZ [.ref m0, .int a1] (wM cI cJ cZ m0 m1 m2 m3 m4 m5 m6 m7 m8 m9 m10 m11 m12 m13 M_posts M_roads M_size M_rows M_nextRows M_first M_second M_number M_lists M_square M_fan M_trial M_touching M_having M_most M_only M_can M_next) (fun r (_ : Unit) => r = out) (fun _ => (wM cI cJ cZ m0 m1 m2 m3 m4 m5 m6 m7 m8 m9 m10 m11 m12 m13 M_posts M_roads M_size M_rows M_nextRows M_first M_second M_number M_lists M_square M_fan M_trial M_touching M_having M_most M_only M_can M_next)) := by
  intro sz
  refine Met.ofW (cc := cX8_roads) (maxL := 2) (ret := (some .int)) (by decide +kernel) rfl ?_
  intro p e s m args below meth c s₁ B hml hv
  obtain ⟨rfl, hsz, hP, hK, hD0⟩ := hv
  have hx := B.exec
  have hb := B.bytes
  have hr := B.returns
  have hlocks := B.notSynchronized
  have hg : ∀ w ∈ GW, w.before _ s = true := fun w h => atoms_spec (ws := Cond.code yX8_roads cX8_roads 2 (some .int) :: GW) B.pre w (List.mem_cons_of_mem _ h)
  have hown : s.vm.findClass RX8 = some m.cls := findClass_of_methodNamed B.named
  subst hsz
  obtain ⟨A, hAe⟩ : ∃ A, A = va_A (wM cI cJ cZ m0 m1 m2 m3 m4 m5 m6 m7 m8 m9 m10 m11 m12 m13 M_posts M_roads M_size M_rows M_nextRows M_first M_second M_number M_lists M_square M_fan M_trial M_touching M_having M_most M_only M_can M_next) s.heap.size := ⟨_, rfl⟩
  have hA : ∀ q : Nat, s.heap.size ≤ q → A q := fun q h => by rw [hAe]; exact Or.inr h
  have hI : WI D A s.heap (wM cI cJ cZ m0 m1 m2 m3 m4 m5 m6 m7 m8 m9 m10 m11 m12 m13 M_posts M_roads M_size M_rows M_nextRows M_first M_second M_number M_lists M_square M_fan M_trial M_touching M_having M_most M_only M_can M_next) s.heap [] := ⟨hP, by rw [hAe]; exact hD0.self, va_S.rf⟩
  have hl := lv_entry [.ref m0, .int a1] (n := 2) (Nat.le_of_ble_eq_true rfl)
  rw [lg_entry_eq]
  generalize (lg_sl [.ref m0, .int a1] ++ List.replicate (2 - (lg_sl [.ref m0, .int a1]).length) Slot.unset).toArray = ls at hl ⊢
  replace hl : lv_has ls 2 [(0, .ref m0), (1, .int a1)] := hl
  obtain ⟨x, hf, hM⟩ : ∃ x, FX8_roads M_posts M_roads M_first M_second a1 = some x ∧ x = out := ⟨out, hf, rfl⟩
  refine lv_iload_n hx hb dX8_roads_0 rfl (lv_at hl 1 rfl) ?_
  refine lv_iconst (v := 0) hx hb dX8_roads_1 (by decide) ?_
  refine lv_aload_n hx hb dX8_roads_2 rfl (lv_at hl 0 rfl) ?_
  refine w_get hx hb hg hown hK hI iX8 0 rfl rfl 0 (by decide) wF_RX8_68 rfl dX8_roads_3 ?_
  refine lv_iconst (v := 1) hx hb dX8_roads_6 (by decide) ?_
  refine lv_isub hx hb dX8_roads_7 ?_
  obtain ⟨x1, hx1, hf⟩ := bd_e hf
  refine w_S (rest := []) hx hb hml hg hown hK (kX8_in l D cI cJ cZ a1 (0 : Int32) (M_posts - (1 : Int32)) x1 hx1) ksX8_in wL_RX8_60 ⟨Nat.le_of_ble_eq_true rfl, Nat.le_of_ble_eq_true rfl⟩ ⟨rfl, rfl⟩ rfl rfl hl.1 (Nat.le_of_ble_eq_true rfl) dX8_roads_8 ⟨Nat.zero_le _, Nat.zero_le _⟩ ?_
  refine lv_if_eq (tgt := 22) hx hb dX8_roads_11 (by decide) (fun hc => ?_) (fun hc => ?_)
  · replace hf := ite_t hc hf
    refine lv_bipush (v := -2) hx hb dX8_roads_22 (by decide) ?_
    replace hf := Option.some.inj hf
    subst hf
    replace hM : (-2 : Int32) = out := hM
    subst hM
    exact rt_i (u := ()) hx hb hr hlocks rfl hI hAe rfl dX8_roads_24
  · replace hf := ite_f hc hf
    refine lv_aload_n hx hb dX8_roads_14 rfl (lv_at hl 0 rfl) ?_
    refine lv_iload_n hx hb dX8_roads_15 rfl (lv_at hl 1 rfl) ?_
    obtain ⟨o2, ho2, hf⟩ := bd_e hf
    refine w_Vi0 (wc := (wM cI cJ cZ m0 m1 m2 m3 m4 m5 m6 m7 m8 m9 m10 m11 m12 m13 M_posts M_roads M_size M_rows M_nextRows M_first M_second M_number M_lists M_square M_fan M_trial M_touching M_having M_most M_only M_can M_next)) (wr := []) (rest := []) hx hb hml hg hown hK hA hI (kX8_roadsAt l D cI cJ cZ m0 m1 m2 m3 m4 m5 m6 m7 m8 m9 m10 m11 m12 m13 M_posts M_roads M_size M_rows M_nextRows M_first M_second M_number M_lists M_square M_fan M_trial M_touching M_having M_most M_only M_can M_next a1 o2 ho2) kvX8_roadsAt wL_RX8_80 ⟨Nat.le_of_ble_eq_true rfl, Nat.le_of_ble_eq_true rfl⟩ rfl rfl [0, 1, 2, 3, 4, 5, 6, 7, 8, 9, 10, 11, 12, 13] [] rfl rfl rfl rfl (by decide) rfl rfl hl.1 (Nat.le_of_ble_eq_true rfl) dX8_roads_16 ⟨Nat.zero_le _, Nat.zero_le _⟩ ⟨rfl, rfl⟩ (fun r u H locs hp hI => ?_)
    replace hp : r = o2 := hp
    rw [hp]
    clear hp
    replace hI : WI D A s.heap (wM cI cJ cZ m0 m1 m2 m3 m4 m5 m6 m7 m8 m9 m10 m11 m12 m13 M_posts M_roads M_size M_rows M_nextRows M_first M_second M_number M_lists M_square M_fan M_trial M_touching M_having M_most M_only M_can M_next) H locs := hI
    refine lv_goto (tgt := 24) hx hb dX8_roads_19 (by decide) ?_
    replace hf := Option.some.inj hf
    subst hf
    replace hM : o2 = out := hM
    subst hM
    exact rt_i (u := ()) hx hb hr hlocks rfl hI hAe rfl dX8_roads_24
noncomputable def X8_with_L2 (M_roads : Int32) (M_first : Nat → Int32) (M_second : Nat → Int32) (M_number : Nat → Int32) (l1 : Int32) (l2 : Int32) (v : Int32) : Option ((Int32) ⊕ (Int32)) :=
  if M_roads ≤ v then (some (.inr (-1 : Int32))) else ((FX8_ends M_first M_second v l1).bind (fun o1 => if o1 = (0 : Int32) then (bnd (v + (1 : Int32)) (fun x2 => some (.inl x2))) else (rd M_number 24 v (fun x3 => if x3 = l2 then (some (.inr v)) else (bnd (v + (1 : Int32)) (fun x4 => some (.inl x4)))))))
noncomputable def FX8_with (M_roads : Int32) (M_first : Nat → Int32) (M_second : Nat → Int32) (M_number : Nat → Int32) (a1 : Int32) (a2 : Int32) : Option (Int32) :=
  loopO (X8_with_L2 M_roads M_first M_second M_number a1 a2) (0 : Int32)
abbrev GX8_with (p : Program) (l : Launch) (e : Env) (s : State) (m : MethodId) (below : List Frame) (meth : Method) (c : Code) (D : va_G) (cI cJ cZ : ClassId) (m0 m1 m2 m3 m4 m5 m6 m7 m8 m9 m10 m11 m12 m13 : Nat) (M_posts : Int32) (M_roads : Int32) (M_size : Int32) (M_rows : Int32) (M_nextRows : Int32) (M_first : Nat → Int32) (M_second : Nat → Int32) (M_number : Nat → Int32) (M_lists : Nat → Int32) (M_square : Nat → Int32) (M_fan : Nat → Int32) (M_trial : Nat → Int32) (M_touching : Nat → Int32) (M_having : Nat → Int32) (M_most : Nat → Int32) (M_only : Nat → Int32) (M_can : Nat → Int32) (M_next : Nat → Int32) (a1 : Int32) (a2 : Int32) (out : Int32) (H : Heap) (locs : List Loc) (g : JFrame) : Prop := W p l e (headSpec (Cond.code yX8_with cX8_with 4 (some .int) :: GW) { frames := 1, cells := 0, slots := 0, locals := 22 }).room s m ([.ref m0, .int a1, .int a2] : List Value).toArray below meth c H locs 0 0 (MQ below (va_Qi (fun r (_ : Unit) => r = out) (BW D (wM cI cJ cZ m0 m1 m2 m3 m4 m5 m6 m7 m8 m9 m10 m11 m12 m13 M_posts M_roads M_size M_rows M_nextRows M_first M_second M_number M_lists M_square M_fan M_trial M_touching M_having M_most M_only M_can M_next) s.heap.size (fun _ => (wM cI cJ cZ m0 m1 m2 m3 m4 m5 m6 m7 m8 m9 m10 m11 m12 m13 M_posts M_roads M_size M_rows M_nextRows M_first M_second M_number M_lists M_square M_fan M_trial M_touching M_having M_most M_only M_can M_next))) (va_A (wM cI cJ cZ m0 m1 m2 m3 m4 m5 m6 m7 m8 m9 m10 m11 m12 m13 M_posts M_roads M_size M_rows M_nextRows M_first M_second M_number M_lists M_square M_fan M_trial M_touching M_having M_most M_only M_can M_next) s.heap.size)) ([.ref m0, .int a1, .int a2] : List Value).toArray s 0 0 (va_A (wM cI cJ cZ m0 m1 m2 m3 m4 m5 m6 m7 m8 m9 m10 m11 m12 m13 M_posts M_roads M_size M_rows M_nextRows M_first M_second M_number M_lists M_square M_fan M_trial M_touching M_having M_most M_only M_can M_next) s.heap.size)) g
theorem kvX8_with : CalV RX8 yX8_with cX8_with 4 (some .int) 2 := ⟨wC_yX8_with, wM_yX8_with, wS_yX8_with, wI_RX8, by decide +kernel⟩
set_option maxHeartbeats 4000000 in
set_option maxRecDepth 100000 in
theorem kX8_with (l : Launch) (D : va_G) (cI cJ cZ : ClassId) (m0 m1 m2 m3 m4 m5 m6 m7 m8 m9 m10 m11 m12 m13 : Nat) (M_posts : Int32) (M_roads : Int32) (M_size : Int32) (M_rows : Int32) (M_nextRows : Int32) (M_first : Nat → Int32) (M_second : Nat → Int32) (M_number : Nat → Int32) (M_lists : Nat → Int32) (M_square : Nat → Int32) (M_fan : Nat → Int32) (M_trial : Nat → Int32) (M_touching : Nat → Int32) (M_having : Nat → Int32) (M_most : Nat → Int32) (M_only : Nat → Int32) (M_can : Nat → Int32) (M_next : Nat → Int32) (a1 : Int32) (a2 : Int32) (out : Int32) (hf : FX8_with M_roads M_first M_second M_number a1 a2 = some out) : MI l yX8_with (Cond.code yX8_with cX8_with 4 (some .int) :: GW) { frames := 1, cells := 0, slots := 0, locals := 22 } D cI cJ cZ [.ref m0, .int a1, .int a2] (wM cI cJ cZ m0 m1 m2 m3 m4 m5 m6 m7 m8 m9 m10 m11 m12 m13 M_posts M_roads M_size M_rows M_nextRows M_first M_second M_number M_lists M_square M_fan M_trial M_touching M_having M_most M_only M_can M_next) (fun r (_ : Unit) => r = out) (fun _ => (wM cI cJ cZ m0 m1 m2 m3 m4 m5 m6 m7 m8 m9 m10 m11 m12 m13 M_posts M_roads M_size M_rows M_nextRows M_first M_second M_number M_lists M_square M_fan M_trial M_touching M_having M_most M_only M_can M_next)) := by
  intro sz
  refine Met.ofW (cc := cX8_with) (maxL := 4) (ret := (some .int)) (by decide +kernel) rfl ?_
  intro p e s m args below meth c s₁ B hml hv
  obtain ⟨rfl, hsz, hP, hK, hD0⟩ := hv
  have hx := B.exec
  have hb := B.bytes
  have hr := B.returns
  have hlocks := B.notSynchronized
  have hg : ∀ w ∈ GW, w.before _ s = true := fun w h => atoms_spec (ws := Cond.code yX8_with cX8_with 4 (some .int) :: GW) B.pre w (List.mem_cons_of_mem _ h)
  have hown : s.vm.findClass RX8 = some m.cls := findClass_of_methodNamed B.named
  subst hsz
  obtain ⟨A, hAe⟩ : ∃ A, A = va_A (wM cI cJ cZ m0 m1 m2 m3 m4 m5 m6 m7 m8 m9 m10 m11 m12 m13 M_posts M_roads M_size M_rows M_nextRows M_first M_second M_number M_lists M_square M_fan M_trial M_touching M_having M_most M_only M_can M_next) s.heap.size := ⟨_, rfl⟩
  have hA : ∀ q : Nat, s.heap.size ≤ q → A q := fun q h => by rw [hAe]; exact Or.inr h
  have hI : WI D A s.heap (wM cI cJ cZ m0 m1 m2 m3 m4 m5 m6 m7 m8 m9 m10 m11 m12 m13 M_posts M_roads M_size M_rows M_nextRows M_first M_second M_number M_lists M_square M_fan M_trial M_touching M_having M_most M_only M_can M_next) s.heap [] := ⟨hP, by rw [hAe]; exact hD0.self, va_S.rf⟩
  have hl := lv_entry [.ref m0, .int a1, .int a2] (n := 4) (Nat.le_of_ble_eq_true rfl)
  rw [lg_entry_eq]
  generalize (lg_sl [.ref m0, .int a1, .int a2] ++ List.replicate (4 - (lg_sl [.ref m0, .int a1, .int a2]).length) Slot.unset).toArray = ls at hl ⊢
  replace hl : lv_has ls 4 [(0, .ref m0), (1, .int a1), (2, .int a2)] := hl
  have L2 : ∀ (l1 : Int32) (l2 : Int32), ∀ (v : Int32) (x : Int32), loopO (X8_with_L2 M_roads M_first M_second M_number l1 l2) v = some x → (fun z : Int32 => z = out) x → (fun (v : Int32) => ∀ (H : Heap) (locs : List Loc) (ls : Array Slot), WI D A s.heap (wM cI cJ cZ m0 m1 m2 m3 m4 m5 m6 m7 m8 m9 m10 m11 m12 m13 M_posts M_roads M_size M_rows M_nextRows M_first M_second M_number M_lists M_square M_fan M_trial M_touching M_having M_most M_only M_can M_next) H locs → lv_has ls 4 [(0, .ref m0), (1, .int l1), (2, .int l2), (3, .int v)] → GX8_with p l e s m below meth c D cI cJ cZ m0 m1 m2 m3 m4 m5 m6 m7 m8 m9 m10 m11 m12 m13 M_posts M_roads M_size M_rows M_nextRows M_first M_second M_number M_lists M_square M_fan M_trial M_touching M_having M_most M_only M_can M_next a1 a2 out H locs (F0 m 2 ls [])) v := by
    intro l1 l2
    refine loopO_ind (fun (v : Int32) => ∀ (H : Heap) (locs : List Loc) (ls : Array Slot), WI D A s.heap (wM cI cJ cZ m0 m1 m2 m3 m4 m5 m6 m7 m8 m9 m10 m11 m12 m13 M_posts M_roads M_size M_rows M_nextRows M_first M_second M_number M_lists M_square M_fan M_trial M_touching M_having M_most M_only M_can M_next) H locs → lv_has ls 4 [(0, .ref m0), (1, .int l1), (2, .int l2), (3, .int v)] → GX8_with p l e s m below meth c D cI cJ cZ m0 m1 m2 m3 m4 m5 m6 m7 m8 m9 m10 m11 m12 m13 M_posts M_roads M_size M_rows M_nextRows M_first M_second M_number M_lists M_square M_fan M_trial M_touching M_having M_most M_only M_can M_next a1 a2 out H locs (F0 m 2 ls [])) (fun z : Int32 => z = out) ?_
    intro v x hf hM H locs ls hI hl
    refine lv_iload_n hx hb dX8_with_2 rfl (lv_at hl 3 rfl) ?_
    refine lv_aload_n hx hb dX8_with_3 rfl (lv_at hl 0 rfl) ?_
    refine w_get hx hb hg hown hK hI iX8 0 rfl rfl 1 (by decide) wF_RX8_57 rfl dX8_with_4 ?_
    refine lv_icmp_ge (tgt := 37) hx hb dX8_with_7 (by decide) (fun hc => ?_) (fun hc => ?_)
    · replace hf := ite_t hc hf
      refine lv_iconst (v := -1) hx hb dX8_with_37 (by decide) ?_
      replace hf := Option.some.inj hf
      subst hf
      replace hM : (-1 : Int32) = out := hM
      subst hM
      exact rt_i (u := ()) hx hb hr hlocks rfl hI hAe rfl dX8_with_38
    · replace hf := ite_f hc hf
      refine lv_aload_n hx hb dX8_with_10 rfl (lv_at hl 0 rfl) ?_
      refine lv_iload_n hx hb dX8_with_11 rfl (lv_at hl 3 rfl) ?_
      refine lv_iload_n hx hb dX8_with_12 rfl (lv_at hl 1 rfl) ?_
      obtain ⟨o1, ho1, hf⟩ := bd_e hf
      refine w_Vi0 (wc := (wM cI cJ cZ m0 m1 m2 m3 m4 m5 m6 m7 m8 m9 m10 m11 m12 m13 M_posts M_roads M_size M_rows M_nextRows M_first M_second M_number M_lists M_square M_fan M_trial M_touching M_having M_most M_only M_can M_next)) (wr := []) (rest := []) hx hb hml hg hown hK hA hI (kX8_ends l D cI cJ cZ m0 m1 m2 m3 m4 m5 m6 m7 m8 m9 m10 m11 m12 m13 M_posts M_roads M_size M_rows M_nextRows M_first M_second M_number M_lists M_square M_fan M_trial M_touching M_having M_most M_only M_can M_next v l1 o1 ho1) kvX8_ends wL_RX8_64 ⟨Nat.le_of_ble_eq_true rfl, Nat.le_of_ble_eq_true rfl⟩ rfl rfl [0, 1, 2, 3, 4, 5, 6, 7, 8, 9, 10, 11, 12, 13] [] rfl rfl rfl rfl (by decide) rfl rfl hl.1 (Nat.le_of_ble_eq_true rfl) dX8_with_13 ⟨Nat.zero_le _, Nat.zero_le _⟩ ⟨rfl, rfl⟩ (fun r u H locs hp hI => ?_)
      replace hp : r = o1 := hp
      rw [hp]
      clear hp
      replace hI : WI D A s.heap (wM cI cJ cZ m0 m1 m2 m3 m4 m5 m6 m7 m8 m9 m10 m11 m12 m13 M_posts M_roads M_size M_rows M_nextRows M_first M_second M_number M_lists M_square M_fan M_trial M_touching M_having M_most M_only M_can M_next) H locs := hI
      refine lv_if_eq (tgt := 31) hx hb dX8_with_16 (by decide) (fun hc => ?_) (fun hc => ?_)
      · replace hf := ite_t hc hf
        obtain ⟨x2, ex2⟩ : ∃ y : Int32, y = (v + (1 : Int32)) := ⟨_, rfl⟩
        replace hf := bnd_e hf x2 ex2
        refine lv_iinc (v := x2) (lv' := [(3, .int x2), (0, .ref m0), (1, .int l1), (2, .int l2)]) hx hb dX8_with_31 hl (k := 3) rfl (by rw [ex2]; rfl) (by decide) rfl (fun ls hl => ?_)
        refine lv_goto (tgt := 2) hx hb dX8_with_34 (by decide) ?_
        replace hf := Option.some.inj hf
        subst hf
        exact hM _ _ _ hI (lv_sub hl [1, 2, 3, 0] rfl)
      · replace hf := ite_f hc hf
        refine lv_aload_n hx hb dX8_with_19 rfl (lv_at hl 0 rfl) ?_
        refine w_get hx hb hg hown hK hI iX8 0 rfl rfl 4 (by decide) wF_RX8_16 rfl dX8_with_20 ?_
        refine lv_iload_n hx hb dX8_with_23 rfl (lv_at hl 3 rfl) ?_
        obtain ⟨hin, hf⟩ := rd_e hf
        refine w_iald hx hb hK hI 3 rfl hin dX8_with_24 (fun x3 ex3 => ?_)
        replace hf := hf x3 ex3
        refine lv_iload_n hx hb dX8_with_25 rfl (lv_at hl 2 rfl) ?_
        refine lv_icmp_ne (tgt := 31) hx hb dX8_with_26 (by decide) (fun hc => ?_) (fun hc => ?_)
        · replace hf := ite_f hc hf
          obtain ⟨x4, ex4⟩ : ∃ y : Int32, y = (v + (1 : Int32)) := ⟨_, rfl⟩
          replace hf := bnd_e hf x4 ex4
          refine lv_iinc (v := x4) (lv' := [(3, .int x4), (0, .ref m0), (1, .int l1), (2, .int l2)]) hx hb dX8_with_31 hl (k := 3) rfl (by rw [ex4]; rfl) (by decide) rfl (fun ls hl => ?_)
          refine lv_goto (tgt := 2) hx hb dX8_with_34 (by decide) ?_
          replace hf := Option.some.inj hf
          subst hf
          exact hM _ _ _ hI (lv_sub hl [1, 2, 3, 0] rfl)
        · replace hf := ite_t hc hf
          refine lv_iload_n hx hb dX8_with_29 rfl (lv_at hl 3 rfl) ?_
          replace hf := Option.some.inj hf
          subst hf
          replace hM : v = out := hM
          subst hM
          exact rt_i (u := ()) hx hb hr hlocks rfl hI hAe rfl dX8_with_30
  obtain ⟨x, hf, hM⟩ : ∃ x, FX8_with M_roads M_first M_second M_number a1 a2 = some x ∧ x = out := ⟨out, hf, rfl⟩
  refine lv_iconst (v := 0) hx hb dX8_with_0 (by decide) ?_
  refine lv_istore_n (lv' := [(3, .int (0 : Int32)), (0, .ref m0), (1, .int a1), (2, .int a2)]) hx hb dX8_with_1 rfl hl (by decide) rfl (fun ls hl => ?_)
  exact L2 a1 a2 (0 : Int32) _ hf hM _ _ _ hI (lv_sub hl [1, 2, 3, 0] rfl)
noncomputable def X8_leastFree_L2 (M_roads : Int32) (M_first : Nat → Int32) (M_second : Nat → Int32) (M_number : Nat → Int32) (l1 : Int32) (v : Int32) : Option ((Int32) ⊕ (Int32)) :=
  if (16 : Int32) ≤ v then (some (.inr v)) else ((FX8_with M_roads M_first M_second M_number l1 v).bind (fun o1 => if o1 < (0 : Int32) then (some (.inr v)) else (bnd (v + (1 : Int32)) (fun x2 => some (.inl x2)))))
noncomputable def FX8_leastFree (M_roads : Int32) (M_first : Nat → Int32) (M_second : Nat → Int32) (M_number : Nat → Int32) (a1 : Int32) : Option (Int32) :=
  loopO (X8_leastFree_L2 M_roads M_first M_second M_number a1) (0 : Int32)
abbrev GX8_leastFree (p : Program) (l : Launch) (e : Env) (s : State) (m : MethodId) (below : List Frame) (meth : Method) (c : Code) (D : va_G) (cI cJ cZ : ClassId) (m0 m1 m2 m3 m4 m5 m6 m7 m8 m9 m10 m11 m12 m13 : Nat) (M_posts : Int32) (M_roads : Int32) (M_size : Int32) (M_rows : Int32) (M_nextRows : Int32) (M_first : Nat → Int32) (M_second : Nat → Int32) (M_number : Nat → Int32) (M_lists : Nat → Int32) (M_square : Nat → Int32) (M_fan : Nat → Int32) (M_trial : Nat → Int32) (M_touching : Nat → Int32) (M_having : Nat → Int32) (M_most : Nat → Int32) (M_only : Nat → Int32) (M_can : Nat → Int32) (M_next : Nat → Int32) (a1 : Int32) (out : Int32) (H : Heap) (locs : List Loc) (g : JFrame) : Prop := W p l e (headSpec (Cond.code yX8_leastFree cX8_leastFree 3 (some .int) :: GW) { frames := 2, cells := 0, slots := 0, locals := 45 }).room s m ([.ref m0, .int a1] : List Value).toArray below meth c H locs 0 0 (MQ below (va_Qi (fun r (_ : Unit) => r = out) (BW D (wM cI cJ cZ m0 m1 m2 m3 m4 m5 m6 m7 m8 m9 m10 m11 m12 m13 M_posts M_roads M_size M_rows M_nextRows M_first M_second M_number M_lists M_square M_fan M_trial M_touching M_having M_most M_only M_can M_next) s.heap.size (fun _ => (wM cI cJ cZ m0 m1 m2 m3 m4 m5 m6 m7 m8 m9 m10 m11 m12 m13 M_posts M_roads M_size M_rows M_nextRows M_first M_second M_number M_lists M_square M_fan M_trial M_touching M_having M_most M_only M_can M_next))) (va_A (wM cI cJ cZ m0 m1 m2 m3 m4 m5 m6 m7 m8 m9 m10 m11 m12 m13 M_posts M_roads M_size M_rows M_nextRows M_first M_second M_number M_lists M_square M_fan M_trial M_touching M_having M_most M_only M_can M_next) s.heap.size)) ([.ref m0, .int a1] : List Value).toArray s 0 0 (va_A (wM cI cJ cZ m0 m1 m2 m3 m4 m5 m6 m7 m8 m9 m10 m11 m12 m13 M_posts M_roads M_size M_rows M_nextRows M_first M_second M_number M_lists M_square M_fan M_trial M_touching M_having M_most M_only M_can M_next) s.heap.size)) g
theorem kvX8_leastFree : CalV RX8 yX8_leastFree cX8_leastFree 3 (some .int) 1 := ⟨wC_yX8_leastFree, wM_yX8_leastFree, wS_yX8_leastFree, wI_RX8, by decide +kernel⟩
set_option maxHeartbeats 4000000 in
set_option maxRecDepth 100000 in
theorem kX8_leastFree (l : Launch) (D : va_G) (cI cJ cZ : ClassId) (m0 m1 m2 m3 m4 m5 m6 m7 m8 m9 m10 m11 m12 m13 : Nat) (M_posts : Int32) (M_roads : Int32) (M_size : Int32) (M_rows : Int32) (M_nextRows : Int32) (M_first : Nat → Int32) (M_second : Nat → Int32) (M_number : Nat → Int32) (M_lists : Nat → Int32) (M_square : Nat → Int32) (M_fan : Nat → Int32) (M_trial : Nat → Int32) (M_touching : Nat → Int32) (M_having : Nat → Int32) (M_most : Nat → Int32) (M_only : Nat → Int32) (M_can : Nat → Int32) (M_next : Nat → Int32) (a1 : Int32) (out : Int32) (hf : FX8_leastFree M_roads M_first M_second M_number a1 = some out) : MI l yX8_leastFree (Cond.code yX8_leastFree cX8_leastFree 3 (some .int) :: GW) { frames := 2, cells := 0, slots := 0, locals := 45 } D cI cJ cZ [.ref m0, .int a1] (wM cI cJ cZ m0 m1 m2 m3 m4 m5 m6 m7 m8 m9 m10 m11 m12 m13 M_posts M_roads M_size M_rows M_nextRows M_first M_second M_number M_lists M_square M_fan M_trial M_touching M_having M_most M_only M_can M_next) (fun r (_ : Unit) => r = out) (fun _ => (wM cI cJ cZ m0 m1 m2 m3 m4 m5 m6 m7 m8 m9 m10 m11 m12 m13 M_posts M_roads M_size M_rows M_nextRows M_first M_second M_number M_lists M_square M_fan M_trial M_touching M_having M_most M_only M_can M_next)) := by
  intro sz
  refine Met.ofW (cc := cX8_leastFree) (maxL := 3) (ret := (some .int)) (by decide +kernel) rfl ?_
  intro p e s m args below meth c s₁ B hml hv
  obtain ⟨rfl, hsz, hP, hK, hD0⟩ := hv
  have hx := B.exec
  have hb := B.bytes
  have hr := B.returns
  have hlocks := B.notSynchronized
  have hg : ∀ w ∈ GW, w.before _ s = true := fun w h => atoms_spec (ws := Cond.code yX8_leastFree cX8_leastFree 3 (some .int) :: GW) B.pre w (List.mem_cons_of_mem _ h)
  have hown : s.vm.findClass RX8 = some m.cls := findClass_of_methodNamed B.named
  subst hsz
  obtain ⟨A, hAe⟩ : ∃ A, A = va_A (wM cI cJ cZ m0 m1 m2 m3 m4 m5 m6 m7 m8 m9 m10 m11 m12 m13 M_posts M_roads M_size M_rows M_nextRows M_first M_second M_number M_lists M_square M_fan M_trial M_touching M_having M_most M_only M_can M_next) s.heap.size := ⟨_, rfl⟩
  have hA : ∀ q : Nat, s.heap.size ≤ q → A q := fun q h => by rw [hAe]; exact Or.inr h
  have hI : WI D A s.heap (wM cI cJ cZ m0 m1 m2 m3 m4 m5 m6 m7 m8 m9 m10 m11 m12 m13 M_posts M_roads M_size M_rows M_nextRows M_first M_second M_number M_lists M_square M_fan M_trial M_touching M_having M_most M_only M_can M_next) s.heap [] := ⟨hP, by rw [hAe]; exact hD0.self, va_S.rf⟩
  have hl := lv_entry [.ref m0, .int a1] (n := 3) (Nat.le_of_ble_eq_true rfl)
  rw [lg_entry_eq]
  generalize (lg_sl [.ref m0, .int a1] ++ List.replicate (3 - (lg_sl [.ref m0, .int a1]).length) Slot.unset).toArray = ls at hl ⊢
  replace hl : lv_has ls 3 [(0, .ref m0), (1, .int a1)] := hl
  have L2 : ∀ (l1 : Int32), ∀ (v : Int32) (x : Int32), loopO (X8_leastFree_L2 M_roads M_first M_second M_number l1) v = some x → (fun z : Int32 => z = out) x → (fun (v : Int32) => ∀ (H : Heap) (locs : List Loc) (ls : Array Slot), WI D A s.heap (wM cI cJ cZ m0 m1 m2 m3 m4 m5 m6 m7 m8 m9 m10 m11 m12 m13 M_posts M_roads M_size M_rows M_nextRows M_first M_second M_number M_lists M_square M_fan M_trial M_touching M_having M_most M_only M_can M_next) H locs → lv_has ls 3 [(0, .ref m0), (1, .int l1), (2, .int v)] → GX8_leastFree p l e s m below meth c D cI cJ cZ m0 m1 m2 m3 m4 m5 m6 m7 m8 m9 m10 m11 m12 m13 M_posts M_roads M_size M_rows M_nextRows M_first M_second M_number M_lists M_square M_fan M_trial M_touching M_having M_most M_only M_can M_next a1 out H locs (F0 m 2 ls [])) v := by
    intro l1
    refine loopO_ind (fun (v : Int32) => ∀ (H : Heap) (locs : List Loc) (ls : Array Slot), WI D A s.heap (wM cI cJ cZ m0 m1 m2 m3 m4 m5 m6 m7 m8 m9 m10 m11 m12 m13 M_posts M_roads M_size M_rows M_nextRows M_first M_second M_number M_lists M_square M_fan M_trial M_touching M_having M_most M_only M_can M_next) H locs → lv_has ls 3 [(0, .ref m0), (1, .int l1), (2, .int v)] → GX8_leastFree p l e s m below meth c D cI cJ cZ m0 m1 m2 m3 m4 m5 m6 m7 m8 m9 m10 m11 m12 m13 M_posts M_roads M_size M_rows M_nextRows M_first M_second M_number M_lists M_square M_fan M_trial M_touching M_having M_most M_only M_can M_next a1 out H locs (F0 m 2 ls [])) (fun z : Int32 => z = out) ?_
    intro v x hf hM H locs ls hI hl
    refine lv_iload_n hx hb dX8_leastFree_2 rfl (lv_at hl 2 rfl) ?_
    refine lv_bipush (v := 16) hx hb dX8_leastFree_3 (by decide) ?_
    refine lv_icmp_ge (tgt := 23) hx hb dX8_leastFree_5 (by decide) (fun hc => ?_) (fun hc => ?_)
    · replace hf := ite_t hc hf
      refine lv_iload_n hx hb dX8_leastFree_23 rfl (lv_at hl 2 rfl) ?_
      replace hf := Option.some.inj hf
      subst hf
      replace hM : v = out := hM
      subst hM
      exact rt_i (u := ()) hx hb hr hlocks rfl hI hAe rfl dX8_leastFree_24
    · replace hf := ite_f hc hf
      refine lv_aload_n hx hb dX8_leastFree_8 rfl (lv_at hl 0 rfl) ?_
      refine lv_iload_n hx hb dX8_leastFree_9 rfl (lv_at hl 1 rfl) ?_
      refine lv_iload_n hx hb dX8_leastFree_10 rfl (lv_at hl 2 rfl) ?_
      obtain ⟨o1, ho1, hf⟩ := bd_e hf
      refine w_Vi0 (wc := (wM cI cJ cZ m0 m1 m2 m3 m4 m5 m6 m7 m8 m9 m10 m11 m12 m13 M_posts M_roads M_size M_rows M_nextRows M_first M_second M_number M_lists M_square M_fan M_trial M_touching M_having M_most M_only M_can M_next)) (wr := []) (rest := []) hx hb hml hg hown hK hA hI (kX8_with l D cI cJ cZ m0 m1 m2 m3 m4 m5 m6 m7 m8 m9 m10 m11 m12 m13 M_posts M_roads M_size M_rows M_nextRows M_first M_second M_number M_lists M_square M_fan M_trial M_touching M_having M_most M_only M_can M_next l1 v o1 ho1) kvX8_with wL_RX8_84 ⟨Nat.le_of_ble_eq_true rfl, Nat.le_of_ble_eq_true rfl⟩ rfl rfl [0, 1, 2, 3, 4, 5, 6, 7, 8, 9, 10, 11, 12, 13] [] rfl rfl rfl rfl (by decide) rfl rfl hl.1 (Nat.le_of_ble_eq_true rfl) dX8_leastFree_11 ⟨Nat.zero_le _, Nat.zero_le _⟩ ⟨rfl, rfl⟩ (fun r u H locs hp hI => ?_)
      replace hp : r = o1 := hp
      rw [hp]
      clear hp
      replace hI : WI D A s.heap (wM cI cJ cZ m0 m1 m2 m3 m4 m5 m6 m7 m8 m9 m10 m11 m12 m13 M_posts M_roads M_size M_rows M_nextRows M_first M_second M_number M_lists M_square M_fan M_trial M_touching M_having M_most M_only M_can M_next) H locs := hI
      refine lv_if_lt (tgt := 23) hx hb dX8_leastFree_14 (by decide) (fun hc => ?_) (fun hc => ?_)
      · replace hf := ite_t hc hf
        refine lv_iload_n hx hb dX8_leastFree_23 rfl (lv_at hl 2 rfl) ?_
        replace hf := Option.some.inj hf
        subst hf
        replace hM : v = out := hM
        subst hM
        exact rt_i (u := ()) hx hb hr hlocks rfl hI hAe rfl dX8_leastFree_24
      · replace hf := ite_f hc hf
        obtain ⟨x2, ex2⟩ : ∃ y : Int32, y = (v + (1 : Int32)) := ⟨_, rfl⟩
        replace hf := bnd_e hf x2 ex2
        refine lv_iinc (v := x2) (lv' := [(2, .int x2), (0, .ref m0), (1, .int l1)]) hx hb dX8_leastFree_17 hl (k := 2) rfl (by rw [ex2]; rfl) (by decide) rfl (fun ls hl => ?_)
        refine lv_goto (tgt := 2) hx hb dX8_leastFree_20 (by decide) ?_
        replace hf := Option.some.inj hf
        subst hf
        exact hM _ _ _ hI (lv_sub hl [1, 2, 0] rfl)
  obtain ⟨x, hf, hM⟩ : ∃ x, FX8_leastFree M_roads M_first M_second M_number a1 = some x ∧ x = out := ⟨out, hf, rfl⟩
  refine lv_iconst (v := 0) hx hb dX8_leastFree_0 (by decide) ?_
  refine lv_istore_n (lv' := [(2, .int (0 : Int32)), (0, .ref m0), (1, .int a1)]) hx hb dX8_leastFree_1 rfl hl (by decide) rfl (fun ls hl => ?_)
  exact L2 a1 (0 : Int32) _ hf hM _ _ _ hI (lv_sub hl [1, 2, 0] rfl)
noncomputable def FX8_free (M_posts : Int32) (M_roads : Int32) (M_first : Nat → Int32) (M_second : Nat → Int32) (M_number : Nat → Int32) (a1 : Int32) : Option (Int32) :=
  (FX8_in a1 (0 : Int32) (M_posts - (1 : Int32))).bind (fun x1 => if x1 = (0 : Int32) then (some (-2 : Int32)) else ((FX8_leastFree M_roads M_first M_second M_number a1).bind (fun o2 => some o2)))
abbrev GX8_free (p : Program) (l : Launch) (e : Env) (s : State) (m : MethodId) (below : List Frame) (meth : Method) (c : Code) (D : va_G) (cI cJ cZ : ClassId) (m0 m1 m2 m3 m4 m5 m6 m7 m8 m9 m10 m11 m12 m13 : Nat) (M_posts : Int32) (M_roads : Int32) (M_size : Int32) (M_rows : Int32) (M_nextRows : Int32) (M_first : Nat → Int32) (M_second : Nat → Int32) (M_number : Nat → Int32) (M_lists : Nat → Int32) (M_square : Nat → Int32) (M_fan : Nat → Int32) (M_trial : Nat → Int32) (M_touching : Nat → Int32) (M_having : Nat → Int32) (M_most : Nat → Int32) (M_only : Nat → Int32) (M_can : Nat → Int32) (M_next : Nat → Int32) (a1 : Int32) (out : Int32) (H : Heap) (locs : List Loc) (g : JFrame) : Prop := W p l e (headSpec (Cond.code yX8_free cX8_free 2 (some .int) :: GW) { frames := 3, cells := 0, slots := 0, locals := 67 }).room s m ([.ref m0, .int a1] : List Value).toArray below meth c H locs 0 0 (MQ below (va_Qi (fun r (_ : Unit) => r = out) (BW D (wM cI cJ cZ m0 m1 m2 m3 m4 m5 m6 m7 m8 m9 m10 m11 m12 m13 M_posts M_roads M_size M_rows M_nextRows M_first M_second M_number M_lists M_square M_fan M_trial M_touching M_having M_most M_only M_can M_next) s.heap.size (fun _ => (wM cI cJ cZ m0 m1 m2 m3 m4 m5 m6 m7 m8 m9 m10 m11 m12 m13 M_posts M_roads M_size M_rows M_nextRows M_first M_second M_number M_lists M_square M_fan M_trial M_touching M_having M_most M_only M_can M_next))) (va_A (wM cI cJ cZ m0 m1 m2 m3 m4 m5 m6 m7 m8 m9 m10 m11 m12 m13 M_posts M_roads M_size M_rows M_nextRows M_first M_second M_number M_lists M_square M_fan M_trial M_touching M_having M_most M_only M_can M_next) s.heap.size)) ([.ref m0, .int a1] : List Value).toArray s 0 0 (va_A (wM cI cJ cZ m0 m1 m2 m3 m4 m5 m6 m7 m8 m9 m10 m11 m12 m13 M_posts M_roads M_size M_rows M_nextRows M_first M_second M_number M_lists M_square M_fan M_trial M_touching M_having M_most M_only M_can M_next) s.heap.size)) g
theorem kvX8_free : CalV RX8 yX8_free cX8_free 2 (some .int) 1 := ⟨wC_yX8_free, wM_yX8_free, wS_yX8_free, wI_RX8, by decide +kernel⟩
set_option maxHeartbeats 4000000 in
set_option maxRecDepth 100000 in
theorem kX8_free (l : Launch) (D : va_G) (cI cJ cZ : ClassId) (m0 m1 m2 m3 m4 m5 m6 m7 m8 m9 m10 m11 m12 m13 : Nat) (M_posts : Int32) (M_roads : Int32) (M_size : Int32) (M_rows : Int32) (M_nextRows : Int32) (M_first : Nat → Int32) (M_second : Nat → Int32) (M_number : Nat → Int32) (M_lists : Nat → Int32) (M_square : Nat → Int32) (M_fan : Nat → Int32) (M_trial : Nat → Int32) (M_touching : Nat → Int32) (M_having : Nat → Int32) (M_most : Nat → Int32) (M_only : Nat → Int32) (M_can : Nat → Int32) (M_next : Nat → Int32) (a1 : Int32) (out : Int32) (hf : FX8_free M_posts M_roads M_first M_second M_number a1 = some out) : MI l yX8_free (Cond.code yX8_free cX8_free 2 (some .int) :: GW) { frames := 3, cells := 0, slots := 0, locals := 67 } D cI cJ cZ [.ref m0, .int a1] (wM cI cJ cZ m0 m1 m2 m3 m4 m5 m6 m7 m8 m9 m10 m11 m12 m13 M_posts M_roads M_size M_rows M_nextRows M_first M_second M_number M_lists M_square M_fan M_trial M_touching M_having M_most M_only M_can M_next) (fun r (_ : Unit) => r = out) (fun _ => (wM cI cJ cZ m0 m1 m2 m3 m4 m5 m6 m7 m8 m9 m10 m11 m12 m13 M_posts M_roads M_size M_rows M_nextRows M_first M_second M_number M_lists M_square M_fan M_trial M_touching M_having M_most M_only M_can M_next)) := by
  intro sz
  refine Met.ofW (cc := cX8_free) (maxL := 2) (ret := (some .int)) (by decide +kernel) rfl ?_
  intro p e s m args below meth c s₁ B hml hv
  obtain ⟨rfl, hsz, hP, hK, hD0⟩ := hv
  have hx := B.exec
  have hb := B.bytes
  have hr := B.returns
  have hlocks := B.notSynchronized
  have hg : ∀ w ∈ GW, w.before _ s = true := fun w h => atoms_spec (ws := Cond.code yX8_free cX8_free 2 (some .int) :: GW) B.pre w (List.mem_cons_of_mem _ h)
  have hown : s.vm.findClass RX8 = some m.cls := findClass_of_methodNamed B.named
  subst hsz
  obtain ⟨A, hAe⟩ : ∃ A, A = va_A (wM cI cJ cZ m0 m1 m2 m3 m4 m5 m6 m7 m8 m9 m10 m11 m12 m13 M_posts M_roads M_size M_rows M_nextRows M_first M_second M_number M_lists M_square M_fan M_trial M_touching M_having M_most M_only M_can M_next) s.heap.size := ⟨_, rfl⟩
  have hA : ∀ q : Nat, s.heap.size ≤ q → A q := fun q h => by rw [hAe]; exact Or.inr h
  have hI : WI D A s.heap (wM cI cJ cZ m0 m1 m2 m3 m4 m5 m6 m7 m8 m9 m10 m11 m12 m13 M_posts M_roads M_size M_rows M_nextRows M_first M_second M_number M_lists M_square M_fan M_trial M_touching M_having M_most M_only M_can M_next) s.heap [] := ⟨hP, by rw [hAe]; exact hD0.self, va_S.rf⟩
  have hl := lv_entry [.ref m0, .int a1] (n := 2) (Nat.le_of_ble_eq_true rfl)
  rw [lg_entry_eq]
  generalize (lg_sl [.ref m0, .int a1] ++ List.replicate (2 - (lg_sl [.ref m0, .int a1]).length) Slot.unset).toArray = ls at hl ⊢
  replace hl : lv_has ls 2 [(0, .ref m0), (1, .int a1)] := hl
  obtain ⟨x, hf, hM⟩ : ∃ x, FX8_free M_posts M_roads M_first M_second M_number a1 = some x ∧ x = out := ⟨out, hf, rfl⟩
  refine lv_iload_n hx hb dX8_free_0 rfl (lv_at hl 1 rfl) ?_
  refine lv_iconst (v := 0) hx hb dX8_free_1 (by decide) ?_
  refine lv_aload_n hx hb dX8_free_2 rfl (lv_at hl 0 rfl) ?_
  refine w_get hx hb hg hown hK hI iX8 0 rfl rfl 0 (by decide) wF_RX8_68 rfl dX8_free_3 ?_
  refine lv_iconst (v := 1) hx hb dX8_free_6 (by decide) ?_
  refine lv_isub hx hb dX8_free_7 ?_
  obtain ⟨x1, hx1, hf⟩ := bd_e hf
  refine w_S (rest := []) hx hb hml hg hown hK (kX8_in l D cI cJ cZ a1 (0 : Int32) (M_posts - (1 : Int32)) x1 hx1) ksX8_in wL_RX8_60 ⟨Nat.le_of_ble_eq_true rfl, Nat.le_of_ble_eq_true rfl⟩ ⟨rfl, rfl⟩ rfl rfl hl.1 (Nat.le_of_ble_eq_true rfl) dX8_free_8 ⟨Nat.zero_le _, Nat.zero_le _⟩ ?_
  refine lv_if_eq (tgt := 22) hx hb dX8_free_11 (by decide) (fun hc => ?_) (fun hc => ?_)
  · replace hf := ite_t hc hf
    refine lv_bipush (v := -2) hx hb dX8_free_22 (by decide) ?_
    replace hf := Option.some.inj hf
    subst hf
    replace hM : (-2 : Int32) = out := hM
    subst hM
    exact rt_i (u := ()) hx hb hr hlocks rfl hI hAe rfl dX8_free_24
  · replace hf := ite_f hc hf
    refine lv_aload_n hx hb dX8_free_14 rfl (lv_at hl 0 rfl) ?_
    refine lv_iload_n hx hb dX8_free_15 rfl (lv_at hl 1 rfl) ?_
    obtain ⟨o2, ho2, hf⟩ := bd_e hf
    refine w_Vi0 (wc := (wM cI cJ cZ m0 m1 m2 m3 m4 m5 m6 m7 m8 m9 m10 m11 m12 m13 M_posts M_roads M_size M_rows M_nextRows M_first M_second M_number M_lists M_square M_fan M_trial M_touching M_having M_most M_only M_can M_next)) (wr := []) (rest := []) hx hb hml hg hown hK hA hI (kX8_leastFree l D cI cJ cZ m0 m1 m2 m3 m4 m5 m6 m7 m8 m9 m10 m11 m12 m13 M_posts M_roads M_size M_rows M_nextRows M_first M_second M_number M_lists M_square M_fan M_trial M_touching M_having M_most M_only M_can M_next a1 o2 ho2) kvX8_leastFree wL_RX8_88 ⟨Nat.le_of_ble_eq_true rfl, Nat.le_of_ble_eq_true rfl⟩ rfl rfl [0, 1, 2, 3, 4, 5, 6, 7, 8, 9, 10, 11, 12, 13] [] rfl rfl rfl rfl (by decide) rfl rfl hl.1 (Nat.le_of_ble_eq_true rfl) dX8_free_16 ⟨Nat.zero_le _, Nat.zero_le _⟩ ⟨rfl, rfl⟩ (fun r u H locs hp hI => ?_)
    replace hp : r = o2 := hp
    rw [hp]
    clear hp
    replace hI : WI D A s.heap (wM cI cJ cZ m0 m1 m2 m3 m4 m5 m6 m7 m8 m9 m10 m11 m12 m13 M_posts M_roads M_size M_rows M_nextRows M_first M_second M_number M_lists M_square M_fan M_trial M_touching M_having M_most M_only M_can M_next) H locs := hI
    refine lv_goto (tgt := 24) hx hb dX8_free_19 (by decide) ?_
    replace hf := Option.some.inj hf
    subst hf
    replace hM : o2 = out := hM
    subst hM
    exact rt_i (u := ()) hx hb hr hlocks rfl hI hAe rfl dX8_free_24
