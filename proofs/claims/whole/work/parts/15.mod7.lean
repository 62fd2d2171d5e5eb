noncomputable def FX8_square (M_size_0 : Int32) (M_rows_0 : Int32) (M_nextRows_0 : Int32) (a1 : Int32) : Option (Int32 × Int32 × Int32 × Int32) :=
  (FX8_in a1 (2 : Int32) (9 : Int32)).bind (fun x1 => if x1 = (0 : Int32) then (some ((-2 : Int32), M_size_0, M_rows_0, M_nextRows_0)) else (some (M_size_0, a1, (0 : Int32), (-1 : Int32))))
abbrev GX8_square (p : Program) (l : Launch) (e : Env) (s : State) (m : MethodId) (below : List Frame) (meth : Method) (c : Code) (D : va_G) (cI cJ cZ : ClassId) (m0 m1 m2 m3 m4 m5 m6 m7 m8 m9 m10 m11 m12 m13 : Nat) (M_posts : Int32) (M_roads : Int32) (M_size_0 : Int32) (M_rows_0 : Int32) (M_nextRows_0 : Int32) (M_first : Nat → Int32) (M_second : Nat → Int32) (M_number : Nat → Int32) (M_lists : Nat → Int32) (M_square : Nat → Int32) (M_fan : Nat → Int32) (M_trial : Nat → Int32) (M_touching : Nat → Int32) (M_having : Nat → Int32) (M_most : Nat → Int32) (M_only : Nat → Int32) (M_can : Nat → Int32) (M_next : Nat → Int32) (a1 : Int32) (out : Int32 × Int32 × Int32 × Int32) (H : Heap) (locs : List Loc) (g : JFrame) : Prop := W p l e (headSpec (Cond.code yX8_square cX8_square 3 (some .int) :: GW) { frames := 1, cells := 0, slots := 0, locals := 22 }).room s m ([.ref m0, .int a1] : List Value).toArray below meth c H locs 0 0 (MQ below (va_Qi (fun r (_ : Unit) => r = out.1) (BW D (wM cI cJ cZ m0 m1 m2 m3 m4 m5 m6 m7 m8 m9 m10 m11 m12 m13 M_posts M_roads M_size_0 M_rows_0 M_nextRows_0 M_first M_second M_number M_lists M_square M_fan M_trial M_touching M_having M_most M_only M_can M_next) s.heap.size (fun _ => (wM cI cJ cZ m0 m1 m2 m3 m4 m5 m6 m7 m8 m9 m10 m11 m12 m13 M_posts M_roads out.2.1 out.2.2.1 out.2.2.2 M_first M_second M_number M_lists M_square M_fan M_trial M_touching M_having M_most M_only M_can M_next))) (va_A (wM cI cJ cZ m0 m1 m2 m3 m4 m5 m6 m7 m8 m9 m10 m11 m12 m13 M_posts M_roads M_size_0 M_rows_0 M_nextRows_0 M_first M_second M_number M_lists M_square M_fan M_trial M_touching M_having M_most M_only M_can M_next) s.heap.size)) ([.ref m0, .int a1] : List Value).toArray s 0 0 (va_A (wM cI cJ cZ m0 m1 m2 m3 m4 m5 m6 m7 m8 m9 m10 m11 m12 m13 M_posts M_roads M_size_0 M_rows_0 M_nextRows_0 M_first M_second M_number M_lists M_square M_fan M_trial M_touching M_having M_most M_only M_can M_next) s.heap.size)) g
theorem kvX8_square : CalV RX8 yX8_square cX8_square 3 (some .int) 1 := ⟨wC_yX8_square, wM_yX8_square, wS_yX8_square, wI_RX8, by decide +kernel⟩
set_option maxHeartbeats 4000000 in
set_option maxRecDepth 100000 in
theorem kX8_square (l : Launch) (D : va_G) (cI cJ cZ : ClassId) (m0 m1 m2 m3 m4 m5 m6 m7 m8 m9 m10 m11 m12 m13 : Nat) (M_posts : Int32) (M_roads : Int32) (M_size_0 : Int32) (M_rows_0 : Int32) (M_nextRows_0 : Int32) (M_first : Nat → Int32) (M_second : Nat → Int32) (M_number : Nat → Int32) (M_lists : Nat → Int32) (M_square : Nat → Int32) (M_fan : Nat → Int32) (M_trial : Nat → Int32) (M_touching : Nat → Int32) (M_having : Nat → Int32) (M_most : Nat → Int32) (M_only : Nat → Int32) (M_can : Nat → Int32) (M_next : Nat → Int32) (a1 : Int32) (out : Int32 × Int32 × Int32 × Int32) (hf : FX8_square M_size_0 M_rows_0 M_nextRows_0 a1 = some out) : MI l yX8_square (Cond.code yX8_square cX8_square 3 (some .int) :: GW) { frames := 1, cells := 0, slots := 0, locals := 22 } D cI cJ cZ [.ref m0, .int a1] (wM cI cJ cZ m0 m1 m2 m3 m4 m5 m6 m7 m8 m9 m10 m11 m12 m13 M_posts M_roads M_size_0 M_rows_0 M_nextRows_0 M_first M_second M_number M_lists M_square M_fan M_trial M_touching M_having M_most M_only M_can M_next) (fun r (_ : Unit) => r = out.1) (fun _ => (wM cI cJ cZ m0 m1 m2 m3 m4 m5 m6 m7 m8 m9 m10 m11 m12 m13 M_posts M_roads out.2.1 out.2.2.1 out.2.2.2 M_first M_second M_number M_lists M_square M_fan M_trial M_touching M_having M_most M_only M_can M_next)) := by
  intro sz
  refine Met.ofW (cc := cX8_square) (maxL := 3) (ret := (some .int)) (by decide +kernel) rfl ?_
  intro p e s m args below meth c s₁ B hml hv
  obtain ⟨rfl, hsz, hP, hK, hD0⟩ := hv
  have hx := B.exec
  have hb := B.bytes
  have hr := B.returns
  have hlocks := B.notSynchronized
  have hg : ∀ w ∈ GW, w.before _ s = true := fun w h => atoms_spec (ws := Cond.code yX8_square cX8_square 3 (some .int) :: GW) B.pre w (List.mem_cons_of_mem _ h)
  have hown : s.vm.findClass RX8 = some m.cls := findClass_of_methodNamed B.named
  subst hsz
  obtain ⟨A, hAe⟩ : ∃ A, A = va_A (wM cI cJ cZ m0 m1 m2 m3 m4 m5 m6 m7 m8 m9 m10 m11 m12 m13 M_posts M_roads M_size_0 M_rows_0 M_nextRows_0 M_first M_second M_number M_lists M_square M_fan M_trial M_touching M_having M_most M_only M_can M_next) s.heap.size := ⟨_, rfl⟩
  have hA : ∀ q : Nat, s.heap.size ≤ q → A q := fun q h => by rw [hAe]; exact Or.inr h
  have hI : WI D A s.heap (wM cI cJ cZ m0 m1 m2 m3 m4 m5 m6 m7 m8 m9 m10 m11 m12 m13 M_posts M_roads M_size_0 M_rows_0 M_nextRows_0 M_first M_second M_number M_lists M_square M_fan M_trial M_touching M_having M_most M_only M_can M_next) s.heap [] := ⟨hP, by rw [hAe]; exact hD0.self, va_S.rf⟩
  have hl := lv_entry [.ref m0, .int a1] (n := 3) (Nat.le_of_ble_eq_true rfl)
  rw [lg_entry_eq]
  generalize (lg_sl [.ref m0, .int a1] ++ List.replicate (3 - (lg_sl [.ref m0, .int a1]).length) Slot.unset).toArray = ls at hl ⊢
  replace hl : lv_has ls 3 [(0, .ref m0), (1, .int a1)] := hl
  obtain ⟨x, hf, hM⟩ : ∃ x, FX8_square M_size_0 M_rows_0 M_nextRows_0 a1 = some x ∧ x = out := ⟨out, hf, rfl⟩
  refine lv_iload_n hx hb dX8_square_0 rfl (lv_at hl 1 rfl) ?_
  refine lv_iconst (v := 2) hx hb dX8_square_1 (by decide) ?_
  refine lv_bipush (v := 9) hx hb dX8_square_2 (by decide) ?_
  obtain ⟨x1, hx1, hf⟩ := bd_e hf
  refine w_S (rest := []) hx hb hml hg hown hK (kX8_in l D cI cJ cZ a1 (2 : Int32) (9 : Int32) x1 hx1) ksX8_in wL_RX8_60 ⟨Nat.le_of_ble_eq_true rfl, Nat.le_of_ble_eq_true rfl⟩ ⟨rfl, rfl⟩ rfl rfl hl.1 (Nat.le_of_ble_eq_true rfl) dX8_square_4 ⟨Nat.zero_le _, Nat.zero_le _⟩ ?_
  refine lv_if_ne (tgt := 13) hx hb dX8_square_7 (by decide) (fun hc => ?_) (fun hc => ?_)
  · replace hf := ite_f hc hf
    refine lv_aload_n hx hb dX8_square_13 rfl (lv_at hl 0 rfl) ?_
    refine w_get hx hb hg hown hK hI iX8 0 rfl rfl 6 (by decide) wF_RX8_22 rfl dX8_square_14 ?_
    refine lv_istore_n (lv' := [(2, .int M_size_0), (0, .ref m0), (1, .int a1)]) hx hb dX8_square_17 rfl hl (by decide) rfl (fun ls hl => ?_)
    refine lv_aload_n hx hb dX8_square_18 rfl (lv_at hl 1 rfl) ?_
    refine lv_iload_n hx hb dX8_square_19 rfl (lv_at hl 2 rfl) ?_
    refine w_put (W1 := (wM cI cJ cZ m0 m1 m2 m3 m4 m5 m6 m7 m8 m9 m10 m11 m12 m13 M_posts M_roads a1 M_rows_0 M_nextRows_0 M_first M_second M_number M_lists M_square M_fan M_trial M_touching M_having M_most M_only M_can M_next)) hx hb hg hown hK hI iX8 tyX8 tyX8_ok nmX8 0 rfl rfl 6 (by decide) wF_RX8_22 rfl (tyX8_ok 6 (by decide)) rfl rfl (Nat.le_of_ble_eq_true rfl) dX8_square_20 rfl (fun H locs hI => ?_)
    refine lv_aload_n hx hb dX8_square_23 rfl (lv_at hl 1 rfl) ?_
    refine lv_iconst (v := 0) hx hb dX8_square_24 (by decide) ?_
    refine w_put (W1 := (wM cI cJ cZ m0 m1 m2 m3 m4 m5 m6 m7 m8 m9 m10 m11 m12 m13 M_posts M_roads a1 (0 : Int32) M_nextRows_0 M_first M_second M_number M_lists M_square M_fan M_trial M_touching M_having M_most M_only M_can M_next)) hx hb hg hown hK hI iX8 tyX8 tyX8_ok nmX8 0 rfl rfl 7 (by decide) wF_RX8_162 rfl (tyX8_ok 7 (by decide)) rfl rfl (Nat.le_of_ble_eq_true rfl) dX8_square_25 rfl (fun H locs hI => ?_)
    refine lv_aload_n hx hb dX8_square_28 rfl (lv_at hl 1 rfl) ?_
    refine lv_iconst (v := -1) hx hb dX8_square_29 (by decide) ?_
    refine w_put (W1 := (wM cI cJ cZ m0 m1 m2 m3 m4 m5 m6 m7 m8 m9 m10 m11 m12 m13 M_posts M_roads a1 (0 : Int32) (-1 : Int32) M_first M_second M_number M_lists M_square M_fan M_trial M_touching M_having M_most M_only M_can M_next)) hx hb hg hown hK hI iX8 tyX8 tyX8_ok nmX8 0 rfl rfl 8 (by decide) wF_RX8_26 rfl (tyX8_ok 8 (by decide)) rfl rfl (Nat.le_of_ble_eq_true rfl) dX8_square_30 rfl (fun H locs hI => ?_)
    refine lv_iload_n hx hb dX8_square_33 rfl (lv_at hl 0 rfl) ?_
    replace hf := Option.some.inj hf
    subst hf
    replace hM : (M_size_0, a1, (0 : Int32), (-1 : Int32)) = out := hM
    subst hM
    exact rt_i (u := ()) hx hb hr hlocks rfl hI hAe rfl dX8_square_34
  · replace hf := ite_t hc hf
    refine lv_bipush (v := -2) hx hb dX8_square_10 (by decide) ?_
    replace hf := Option.some.inj hf
    subst hf
    replace hM : ((-2 : Int32), M_size_0, M_rows_0, M_nextRows_0) = out := hM
    subst hM
    exact rt_i (u := ()) hx hb hr hlocks rfl hI hAe rfl dX8_square_12
noncomputable def X8_mayStand_L27 (M_rows : Int32) (M_square : Nat → Int32) (l1 : Int32) (l2 : Int32) (v : Int32) : Option ((Int32) ⊕ (Int32)) :=
  if M_rows ≤ v then (some (.inr (1 : Int32))) else (rd M_square 81 (((9 : Int32) * v) + l1) (fun x1 => if x1 = l2 then (some (.inr (0 : Int32))) else (bnd (v + (1 : Int32)) (fun x2 => some (.inl x2)))))
noncomputable def X8_mayStand_L2 (M_rows : Int32) (M_square : Nat → Int32) (M_next : Nat → Int32) (l1 : Int32) (l2 : Int32) (v : Int32) : Option ((Int32) ⊕ (Int32)) :=
  if l1 ≤ v then ((loopO (X8_mayStand_L27 M_rows M_square l1 l2) (0 : Int32)).map (fun z => (.inr z))) else (rd M_next 9 v (fun x3 => if x3 = l2 then (some (.inr (0 : Int32))) else (bnd (v + (1 : Int32)) (fun x4 => some (.inl x4)))))
noncomputable def FX8_mayStand (M_rows : Int32) (M_square : Nat → Int32) (M_next : Nat → Int32) (a1 : Int32) (a2 : Int32) : Option (Int32) :=
  loopO (X8_mayStand_L2 M_rows M_square M_next a1 a2) (0 : Int32)
abbrev GX8_mayStand (p : Program) (l : Launch) (e : Env) (s : State) (m : MethodId) (below : List Frame) (meth : Method) (c : Code) (D : va_G) (cI cJ cZ : ClassId) (m0 m1 m2 m3 m4 m5 m6 m7 m8 m9 m10 m11 m12 m13 : Nat) (M_posts : Int32) (M_roads : Int32) (M_size : Int32) (M_rows : Int32) (M_nextRows : Int32) (M_first : Nat → Int32) (M_second : Nat → Int32) (M_number : Nat → Int32) (M_lists : Nat → Int32) (M_square : Nat → Int32) (M_fan : Nat → Int32) (M_trial : Nat → Int32) (M_touching : Nat → Int32) (M_having : Nat → Int32) (M_most : Nat → Int32) (M_only : Nat → Int32) (M_can : Nat → Int32) (M_next : Nat → Int32) (a1 : Int32) (a2 : Int32) (out : Int32) (H : Heap) (locs : List Loc) (g : JFrame) : Prop := W p l e (headSpec (Cond.code yX8_mayStand cX8_mayStand 4 (some .boolean) :: GW) { frames := 0, cells := 0, slots := 0, locals := 0 }).room s m ([.ref m0, .int a1, .int a2] : List Value).toArray below meth c H locs 0 0 (MQ below (va_Qi (fun r (_ : Unit) => r = out) (BW D (wM cI cJ cZ m0 m1 m2 m3 m4 m5 m6 m7 m8 m9 m10 m11 m12 m13 M_posts M_roads M_size M_rows M_nextRows M_first M_second M_number M_lists M_square M_fan M_trial M_touching M_having M_most M_only M_can M_next) s.heap.size (fun _ => (wM cI cJ cZ m0 m1 m2 m3 m4 m5 m6 m7 m8 m9 m10 m11 m12 m13 M_posts M_roads M_size M_rows M_nextRows M_first M_second M_number M_lists M_square M_fan M_trial M_touching M_having M_most M_only M_can M_next))) (va_A (wM cI cJ cZ m0 m1 m2 m3 m4 m5 m6 m7 m8 m9 m10 m11 m12 m13 M_posts M_roads M_size M_rows M_nextRows M_first M_second M_number M_lists M_square M_fan M_trial M_touching M_having M_most M_only M_can M_next) s.heap.size)) ([.ref m0, .int a1, .int a2] : List Value).toArray s 0 0 (va_A (wM cI cJ cZ m0 m1 m2 m3 m4 m5 m6 m7 m8 m9 m10 m11 m12 m13 M_posts M_roads M_size M_rows M_nextRows M_first M_second M_number M_lists M_square M_fan M_trial M_touching M_having M_most M_only M_can M_next) s.heap.size)) g
theorem kvX8_mayStand : CalV RX8 yX8_mayStand cX8_mayStand 4 (some .boolean) 2 := ⟨wC_yX8_mayStand, wM_yX8_mayStand, wS_yX8_mayStand, wI_RX8, by decide +kernel⟩
set_option maxHeartbeats 4000000 in
set_option maxRecDepth 100000 in
theorem kX8_mayStand (l : Launch) (D : va_G) (cI cJ cZ : ClassId) (m0 m1 m2 m3 m4 m5 m6 m7 m8 m9 m10 m11 m12 m13 : Nat) (M_posts : Int32) (M_roads : Int32) (M_size : Int32) (M_rows : Int32) (M_nextRows : Int32) (M_first : Nat → Int32) (M_second : Nat → Int32) (M_number : Nat → Int32) (M_lists : Nat → Int32) (M_square : Nat → Int32) (M_fan : Nat → Int32) (M_trial : Nat → Int32) (M_touching : Nat → Int32) (M_having : Nat → Int32) (M_most : Nat → Int32) (M_only : Nat → Int32) (M_can : Nat → Int32) (M_next : Nat → Int32) (a1 : Int32) (a2 : Int32) (out : Int32) (hf : FX8_mayStand M_rows M_square M_next a1 a2 = some out) : MI l yX8_mayStand (Cond.code yX8_mayStand cX8_mayStand 4 (some .boolean) :: GW) { frames := 0, cells := 0, slots := 0, locals := 0 } D cI cJ cZ [.ref m0, .int a1, .int a2] (wM cI cJ cZ m0 m1 m2 m3 m4 m5 m6 m7 m8 m9 m10 m11 m12 m13 M_posts M_roads M_size M_rows M_nextRows M_first M_second M_number M_lists M_square M_fan M_trial M_touching M_having M_most M_only M_can M_next) (fun r (_ : Unit) => r = out) (fun _ => (wM cI cJ cZ m0 m1 m2 m3 m4 m5 m6 m7 m8 m9 m10 m11 m12 m13 M_posts M_roads M_size M_rows M_nextRows M_first M_second M_number M_lists M_square M_fan M_trial M_touching M_having M_most M_only M_can M_next)) := by
  intro sz
  refine Met.ofW (cc := cX8_mayStand) (maxL := 4) (ret := (some .boolean)) (by decide +kernel) rfl ?_
  intro p e s m args below meth c s₁ B hml hv
  obtain ⟨rfl, hsz, hP, hK, hD0⟩ := hv
  have hx := B.exec
  have hb := B.bytes
  have hr := B.returns
  have hlocks := B.notSynchronized
  have hg : ∀ w ∈ GW, w.before _ s = true := fun w h => atoms_spec (ws := Cond.code yX8_mayStand cX8_mayStand 4 (some .boolean) :: GW) B.pre w (List.mem_cons_of_mem _ h)
  have hown : s.vm.findClass RX8 = some m.cls := findClass_of_methodNamed B.named
  subst hsz
  obtain ⟨A, hAe⟩ : ∃ A, A = va_A (wM cI cJ cZ m0 m1 m2 m3 m4 m5 m6 m7 m8 m9 m10 m11 m12 m13 M_posts M_roads M_size M_rows M_nextRows M_first M_second M_number M_lists M_square M_fan M_trial M_touching M_having M_most M_only M_can M_next) s.heap.size := ⟨_, rfl⟩
  have hA : ∀ q : Nat, s.heap.size ≤ q → A q := fun q h => by rw [hAe]; exact Or.inr h
  have hI : WI D A s.heap (wM cI cJ cZ m0 m1 m2 m3 m4 m5 m6 m7 m8 m9 m10 m11 m12 m13 M_posts M_roads M_size M_rows M_nextRows M_first M_second M_number M_lists M_square M_fan M_trial M_touching M_having M_most M_only M_can M_next) s.heap [] := ⟨hP, by rw [hAe]; exact hD0.self, va_S.rf⟩
  have hl := lv_entry [.ref m0, .int a1, .int a2] (n := 4) (Nat.le_of_ble_eq_true rfl)
  rw [lg_entry_eq]
  generalize (lg_sl [.ref m0, .int a1, .int a2] ++ List.replicate (4 - (lg_sl [.ref m0, .int a1, .int a2]).length) Slot.unset).toArray = ls at hl ⊢
  replace hl : lv_has ls 4 [(0, .ref m0), (1, .int a1), (2, .int a2)] := hl
  have L27 : ∀ (l1 : Int32) (l2 : Int32), ∀ (v : Int32) (x : Int32), loopO (X8_mayStand_L27 M_rows M_square l1 l2) v = some x → (fun z : Int32 => z = out) x → (fun (v : Int32) => ∀ (H : Heap) (locs : List Loc) (ls : Array Slot), WI D A s.heap (wM cI cJ cZ m0 m1 m2 m3 m4 m5 m6 m7 m8 m9 m10 m11 m12 m13 M_posts M_roads M_size M_rows M_nextRows M_first M_second M_number M_lists M_square M_fan M_trial M_touching M_having M_most M_only M_can M_next) H locs → lv_has ls 4 [(0, .ref m0), (1, .int l1), (2, .int l2), (3, .int v)] → GX8_mayStand p l e s m below meth c D cI cJ cZ m0 m1 m2 m3 m4 m5 m6 m7 m8 m9 m10 m11 m12 m13 M_posts M_roads M_size M_rows M_nextRows M_first M_second M_number M_lists M_square M_fan M_trial M_touching M_having M_most M_only M_can M_next a1 a2 out H locs (F0 m 27 ls [])) v := by
    intro l1 l2
    refine loopO_ind (fun (v : Int32) => ∀ (H : Heap) (locs : List Loc) (ls : Array Slot), WI D A s.heap (wM cI cJ cZ m0 m1 m2 m3 m4 m5 m6 m7 m8 m9 m10 m11 m12 m13 M_posts M_roads M_size M_rows M_nextRows M_first M_second M_number M_lists M_square M_fan M_trial M_touching M_having M_most M_only M_can M_next) H locs → lv_has ls 4 [(0, .ref m0), (1, .int l1), (2, .int l2), (3, .int v)] → GX8_mayStand p l e s m below meth c D cI cJ cZ m0 m1 m2 m3 m4 m5 m6 m7 m8 m9 m10 m11 m12 m13 M_posts M_roads M_size M_rows M_nextRows M_first M_second M_number M_lists M_square M_fan M_trial M_touching M_having M_most M_only M_can M_next a1 a2 out H locs (F0 m 27 ls [])) (fun z : Int32 => z = out) ?_
    intro v x hf hM H locs ls hI hl
    refine lv_iload_n hx hb dX8_mayStand_27 rfl (lv_at hl 3 rfl) ?_
    refine lv_aload_n hx hb dX8_mayStand_28 rfl (lv_at hl 0 rfl) ?_
    refine w_get hx hb hg hown hK hI iX8 0 rfl rfl 7 (by decide) wF_RX8_162 rfl dX8_mayStand_29 ?_
    refine lv_icmp_ge (tgt := 58) hx hb dX8_mayStand_32 (by decide) (fun hc => ?_) (fun hc => ?_)
    · replace hf := ite_t hc hf
      refine lv_iconst (v := 1) hx hb dX8_mayStand_58 (by decide) ?_
      replace hf := Option.some.inj hf
      subst hf
      replace hM : (1 : Int32) = out := hM
      subst hM
      exact rt_i (u := ()) hx hb hr hlocks (by decide) hI hAe rfl dX8_mayStand_59
    · replace hf := ite_f hc hf
      refine lv_aload_n hx hb dX8_mayStand_35 rfl (lv_at hl 0 rfl) ?_
      refine w_get hx hb hg hown hK hI iX8 0 rfl rfl 9 (by decide) wF_RX8_29 rfl dX8_mayStand_36 ?_
      refine lv_bipush (v := 9) hx hb dX8_mayStand_39 (by decide) ?_
      refine lv_iload_n hx hb dX8_mayStand_41 rfl (lv_at hl 3 rfl) ?_
      refine lv_imul hx hb dX8_mayStand_42 ?_
      refine lv_iload_n hx hb dX8_mayStand_43 rfl (lv_at hl 1 rfl) ?_
      refine lv_iadd hx hb dX8_mayStand_44 ?_
      obtain ⟨hin, hf⟩ := rd_e hf
      refine w_iald hx hb hK hI 5 rfl hin dX8_mayStand_45 (fun x1 ex1 => ?_)
      replace hf := hf x1 ex1
      refine lv_iload_n hx hb dX8_mayStand_46 rfl (lv_at hl 2 rfl) ?_
      refine lv_icmp_ne (tgt := 52) hx hb dX8_mayStand_47 (by decide) (fun hc => ?_) (fun hc => ?_)
      · replace hf := ite_f hc hf
        obtain ⟨x2, ex2⟩ : ∃ y : Int32, y = (v + (1 : Int32)) := ⟨_, rfl⟩
        replace hf := bnd_e hf x2 ex2
        refine lv_iinc (v := x2) (lv' := [(3, .int x2), (0, .ref m0), (1, .int l1), (2, .int l2)]) hx hb dX8_mayStand_52 hl (k := 3) rfl (by rw [ex2]; rfl) (by decide) rfl (fun ls hl => ?_)
        refine lv_goto (tgt := 27) hx hb dX8_mayStand_55 (by decide) ?_
        replace hf := Option.some.inj hf
        subst hf
        exact hM _ _ _ hI (lv_sub hl [1, 2, 3, 0] rfl)
      · replace hf := ite_t hc hf
        refine lv_iconst (v := 0) hx hb dX8_mayStand_50 (by decide) ?_
        replace hf := Option.some.inj hf
        subst hf
        replace hM : (0 : Int32) = out := hM
        subst hM
        exact rt_i (u := ()) hx hb hr hlocks (by decide) hI hAe rfl dX8_mayStand_51
  have L2 : ∀ (l1 : Int32) (l2 : Int32), ∀ (v : Int32) (x : Int32), loopO (X8_mayStand_L2 M_rows M_square M_next l1 l2) v = some x → (fun z : Int32 => z = out) x → (fun (v : Int32) => ∀ (H : Heap) (locs : List Loc) (ls : Array Slot), WI D A s.heap (wM cI cJ cZ m0 m1 m2 m3 m4 m5 m6 m7 m8 m9 m10 m11 m12 m13 M_posts M_roads M_size M_rows M_nextRows M_first M_second M_number M_lists M_square M_fan M_trial M_touching M_having M_most M_only M_can M_next) H locs → lv_has ls 4 [(0, .ref m0), (1, .int l1), (2, .int l2), (3, .int v)] → GX8_mayStand p l e s m below meth c D cI cJ cZ m0 m1 m2 m3 m4 m5 m6 m7 m8 m9 m10 m11 m12 m13 M_posts M_roads M_size M_rows M_nextRows M_first M_second M_number M_lists M_square M_fan M_trial M_touching M_having M_most M_only M_can M_next a1 a2 out H locs (F0 m 2 ls [])) v := by
    intro l1 l2
    refine loopO_ind (fun (v : Int32) => ∀ (H : Heap) (locs : List Loc) (ls : Array Slot), WI D A s.heap (wM cI cJ cZ m0 m1 m2 m3 m4 m5 m6 m7 m8 m9 m10 m11 m12 m13 M_posts M_roads M_size M_rows M_nextRows M_first M_second M_number M_lists M_square M_fan M_trial M_touching M_having M_most M_only M_can M_next) H locs → lv_has ls 4 [(0, .ref m0), (1, .int l1), (2, .int l2), (3, .int v)] → GX8_mayStand p l e s m below meth c D cI cJ cZ m0 m1 m2 m3 m4 m5 m6 m7 m8 m9 m10 m11 m12 m13 M_posts M_roads M_size M_rows M_nextRows M_first M_second M_number M_lists M_square M_fan M_trial M_touching M_having M_most M_only M_can M_next a1 a2 out H locs (F0 m 2 ls [])) (fun z : Int32 => z = out) ?_
    intro v x hf hM H locs ls hI hl
    refine lv_iload_n hx hb dX8_mayStand_2 rfl (lv_at hl 3 rfl) ?_
    refine lv_iload_n hx hb dX8_mayStand_3 rfl (lv_at hl 1 rfl) ?_
    refine lv_icmp_ge (tgt := 25) hx hb dX8_mayStand_4 (by decide) (fun hc => ?_) (fun hc => ?_)
    · replace hf := ite_t hc hf
      refine lv_iconst (v := 0) hx hb dX8_mayStand_25 (by decide) ?_
      refine lv_istore_n (lv' := [(3, .int (0 : Int32)), (0, .ref m0), (1, .int l1), (2, .int l2)]) hx hb dX8_mayStand_26 rfl hl (by decide) rfl (fun ls hl => ?_)
      obtain ⟨z, hf2, ez⟩ := mp_e hf
      clear hf
      subst ez
      exact L27 l1 l2 (0 : Int32) _ hf2 hM _ _ _ hI (lv_sub hl [1, 2, 3, 0] rfl)
    · replace hf := ite_f hc hf
      refine lv_aload_n hx hb dX8_mayStand_7 rfl (lv_at hl 0 rfl) ?_
      refine w_get hx hb hg hown hK hI iX8 0 rfl rfl 17 (by decide) wF_RX8_54 rfl dX8_mayStand_8 ?_
      refine lv_iload_n hx hb dX8_mayStand_11 rfl (lv_at hl 3 rfl) ?_
      obtain ⟨hin, hf⟩ := rd_e hf
      refine w_iald hx hb hK hI 13 rfl hin dX8_mayStand_12 (fun x3 ex3 => ?_)
      replace hf := hf x3 ex3
      refine lv_iload_n hx hb dX8_mayStand_13 rfl (lv_at hl 2 rfl) ?_
      refine lv_icmp_ne (tgt := 19) hx hb dX8_mayStand_14 (by decide) (fun hc => ?_) (fun hc => ?_)
      · replace hf := ite_f hc hf
        obtain ⟨x4, ex4⟩ : ∃ y : Int32, y = (v + (1 : Int32)) := ⟨_, rfl⟩
        replace hf := bnd_e hf x4 ex4
        refine lv_iinc (v := x4) (lv' := [(3, .int x4), (0, .ref m0), (1, .int l1), (2, .int l2)]) hx hb dX8_mayStand_19 hl (k := 3) rfl (by rw [ex4]; rfl) (by decide) rfl (fun ls hl => ?_)
        refine lv_goto (tgt := 2) hx hb dX8_mayStand_22 (by decide) ?_
        replace hf := Option.some.inj hf
        subst hf
        exact hM _ _ _ hI (lv_sub hl [1, 2, 3, 0] rfl)
      · replace hf := ite_t hc hf
        refine lv_iconst (v := 0) hx hb dX8_mayStand_17 (by decide) ?_
        replace hf := Option.some.inj hf
        subst hf
        replace hM : (0 : Int32) = out := hM
        subst hM
        exact rt_i (u := ()) hx hb hr hlocks (by decide) hI hAe rfl dX8_mayStand_18
  obtain ⟨x, hf, hM⟩ : ∃ x, FX8_mayStand M_rows M_square M_next a1 a2 = some x ∧ x = out := ⟨out, hf, rfl⟩
  refine lv_iconst (v := 0) hx hb dX8_mayStand_0 (by decide) ?_
  refine lv_istore_n (lv' := [(3, .int (0 : Int32)), (0, .ref m0), (1, .int a1), (2, .int a2)]) hx hb dX8_mayStand_1 rfl hl (by decide) rfl (fun ls hl => ?_)
  exact L2 a1 a2 (0 : Int32) _ hf hM _ _ _ hI (lv_sub hl [1, 2, 3, 0] rfl)
noncomputable def X8_stands_J36 (M_rows : Int32) (M_nextRows : Int32) (M_square : Nat → Int32) : Option (Int32 × Int32 × (Nat → Int32)) :=
  bnd (M_rows + (1 : Int32)) (fun x1 => some (x1, (-1 : Int32), M_square))
noncomputable def X8_stands_L2 (M_size : Int32) (M_rows : Int32) (M_nextRows : Int32) (M_next : Nat → Int32) (v : (Nat → Int32) × Int32) : Option (((Nat → Int32) × Int32) ⊕ (Int32 × Int32 × (Nat → Int32))) :=
  if M_size ≤ v.2 then ((X8_stands_J36 M_rows M_nextRows v.1).map (fun z => (.inr z))) else (rd M_next 9 v.2 (fun x2 => wr v.1 81 (((9 : Int32) * M_rows) + v.2) x2 (fun g3 => bnd (v.2 + (1 : Int32)) (fun x4 => some (.inl (g3, x4))))))
noncomputable def FX8_stands (M_size : Int32) (M_rows_0 : Int32) (M_nextRows_0 : Int32) (M_square_0 : Nat → Int32) (M_next : Nat → Int32)  : Option (Int32 × Int32 × (Nat → Int32)) :=
  loopO (X8_stands_L2 M_size M_rows_0 M_nextRows_0 M_next) (M_square_0, (0 : Int32))
abbrev GX8_stands (p : Program) (l : Launch) (e : Env) (s : State) (m : MethodId) (below : List Frame) (meth : Method) (c : Code) (D : va_G) (cI cJ cZ : ClassId) (m0 m1 m2 m3 m4 m5 m6 m7 m8 m9 m10 m11 m12 m13 : Nat) (M_posts : Int32) (M_roads : Int32) (M_size : Int32) (M_rows_0 : Int32) (M_nextRows_0 : Int32) (M_first : Nat → Int32) (M_second : Nat → Int32) (M_number : Nat → Int32) (M_lists : Nat → Int32) (M_square_0 : Nat → Int32) (M_fan : Nat → Int32) (M_trial : Nat → Int32) (M_touching : Nat → Int32) (M_having : Nat → Int32) (M_most : Nat → Int32) (M_only : Nat → Int32) (M_can : Nat → Int32) (M_next : Nat → Int32)  (out : Int32 × Int32 × (Nat → Int32)) (H : Heap) (locs : List Loc) (g : JFrame) : Prop := W p l e (headSpec (Cond.code yX8_stands cX8_stands 2 none :: GW) { frames := 0, cells := 0, slots := 0, locals := 0 }).room s m ([.ref m0] : List Value).toArray below meth c H locs 0 0 (MQ below (va_Qv (fun (_ : Unit) => True) (BW D (wM cI cJ cZ m0 m1 m2 m3 m4 m5 m6 m7 m8 m9 m10 m11 m12 m13 M_posts M_roads M_size M_rows_0 M_nextRows_0 M_first M_second M_number M_lists M_square_0 M_fan M_trial M_touching M_having M_most M_only M_can M_next) s.heap.size (fun _ => (wM cI cJ cZ m0 m1 m2 m3 m4 m5 m6 m7 m8 m9 m10 m11 m12 m13 M_posts M_roads M_size out.1 out.2.1 M_first M_second M_number M_lists out.2.2 M_fan M_trial M_touching M_having M_most M_only M_can M_next))) (va_A (wM cI cJ cZ m0 m1 m2 m3 m4 m5 m6 m7 m8 m9 m10 m11 m12 m13 M_posts M_roads M_size M_rows_0 M_nextRows_0 M_first M_second M_number M_lists M_square_0 M_fan M_trial M_touching M_having M_most M_only M_can M_next) s.heap.size)) ([.ref m0] : List Value).toArray s 0 0 (va_A (wM cI cJ cZ m0 m1 m2 m3 m4 m5 m6 m7 m8 m9 m10 m11 m12 m13 M_posts M_roads M_size M_rows_0 M_nextRows_0 M_first M_second M_number M_lists M_square_0 M_fan M_trial M_touching M_having M_most M_only M_can M_next) s.heap.size)) g
theorem kvX8_stands : CalV RX8 yX8_stands cX8_stands 2 none 0 := ⟨wC_yX8_stands, wM_yX8_stands, wS_yX8_stands, wI_RX8, by decide +kernel⟩
set_option maxHeartbeats 4000000 in
set_option maxRecDepth 100000 in
theorem kX8_stands (l : Launch) (D : va_G) (cI cJ cZ : ClassId) (m0 m1 m2 m3 m4 m5 m6 m7 m8 m9 m10 m11 m12 m13 : Nat) (M_posts : Int32) (M_roads : Int32) (M_size : Int32) (M_rows_0 : Int32) (M_nextRows_0 : Int32) (M_first : Nat → Int32) (M_second : Nat → Int32) (M_number : Nat → Int32) (M_lists : Nat → Int32) (M_square_0 : Nat → Int32) (M_fan : Nat → Int32) (M_trial : Nat → Int32) (M_touching : Nat → Int32) (M_having : Nat → Int32) (M_most : Nat → Int32) (M_only : Nat → Int32) (M_can : Nat → Int32) (M_next : Nat → Int32)  (out : Int32 × Int32 × (Nat → Int32)) (hf : FX8_stands M_size M_rows_0 M_nextRows_0 M_square_0 M_next = some out) : MV l yX8_stands (Cond.code yX8_stands cX8_stands 2 none :: GW) { frames := 0, cells := 0, slots := 0, locals := 0 } D cI cJ cZ [.ref m0] (wM cI cJ cZ m0 m1 m2 m3 m4 m5 m6 m7 m8 m9 m10 m11 m12 m13 M_posts M_roads M_size M_rows_0 M_nextRows_0 M_first M_second M_number M_lists M_square_0 M_fan M_trial M_touching M_having M_most M_only M_can M_next) (fun (_ : Unit) => True) (fun _ => (wM cI cJ cZ m0 m1 m2 m3 m4 m5 m6 m7 m8 m9 m10 m11 m12 m13 M_posts M_roads M_size out.1 out.2.1 M_first M_second M_number M_lists out.2.2 M_fan M_trial M_touching M_having M_most M_only M_can M_next)) := by
  intro sz
  refine Met.ofW (cc := cX8_stands) (maxL := 2) (ret := none) (by decide +kernel) rfl ?_
  intro p e s m args below meth c s₁ B hml hv
  obtain ⟨rfl, hsz, hP, hK, hD0⟩ := hv
  have hx := B.exec
  have hb := B.bytes
  have hr := B.returns
  have hlocks := B.notSynchronized
  have hg : ∀ w ∈ GW, w.before _ s = true := fun w h => atoms_spec (ws := Cond.code yX8_stands cX8_stands 2 none :: GW) B.pre w (List.mem_cons_of_mem _ h)
  have hown : s.vm.findClass RX8 = some m.cls := findClass_of_methodNamed B.named
  subst hsz
  obtain ⟨A, hAe⟩ : ∃ A, A = va_A (wM cI cJ cZ m0 m1 m2 m3 m4 m5 m6 m7 m8 m9 m10 m11 m12 m13 M_posts M_roads M_size M_rows_0 M_nextRows_0 M_first M_second M_number M_lists M_square_0 M_fan M_trial M_touching M_having M_most M_only M_can M_next) s.heap.size := ⟨_, rfl⟩
  have hA : ∀ q : Nat, s.heap.size ≤ q → A q := fun q h => by rw [hAe]; exact Or.inr h
  have hI : WI D A s.heap (wM cI cJ cZ m0 m1 m2 m3 m4 m5 m6 m7 m8 m9 m10 m11 m12 m13 M_posts M_roads M_size M_rows_0 M_nextRows_0 M_first M_second M_number M_lists M_square_0 M_fan M_trial M_touching M_having M_most M_only M_can M_next) s.heap [] := ⟨hP, by rw [hAe]; exact hD0.self, va_S.rf⟩
  have hl := lv_entry [.ref m0] (n := 2) (Nat.le_of_ble_eq_true rfl)
  rw [lg_entry_eq]
  generalize (lg_sl [.ref m0] ++ List.replicate (2 - (lg_sl [.ref m0]).length) Slot.unset).toArray = ls at hl ⊢
  replace hl : lv_has ls 2 [(0, .ref m0)] := hl
  have J36 : ∀ (M_rows : Int32) (M_nextRows : Int32) (M_square : Nat → Int32) (x : Int32 × Int32 × (Nat → Int32)), X8_stands_J36 M_rows M_nextRows M_square = some x → (fun z : Int32 × Int32 × (Nat → Int32) => z = out) x → ∀ (H : Heap) (locs : List Loc) (ls : Array Slot), WI D A s.heap (wM cI cJ cZ m0 m1 m2 m3 m4 m5 m6 m7 m8 m9 m10 m11 m12 m13 M_posts M_roads M_size M_rows M_nextRows M_first M_second M_number M_lists M_square M_fan M_trial M_touching M_having M_most M_only M_can M_next) H locs → lv_has ls 2 [(0, .ref m0)] → GX8_stands p l e s m below meth c D cI cJ cZ m0 m1 m2 m3 m4 m5 m6 m7 m8 m9 m10 m11 m12 m13 M_posts M_roads M_size M_rows_0 M_nextRows_0 M_first M_second M_number M_lists M_square_0 M_fan M_trial M_touching M_having M_most M_only M_can M_next  out H locs (F0 m 36 ls []) := by
    intro M_rows M_nextRows M_square x hf hM H locs ls hI hl
    refine lv_aload_n hx hb dX8_stands_36 rfl (lv_at hl 0 rfl) ?_
    refine lv_dup hx hb dX8_stands_37 rfl ?_
    refine w_get hx hb hg hown hK hI iX8 0 rfl rfl 7 (by decide) wF_RX8_162 rfl dX8_stands_38 ?_
    refine lv_iconst (v := 1) hx hb dX8_stands_41 (by decide) ?_
    refine lv_iadd hx hb dX8_stands_42 ?_
    refine lv_topi (fun x1 ex1 => ?_)
    replace hf := bnd_e hf x1 ex1
    refine w_put (W1 := (wM cI cJ cZ m0 m1 m2 m3 m4 m5 m6 m7 m8 m9 m10 m11 m12 m13 M_posts M_roads M_size x1 M_nextRows M_first M_second M_number M_lists M_square M_fan M_trial M_touching M_having M_most M_only M_can M_next)) hx hb hg hown hK hI iX8 tyX8 tyX8_ok nmX8 0 rfl rfl 7 (by decide) wF_RX8_162 rfl (tyX8_ok 7 (by decide)) rfl rfl (Nat.le_of_ble_eq_true rfl) dX8_stands_43 rfl (fun H locs hI => ?_)
    refine lv_aload_n hx hb dX8_stands_46 rfl (lv_at hl 0 rfl) ?_
    refine lv_iconst (v := -1) hx hb dX8_stands_47 (by decide) ?_
    refine w_put (W1 := (wM cI cJ cZ m0 m1 m2 m3 m4 m5 m6 m7 m8 m9 m10 m11 m12 m13 M_posts M_roads M_size x1 (-1 : Int32) M_first M_second M_number M_lists M_square M_fan M_trial M_touching M_having M_most M_only M_can M_next)) hx hb hg hown hK hI iX8 tyX8 tyX8_ok nmX8 0 rfl rfl 8 (by decide) wF_RX8_26 rfl (tyX8_ok 8 (by decide)) rfl rfl (Nat.le_of_ble_eq_true rfl) dX8_stands_48 rfl (fun H locs hI => ?_)
    replace hf := Option.some.inj hf
    subst hf
    replace hM : (x1, (-1 : Int32), M_square) = out := hM
    subst hM
    exact rt_v (u := ()) hx hb hr hlocks hI hAe trivial dX8_stands_51
  have L2 : ∀ (M_rows : Int32) (M_nextRows : Int32), ∀ (v : (Nat → Int32) × Int32) (x : Int32 × Int32 × (Nat → Int32)), loopO (X8_stands_L2 M_size M_rows M_nextRows M_next) v = some x → (fun z : Int32 × Int32 × (Nat → Int32) => z = out) x → (fun (v : (Nat → Int32) × Int32) => ∀ (H : Heap) (locs : List Loc) (ls : Array Slot), WI D A s.heap (wM cI cJ cZ m0 m1 m2 m3 m4 m5 m6 m7 m8 m9 m10 m11 m12 m13 M_posts M_roads M_size M_rows M_nextRows M_first M_second M_number M_lists v.1 M_fan M_trial M_touching M_having M_most M_only M_can M_next) H locs → lv_has ls 2 [(0, .ref m0), (1, .int v.2)] → GX8_stands p l e s m below meth c D cI cJ cZ m0 m1 m2 m3 m4 m5 m6 m7 m8 m9 m10 m11 m12 m13 M_posts M_roads M_size M_rows_0 M_nextRows_0 M_first M_second M_number M_lists M_square_0 M_fan M_trial M_touching M_having M_most M_only M_can M_next  out H locs (F0 m 2 ls [])) v := by
    intro M_rows M_nextRows
    refine loopO_ind (fun (v : (Nat → Int32) × Int32) => ∀ (H : Heap) (locs : List Loc) (ls : Array Slot), WI D A s.heap (wM cI cJ cZ m0 m1 m2 m3 m4 m5 m6 m7 m8 m9 m10 m11 m12 m13 M_posts M_roads M_size M_rows M_nextRows M_first M_second M_number M_lists v.1 M_fan M_trial M_touching M_having M_most M_only M_can M_next) H locs → lv_has ls 2 [(0, .ref m0), (1, .int v.2)] → GX8_stands p l e s m below meth c D cI cJ cZ m0 m1 m2 m3 m4 m5 m6 m7 m8 m9 m10 m11 m12 m13 M_posts M_roads M_size M_rows_0 M_nextRows_0 M_first M_second M_number M_lists M_square_0 M_fan M_trial M_touching M_having M_most M_only M_can M_next  out H locs (F0 m 2 ls [])) (fun z : Int32 × Int32 × (Nat → Int32) => z = out) ?_
    intro v x hf hM H locs ls hI hl
    refine lv_iload_n hx hb dX8_stands_2 rfl (lv_at hl 1 rfl) ?_
    refine lv_aload_n hx hb dX8_stands_3 rfl (lv_at hl 0 rfl) ?_
    refine w_get hx hb hg hown hK hI iX8 0 rfl rfl 6 (by decide) wF_RX8_22 rfl dX8_stands_4 ?_
    refine lv_icmp_ge (tgt := 36) hx hb dX8_stands_7 (by decide) (fun hc => ?_) (fun hc => ?_)
    · replace hf := ite_t hc hf
      obtain ⟨z, hf2, ez⟩ := mp_e hf
      clear hf
      subst ez
      exact J36 M_rows M_nextRows v.1 _ hf2 hM _ _ _ hI (lv_sub hl [0] rfl)
    · replace hf := ite_f hc hf
      refine lv_aload_n hx hb dX8_stands_10 rfl (lv_at hl 0 rfl) ?_
      refine w_get hx hb hg hown hK hI iX8 0 rfl rfl 9 (by decide) wF_RX8_29 rfl dX8_stands_11 ?_
      refine lv_bipush (v := 9) hx hb dX8_stands_14 (by decide) ?_
      refine lv_aload_n hx hb dX8_stands_16 rfl (lv_at hl 0 rfl) ?_
      refine w_get hx hb hg hown hK hI iX8 0 rfl rfl 7 (by decide) wF_RX8_162 rfl dX8_stands_17 ?_
      refine lv_imul hx hb dX8_stands_20 ?_
      refine lv_iload_n hx hb dX8_stands_21 rfl (lv_at hl 1 rfl) ?_
      refine lv_iadd hx hb dX8_stands_22 ?_
      refine lv_aload_n hx hb dX8_stands_23 rfl (lv_at hl 0 rfl) ?_
      refine w_get hx hb hg hown hK hI iX8 0 rfl rfl 17 (by decide) wF_RX8_54 rfl dX8_stands_24 ?_
      refine lv_iload_n hx hb dX8_stands_27 rfl (lv_at hl 1 rfl) ?_
      obtain ⟨hin, hf⟩ := rd_e hf
      refine w_iald hx hb hK hI 13 rfl hin dX8_stands_28 (fun x2 ex2 => ?_)
      replace hf := hf x2 ex2
      obtain ⟨hin, hf⟩ := wr_e hf
      obtain ⟨g3, eg3⟩ : ∃ g : Nat → Int32, g = upd v.1 ((((9 : Int32) * M_rows) + v.2)).toNatClampNeg x2 := ⟨_, rfl⟩
      replace hf := hf g3 eg3
      refine w_iast (g := g3) (W1 := (wM cI cJ cZ m0 m1 m2 m3 m4 m5 m6 m7 m8 m9 m10 m11 m12 m13 M_posts M_roads M_size M_rows M_nextRows M_first M_second M_number M_lists g3 M_fan M_trial M_touching M_having M_most M_only M_can M_next)) hx hb hK hI 5 rfl hin eg3 dX8_stands_29 rfl (fun H locs hI => ?_)
      obtain ⟨x4, ex4⟩ : ∃ y : Int32, y = (v.2 + (1 : Int32)) := ⟨_, rfl⟩
      replace hf := bnd_e hf x4 ex4
      refine lv_iinc (v := x4) (lv' := [(1, .int x4), (0, .ref m0)]) hx hb dX8_stands_30 hl (k := 1) rfl (by rw [ex4]; rfl) (by decide) rfl (fun ls hl => ?_)
      refine lv_goto (tgt := 2) hx hb dX8_stands_33 (by decide) ?_
      replace hf := Option.some.inj hf
      subst hf
      exact hM _ _ _ hI (lv_sub hl [1, 0] rfl)
  obtain ⟨x, hf, hM⟩ : ∃ x, FX8_stands M_size M_rows_0 M_nextRows_0 M_square_0 M_next = some x ∧ x = out := ⟨out, hf, rfl⟩
  refine lv_iconst (v := 0) hx hb dX8_stands_0 (by decide) ?_
  refine lv_istore_n (lv' := [(1, .int (0 : Int32)), (0, .ref m0)]) hx hb dX8_stands_1 rfl hl (by decide) rfl (fun ls hl => ?_)
  exact L2 M_rows_0 M_nextRows_0 (M_square_0, (0 : Int32)) _ hf hM _ _ _ hI (lv_sub hl [1, 0] rfl)
noncomputable def X8_hold_J112 (M_size : Int32) (M_rows : Int32) (M_nextRows : Int32) (M_square : Nat → Int32) (M_next : Nat → Int32) : Option (Int32 × Int32 × Int32 × (Nat → Int32) × (Nat → Int32)) :=
  (FX8_stands M_size M_rows M_nextRows M_square M_next).bind (fun o2 => some (o2.1, o2.1, o2.2.1, o2.2.2, M_next))
noncomputable def X8_hold_L68 (M_size : Int32) (M_rows : Int32) (M_nextRows : Int32) (M_square : Nat → Int32) (M_next : Nat → Int32) (v : Int32) : Option ((Int32) ⊕ (Int32 × Int32 × Int32 × (Nat → Int32) × (Nat → Int32))) :=
  if M_size ≤ v then ((X8_hold_J112 M_size M_rows M_nextRows M_square M_next).map (fun z => (.inr z))) else (rd M_next 9 v (fun x3 => if M_size ≤ x3 then (some (.inr ((-2 : Int32), M_rows, M_nextRows, M_square, M_next))) else (rd M_next 9 v (fun x4 => (FX8_mayStand M_rows M_square M_next v x4).bind (fun o5 => if o5 = (0 : Int32) then (some (.inr ((-2 : Int32), M_rows, M_nextRows, M_square, M_next))) else (bnd (v + (1 : Int32)) (fun x6 => some (.inl x6))))))))
noncomputable def X8_hold_J59 (M_size : Int32) (M_rows : Int32) (M_nextRows : Int32) (M_square : Nat → Int32) (M_next : Nat → Int32) (l2 : Int32) : Option (Int32 × Int32 × Int32 × (Nat → Int32) × (Nat → Int32)) :=
  if l2 = (0 : Int32) then (loopO (X8_hold_L68 M_size M_rows M_nextRows M_square M_next) (0 : Int32)) else (some ((-2 : Int32), M_rows, M_nextRows, M_square, M_next))
noncomputable def X8_hold_L34 (M_size : Int32) (M_rows : Int32) (M_nextRows : Int32) (M_square : Nat → Int32) (v : (Nat → Int32) × Int32 × Int32) : Option (((Nat → Int32) × Int32 × Int32) ⊕ (Int32 × Int32 × Int32 × (Nat → Int32) × (Nat → Int32))) :=
  if v.2.2 < (0 : Int32) then ((X8_hold_J59 M_size M_rows M_nextRows M_square v.1 v.2.1).map (fun z => (.inr z))) else (rm_ v.2.1 (10 : Int32) (fun x7 => wr v.1 9 v.2.2 x7 (fun g8 => dv v.2.1 (10 : Int32) (fun x9 => bnd (v.2.2 + (-1 : Int32)) (fun x10 => some (.inl (g8, x9, x10)))))))
noncomputable def FX8_hold (M_size : Int32) (M_rows_0 : Int32) (M_nextRows_0 : Int32) (M_square_0 : Nat → Int32) (M_next_0 : Nat → Int32) (a1 : Int32) : Option (Int32 × Int32 × Int32 × (Nat → Int32) × (Nat → Int32)) :=
  if M_size < (0 : Int32) then (some ((-2 : Int32), M_rows_0, M_nextRows_0, M_square_0, M_next_0)) else (if M_rows_0 = M_size then (some ((-2 : Int32), M_rows_0, M_nextRows_0, M_square_0, M_next_0)) else (if (0 : Int32) ≤ a1 then (bnd (M_size - (1 : Int32)) (fun x1 => loopO (X8_hold_L34 M_size M_rows_0 M_nextRows_0 M_square_0) (M_next_0, a1, x1))) else (some ((-2 : Int32), M_rows_0, M_nextRows_0, M_square_0, M_next_0))))
abbrev GX8_hold (p : Program) (l : Launch) (e : Env) (s : State) (m : MethodId) (below : List Frame) (meth : Method) (c : Code) (D : va_G) (cI cJ cZ : ClassId) (m0 m1 m2 m3 m4 m5 m6 m7 m8 m9 m10 m11 m12 m13 : Nat) (M_posts : Int32) (M_roads : Int32) (M_size : Int32) (M_rows_0 : Int32) (M_nextRows_0 : Int32) (M_first : Nat → Int32) (M_second : Nat → Int32) (M_number : Nat → Int32) (M_lists : Nat → Int32) (M_square_0 : Nat → Int32) (M_fan : Nat → Int32) (M_trial : Nat → Int32) (M_touching : Nat → Int32) (M_having : Nat → Int32) (M_most : Nat → Int32) (M_only : Nat → Int32) (M_can : Nat → Int32) (M_next_0 : Nat → Int32) (a1 : Int32) (out : Int32 × Int32 × Int32 × (Nat → Int32) × (Nat → Int32)) (H : Heap) (locs : List Loc) (g : JFrame) : Prop := W p l e (headSpec (Cond.code yX8_hold cX8_hold 4 (some .int) :: GW) { frames := 1, cells := 0, slots := 0, locals := 23 }).room s m ([.ref m0, .int a1] : List Value).toArray below meth c H locs 0 0 (MQ below (va_Qi (fun r (_ : Unit) => r = out.1) (BW D (wM cI cJ cZ m0 m1 m2 m3 m4 m5 m6 m7 m8 m9 m10 m11 m12 m13 M_posts M_roads M_size M_rows_0 M_nextRows_0 M_first M_second M_number M_lists M_square_0 M_fan M_trial M_touching M_having M_most M_only M_can M_next_0) s.heap.size (fun _ => (wM cI cJ cZ m0 m1 m2 m3 m4 m5 m6 m7 m8 m9 m10 m11 m12 m13 M_posts M_roads M_size out.2.1 out.2.2.1 M_first M_second M_number M_lists out.2.2.2.1 M_fan M_trial M_touching M_having M_most M_only M_can out.2.2.2.2))) (va_A (wM cI cJ cZ m0 m1 m2 m3 m4 m5 m6 m7 m8 m9 m10 m11 m12 m13 M_posts M_roads M_size M_rows_0 M_nextRows_0 M_first M_second M_number M_lists M_square_0 M_fan M_trial M_touching M_having M_most M_only M_can M_next_0) s.heap.size)) ([.ref m0, .int a1] : List Value).toArray s 0 0 (va_A (wM cI cJ cZ m0 m1 m2 m3 m4 m5 m6 m7 m8 m9 m10 m11 m12 m13 M_posts M_roads M_size M_rows_0 M_nextRows_0 M_first M_second M_number M_lists M_square_0 M_fan M_trial M_touching M_having M_most M_only M_can M_next_0) s.heap.size)) g
theorem kvX8_hold : CalV RX8 yX8_hold cX8_hold 4 (some .int) 1 := ⟨wC_yX8_hold, wM_yX8_hold, wS_yX8_hold, wI_RX8, by decide +kernel⟩
set_option maxHeartbeats 4000000 in
set_option maxRecDepth 100000 in
theorem kX8_hold (l : Launch) (D : va_G) (cI cJ cZ : ClassId) (m0 m1 m2 m3 m4 m5 m6 m7 m8 m9 m10 m11 m12 m13 : Nat) (M_posts : Int32) (M_roads : Int32) (M_size : Int32) (M_rows_0 : Int32) (M_nextRows_0 : Int32) (M_first : Nat → Int32) (M_second : Nat → Int32) (M_number : Nat → Int32) (M_lists : Nat → Int32) (M_square_0 : Nat → Int32) (M_fan : Nat → Int32) (M_trial : Nat → Int32) (M_touching : Nat → Int32) (M_having : Nat → Int32) (M_most : Nat → Int32) (M_only : Nat → Int32) (M_can : Nat → Int32) (M_next_0 : Nat → Int32) (a1 : Int32) (out : Int32 × Int32 × Int32 × (Nat → Int32) × (Nat → Int32)) (hf : FX8_hold M_size M_rows_0 M_nextRows_0 M_square_0 M_next_0 a1 = some out) : MI l yX8_hold (Cond.code yX8_hold cX8_hold 4 (some .int) :: GW) { frames := 1, cells := 0, slots := 0, locals := 23 } D cI cJ cZ [.ref m0, .int a1] (wM cI cJ cZ m0 m1 m2 m3 m4 m5 m6 m7 m8 m9 m10 m11 m12 m13 M_posts M_roads M_size M_rows_0 M_nextRows_0 M_first M_second M_number M_lists M_square_0 M_fan M_trial M_touching M_having M_most M_only M_can M_next_0) (fun r (_ : Unit) => r = out.1) (fun _ => (wM cI cJ cZ m0 m1 m2 m3 m4 m5 m6 m7 m8 m9 m10 m11 m12 m13 M_posts M_roads M_size out.2.1 out.2.2.1 M_first M_second M_number M_lists out.2.2.2.1 M_fan M_trial M_touching M_having M_most M_only M_can out.2.2.2.2)) := by
  intro sz
  refine Met.ofW (cc := cX8_hold) (maxL := 4) (ret := (some .int)) (by decide +kernel) rfl ?_
  intro p e s m args below meth c s₁ B hml hv
  obtain ⟨rfl, hsz, hP, hK, hD0⟩ := hv
  have hx := B.exec
  have hb := B.bytes
  have hr := B.returns
  have hlocks := B.notSynchronized
  have hg : ∀ w ∈ GW, w.before _ s = true := fun w h => atoms_spec (ws := Cond.code yX8_hold cX8_hold 4 (some .int) :: GW) B.pre w (List.mem_cons_of_mem _ h)
  have hown : s.vm.findClass RX8 = some m.cls := findClass_of_methodNamed B.named
  subst hsz
  obtain ⟨A, hAe⟩ : ∃ A, A = va_A (wM cI cJ cZ m0 m1 m2 m3 m4 m5 m6 m7 m8 m9 m10 m11 m12 m13 M_posts M_roads M_size M_rows_0 M_nextRows_0 M_first M_second M_number M_lists M_square_0 M_fan M_trial M_touching M_having M_most M_only M_can M_next_0) s.heap.size := ⟨_, rfl⟩
  have hA : ∀ q : Nat, s.heap.size ≤ q → A q := fun q h => by rw [hAe]; exact Or.inr h
  have hI : WI D A s.heap (wM cI cJ cZ m0 m1 m2 m3 m4 m5 m6 m7 m8 m9 m10 m11 m12 m13 M_posts M_roads M_size M_rows_0 M_nextRows_0 M_first M_second M_number M_lists M_square_0 M_fan M_trial M_touching M_having M_most M_only M_can M_next_0) s.heap [] := ⟨hP, by rw [hAe]; exact hD0.self, va_S.rf⟩
  have hl := lv_entry [.ref m0, .int a1] (n := 4) (Nat.le_of_ble_eq_true rfl)
  rw [lg_entry_eq]
  generalize (lg_sl [.ref m0, .int a1] ++ List.replicate (4 - (lg_sl [.ref m0, .int a1]).length) Slot.unset).toArray = ls at hl ⊢
  replace hl : lv_has ls 4 [(0, .ref m0), (1, .int a1)] := hl
  have J112 : ∀ (M_rows : Int32) (M_nextRows : Int32) (M_square : Nat → Int32) (M_next : Nat → Int32) (x : Int32 × Int32 × Int32 × (Nat → Int32) × (Nat → Int32)), X8_hold_J112 M_size M_rows M_nextRows M_square M_next = some x → (fun z : Int32 × Int32 × Int32 × (Nat → Int32) × (Nat → Int32) => z = out) x → ∀ (H : Heap) (locs : List Loc) (ls : Array Slot), WI D A s.heap (wM cI cJ cZ m0 m1 m2 m3 m4 m5 m6 m7 m8 m9 m10 m11 m12 m13 M_posts M_roads M_size M_rows M_nextRows M_first M_second M_number M_lists M_square M_fan M_trial M_touching M_having M_most M_only M_can M_next) H locs → lv_has ls 4 [(0, .ref m0)] → GX8_hold p l e s m below meth c D cI cJ cZ m0 m1 m2 m3 m4 m5 m6 m7 m8 m9 m10 m11 m12 m13 M_posts M_roads M_size M_rows_0 M_nextRows_0 M_first M_second M_number M_lists M_square_0 M_fan M_trial M_touching M_having M_most M_only M_can M_next_0 a1 out H locs (F0 m 112 ls []) := by
    intro M_rows M_nextRows M_square M_next x hf hM H locs ls hI hl
    refine lv_aload_n hx hb dX8_hold_112 rfl (lv_at hl 0 rfl) ?_
    obtain ⟨o2, ho2, hf⟩ := bd_e hf
    refine w_Vv0 (wc := (wM cI cJ cZ m0 m1 m2 m3 m4 m5 m6 m7 m8 m9 m10 m11 m12 m13 M_posts M_roads M_size M_rows M_nextRows M_first M_second M_number M_lists M_square M_fan M_trial M_touching M_having M_most M_only M_can M_next)) (wr := []) (rest := []) hx hb hml hg hown hK hA hI (kX8_stands l D cI cJ cZ m0 m1 m2 m3 m4 m5 m6 m7 m8 m9 m10 m11 m12 m13 M_posts M_roads M_size M_rows M_nextRows M_first M_second M_number M_lists M_square M_fan M_trial M_touching M_having M_most M_only M_can M_next  o2 ho2) kvX8_stands wL_RX8_168 ⟨Nat.le_of_ble_eq_true rfl, Nat.le_of_ble_eq_true rfl⟩ rfl rfl [0, 1, 2, 3, 4, 5, 6, 7, 8, 9, 10, 11, 12, 13] [] rfl rfl rfl rfl (by decide) rfl rfl hl.1 (Nat.le_of_ble_eq_true rfl) dX8_hold_113 ⟨Nat.zero_le _, Nat.zero_le _⟩ ⟨rfl, rfl⟩ (fun  u H locs hp hI => ?_)
    replace hI : WI D A s.heap (wM cI cJ cZ m0 m1 m2 m3 m4 m5 m6 m7 m8 m9 m10 m11 m12 m13 M_posts M_roads M_size o2.1 o2.2.1 M_first M_second M_number M_lists o2.2.2 M_fan M_trial M_touching M_having M_most M_only M_can M_next) H locs := hI
    refine lv_aload_n hx hb dX8_hold_116 rfl (lv_at hl 0 rfl) ?_
    refine w_get hx hb hg hown hK hI iX8 0 rfl rfl 7 (by decide) wF_RX8_162 rfl dX8_hold_117 ?_
    replace hf := Option.some.inj hf
    subst hf
    replace hM : (o2.1, o2.1, o2.2.1, o2.2.2, M_next) = out := hM
    subst hM
    exact rt_i (u := ()) hx hb hr hlocks rfl hI hAe rfl dX8_hold_120
  have L68 : ∀ (M_rows : Int32) (M_nextRows : Int32) (M_square : Nat → Int32) (M_next : Nat → Int32), ∀ (v : Int32) (x : Int32 × Int32 × Int32 × (Nat → Int32) × (Nat → Int32)), loopO (X8_hold_L68 M_size M_rows M_nextRows M_square M_next) v = some x → (fun z : Int32 × Int32 × Int32 × (Nat → Int32) × (Nat → Int32) => z = out) x → (fun (v : Int32) => ∀ (H : Heap) (locs : List Loc) (ls : Array Slot), WI D A s.heap (wM cI cJ cZ m0 m1 m2 m3 m4 m5 m6 m7 m8 m9 m10 m11 m12 m13 M_posts M_roads M_size M_rows M_nextRows M_first M_second M_number M_lists M_square M_fan M_trial M_touching M_having M_most M_only M_can M_next) H locs → lv_has ls 4 [(0, .ref m0), (3, .int v)] → GX8_hold p l e s m below meth c D cI cJ cZ m0 m1 m2 m3 m4 m5 m6 m7 m8 m9 m10 m11 m12 m13 M_posts M_roads M_size M_rows_0 M_nextRows_0 M_first M_second M_number M_lists M_square_0 M_fan M_trial M_touching M_having M_most M_only M_can M_next_0 a1 out H locs (F0 m 68 ls [])) v := by
    intro M_rows M_nextRows M_square M_next
    refine loopO_ind (fun (v : Int32) => ∀ (H : Heap) (locs : List Loc) (ls : Array Slot), WI D A s.heap (wM cI cJ cZ m0 m1 m2 m3 m4 m5 m6 m7 m8 m9 m10 m11 m12 m13 M_posts M_roads M_size M_rows M_nextRows M_first M_second M_number M_lists M_square M_fan M_trial M_touching M_having M_most M_only M_can M_next) H locs → lv_has ls 4 [(0, .ref m0), (3, .int v)] → GX8_hold p l e s m below meth c D cI cJ cZ m0 m1 m2 m3 m4 m5 m6 m7 m8 m9 m10 m11 m12 m13 M_posts M_roads M_size M_rows_0 M_nextRows_0 M_first M_second M_number M_lists M_square_0 M_fan M_trial M_touching M_having M_most M_only M_can M_next_0 a1 out H locs (F0 m 68 ls [])) (fun z : Int32 × Int32 × Int32 × (Nat → Int32) × (Nat → Int32) => z = out) ?_
    intro v x hf hM H locs ls hI hl
    refine lv_iload_n hx hb dX8_hold_68 rfl (lv_at hl 1 rfl) ?_
    refine lv_aload_n hx hb dX8_hold_69 rfl (lv_at hl 0 rfl) ?_
    refine w_get hx hb hg hown hK hI iX8 0 rfl rfl 6 (by decide) wF_RX8_22 rfl dX8_hold_70 ?_
    refine lv_icmp_ge (tgt := 112) hx hb dX8_hold_73 (by decide) (fun hc => ?_) (fun hc => ?_)
    · replace hf := ite_t hc hf
      obtain ⟨z, hf2, ez⟩ := mp_e hf
      clear hf
      subst ez
      exact J112 M_rows M_nextRows M_square M_next _ hf2 hM _ _ _ hI (lv_sub hl [0] rfl)
    · replace hf := ite_f hc hf
      refine lv_aload_n hx hb dX8_hold_76 rfl (lv_at hl 0 rfl) ?_
      refine w_get hx hb hg hown hK hI iX8 0 rfl rfl 17 (by decide) wF_RX8_54 rfl dX8_hold_77 ?_
      refine lv_iload_n hx hb dX8_hold_80 rfl (lv_at hl 1 rfl) ?_
      obtain ⟨hin, hf⟩ := rd_e hf
      refine w_iald hx hb hK hI 13 rfl hin dX8_hold_81 (fun x3 ex3 => ?_)
      replace hf := hf x3 ex3
      refine lv_aload_n hx hb dX8_hold_82 rfl (lv_at hl 0 rfl) ?_
      refine w_get hx hb hg hown hK hI iX8 0 rfl rfl 6 (by decide) wF_RX8_22 rfl dX8_hold_83 ?_
      refine lv_icmp_ge (tgt := 103) hx hb dX8_hold_86 (by decide) (fun hc => ?_) (fun hc => ?_)
      · replace hf := ite_t hc hf
        refine lv_bipush (v := -2) hx hb dX8_hold_103 (by decide) ?_
        replace hf := Option.some.inj hf
        subst hf
        replace hM : ((-2 : Int32), M_rows, M_nextRows, M_square, M_next) = out := hM
        subst hM
        exact rt_i (u := ()) hx hb hr hlocks rfl hI hAe rfl dX8_hold_105
      · replace hf := ite_f hc hf
        refine lv_aload_n hx hb dX8_hold_89 rfl (lv_at hl 0 rfl) ?_
        refine lv_iload_n hx hb dX8_hold_90 rfl (lv_at hl 1 rfl) ?_
        refine lv_aload_n hx hb dX8_hold_91 rfl (lv_at hl 0 rfl) ?_
        refine w_get hx hb hg hown hK hI iX8 0 rfl rfl 17 (by decide) wF_RX8_54 rfl dX8_hold_92 ?_
        refine lv_iload_n hx hb dX8_hold_95 rfl (lv_at hl 1 rfl) ?_
        obtain ⟨hin, hf⟩ := rd_e hf
        refine w_iald hx hb hK hI 13 rfl hin dX8_hold_96 (fun x4 ex4 => ?_)
        replace hf := hf x4 ex4
        obtain ⟨o5, ho5, hf⟩ := bd_e hf
        refine w_Vi0 (wc := (wM cI cJ cZ m0 m1 m2 m3 m4 m5 m6 m7 m8 m9 m10 m11 m12 m13 M_posts M_roads M_size M_rows M_nextRows M_first M_second M_number M_lists M_square M_fan M_trial M_touching M_having M_most M_only M_can M_next)) (wr := []) (rest := []) hx hb hml hg hown hK hA hI (kX8_mayStand l D cI cJ cZ m0 m1 m2 m3 m4 m5 m6 m7 m8 m9 m10 m11 m12 m13 M_posts M_roads M_size M_rows M_nextRows M_first M_second M_number M_lists M_square M_fan M_trial M_touching M_having M_most M_only M_can M_next v x4 o5 ho5) kvX8_mayStand wL_RX8_165 ⟨Nat.le_of_ble_eq_true rfl, Nat.le_of_ble_eq_true rfl⟩ rfl rfl [0, 1, 2, 3, 4, 5, 6, 7, 8, 9, 10, 11, 12, 13] [] rfl rfl rfl rfl (by decide) rfl rfl hl.1 (Nat.le_of_ble_eq_true rfl) dX8_hold_97 ⟨Nat.zero_le _, Nat.zero_le _⟩ ⟨rfl, rfl⟩ (fun r u H locs hp hI => ?_)
        replace hp : r = o5 := hp
        rw [hp]
        clear hp
        replace hI : WI D A s.heap (wM cI cJ cZ m0 m1 m2 m3 m4 m5 m6 m7 m8 m9 m10 m11 m12 m13 M_posts M_roads M_size M_rows M_nextRows M_first M_second M_number M_lists M_square M_fan M_trial M_touching M_having M_most M_only M_can M_next) H locs := hI
        refine lv_if_ne (tgt := 106) hx hb dX8_hold_100 (by decide) (fun hc => ?_) (fun hc => ?_)
        · replace hf := ite_f hc hf
          obtain ⟨x6, ex6⟩ : ∃ y : Int32, y = (v + (1 : Int32)) := ⟨_, rfl⟩
          replace hf := bnd_e hf x6 ex6
          refine lv_iinc (v := x6) (lv' := [(3, .int x6), (0, .ref m0)]) hx hb dX8_hold_106 hl (k := 1) rfl (by rw [ex6]; rfl) (by decide) rfl (fun ls hl => ?_)
          refine lv_goto (tgt := 68) hx hb dX8_hold_109 (by decide) ?_
          replace hf := Option.some.inj hf
          subst hf
          exact hM _ _ _ hI (lv_sub hl [1, 0] rfl)
        · replace hf := ite_t hc hf
          refine lv_bipush (v := -2) hx hb dX8_hold_103 (by decide) ?_
          replace hf := Option.some.inj hf
          subst hf
          replace hM : ((-2 : Int32), M_rows, M_nextRows, M_square, M_next) = out := hM
          subst hM
          exact rt_i (u := ()) hx hb hr hlocks rfl hI hAe rfl dX8_hold_105
  have J59 : ∀ (M_rows : Int32) (M_nextRows : Int32) (M_square : Nat → Int32) (M_next : Nat → Int32) (l2 : Int32) (x : Int32 × Int32 × Int32 × (Nat → Int32) × (Nat → Int32)), X8_hold_J59 M_size M_rows M_nextRows M_square M_next l2 = some x → (fun z : Int32 × Int32 × Int32 × (Nat → Int32) × (Nat → Int32) => z = out) x → ∀ (H : Heap) (locs : List Loc) (ls : Array Slot), WI D A s.heap (wM cI cJ cZ m0 m1 m2 m3 m4 m5 m6 m7 m8 m9 m10 m11 m12 m13 M_posts M_roads M_size M_rows M_nextRows M_first M_second M_number M_lists M_square M_fan M_trial M_touching M_having M_most M_only M_can M_next) H locs → lv_has ls 4 [(0, .ref m0), (2, .int l2)] → GX8_hold p l e s m below meth c D cI cJ cZ m0 m1 m2 m3 m4 m5 m6 m7 m8 m9 m10 m11 m12 m13 M_posts M_roads M_size M_rows_0 M_nextRows_0 M_first M_second M_number M_lists M_square_0 M_fan M_trial M_touching M_having M_most M_only M_can M_next_0 a1 out H locs (F0 m 59 ls []) := by
    intro M_rows M_nextRows M_square M_next l2 x hf hM H locs ls hI hl
    refine lv_iload_n hx hb dX8_hold_59 rfl (lv_at hl 1 rfl) ?_
    refine lv_if_eq (tgt := 66) hx hb dX8_hold_60 (by decide) (fun hc => ?_) (fun hc => ?_)
    · replace hf := ite_t hc hf
      refine lv_iconst (v := 0) hx hb dX8_hold_66 (by decide) ?_
      refine lv_istore_n (lv' := [(3, .int (0 : Int32)), (0, .ref m0), (2, .int l2)]) hx hb dX8_hold_67 rfl hl (by decide) rfl (fun ls hl => ?_)
      exact L68 M_rows M_nextRows M_square M_next (0 : Int32) _ hf hM _ _ _ hI (lv_sub hl [1, 0] rfl)
    · replace hf := ite_f hc hf
      refine lv_bipush (v := -2) hx hb dX8_hold_63 (by decide) ?_
      replace hf := Option.some.inj hf
      subst hf
      replace hM : ((-2 : Int32), M_rows, M_nextRows, M_square, M_next) = out := hM
      subst hM
      exact rt_i (u := ()) hx hb hr hlocks rfl hI hAe rfl dX8_hold_65
  have L34 : ∀ (M_rows : Int32) (M_nextRows : Int32) (M_square : Nat → Int32), ∀ (v : (Nat → Int32) × Int32 × Int32) (x : Int32 × Int32 × Int32 × (Nat → Int32) × (Nat → Int32)), loopO (X8_hold_L34 M_size M_rows M_nextRows M_square) v = some x → (fun z : Int32 × Int32 × Int32 × (Nat → Int32) × (Nat → Int32) => z = out) x → (fun (v : (Nat → Int32) × Int32 × Int32) => ∀ (H : Heap) (locs : List Loc) (ls : Array Slot), WI D A s.heap (wM cI cJ cZ m0 m1 m2 m3 m4 m5 m6 m7 m8 m9 m10 m11 m12 m13 M_posts M_roads M_size M_rows M_nextRows M_first M_second M_number M_lists M_square M_fan M_trial M_touching M_having M_most M_only M_can v.1) H locs → lv_has ls 4 [(0, .ref m0), (2, .int v.2.1), (3, .int v.2.2)] → GX8_hold p l e s m below meth c D cI cJ cZ m0 m1 m2 m3 m4 m5 m6 m7 m8 m9 m10 m11 m12 m13 M_posts M_roads M_size M_rows_0 M_nextRows_0 M_first M_second M_number M_lists M_square_0 M_fan M_trial M_touching M_having M_most M_only M_can M_next_0 a1 out H locs (F0 m 34 ls [])) v := by
    intro M_rows M_nextRows M_square
    refine loopO_ind (fun (v : (Nat → Int32) × Int32 × Int32) => ∀ (H : Heap) (locs : List Loc) (ls : Array Slot), WI D A s.heap (wM cI cJ cZ m0 m1 m2 m3 m4 m5 m6 m7 m8 m9 m10 m11 m12 m13 M_posts M_roads M_size M_rows M_nextRows M_first M_second M_number M_lists M_square M_fan M_trial M_touching M_having M_most M_only M_can v.1) H locs → lv_has ls 4 [(0, .ref m0), (2, .int v.2.1), (3, .int v.2.2)] → GX8_hold p l e s m below meth c D cI cJ cZ m0 m1 m2 m3 m4 m5 m6 m7 m8 m9 m10 m11 m12 m13 M_posts M_roads M_size M_rows_0 M_nextRows_0 M_first M_second M_number M_lists M_square_0 M_fan M_trial M_touching M_having M_most M_only M_can M_next_0 a1 out H locs (F0 m 34 ls [])) (fun z : Int32 × Int32 × Int32 × (Nat → Int32) × (Nat → Int32) => z = out) ?_
    intro v x hf hM H locs ls hI hl
    refine lv_iload_n hx hb dX8_hold_34 rfl (lv_at hl 2 rfl) ?_
    refine lv_if_lt (tgt := 59) hx hb dX8_hold_35 (by decide) (fun hc => ?_) (fun hc => ?_)
    · replace hf := ite_t hc hf
      obtain ⟨z, hf2, ez⟩ := mp_e hf
      clear hf
      subst ez
      exact J59 M_rows M_nextRows M_square v.1 v.2.1 _ hf2 hM _ _ _ hI (lv_sub hl [0, 1] rfl)
    · replace hf := ite_f hc hf
      refine lv_aload_n hx hb dX8_hold_38 rfl (lv_at hl 0 rfl) ?_
      refine w_get hx hb hg hown hK hI iX8 0 rfl rfl 17 (by decide) wF_RX8_54 rfl dX8_hold_39 ?_
      refine lv_iload_n hx hb dX8_hold_42 rfl (lv_at hl 2 rfl) ?_
      refine lv_iload_n hx hb dX8_hold_43 rfl (lv_at hl 1 rfl) ?_
      refine lv_bipush (v := 10) hx hb dX8_hold_44 (by decide) ?_
      obtain ⟨hne, hf⟩ := rm_e hf
      refine lv_irem hx hb dX8_hold_46 hne ?_
      refine lv_topi (fun x7 ex7 => ?_)
      replace hf := hf x7 ex7
      obtain ⟨hin, hf⟩ := wr_e hf
      obtain ⟨g8, eg8⟩ : ∃ g : Nat → Int32, g = upd v.1 (v.2.2).toNatClampNeg x7 := ⟨_, rfl⟩
      replace hf := hf g8 eg8
      refine w_iast (g := g8) (W1 := (wM cI cJ cZ m0 m1 m2 m3 m4 m5 m6 m7 m8 m9 m10 m11 m12 m13 M_posts M_roads M_size M_rows M_nextRows M_first M_second M_number M_lists M_square M_fan M_trial M_touching M_having M_most M_only M_can g8)) hx hb hK hI 13 rfl hin eg8 dX8_hold_47 rfl (fun H locs hI => ?_)
      refine lv_iload_n hx hb dX8_hold_48 rfl (lv_at hl 1 rfl) ?_
      refine lv_bipush (v := 10) hx hb dX8_hold_49 (by decide) ?_
      obtain ⟨hne, hf⟩ := dv_e hf
      refine lv_idiv hx hb dX8_hold_51 hne ?_
      refine lv_topi (fun x9 ex9 => ?_)
      replace hf := hf x9 ex9
      refine lv_istore_n (lv' := [(2, .int x9), (0, .ref m0), (3, .int v.2.2)]) hx hb dX8_hold_52 rfl hl (by decide) rfl (fun ls hl => ?_)
      obtain ⟨x10, ex10⟩ : ∃ y : Int32, y = (v.2.2 + (-1 : Int32)) := ⟨_, rfl⟩
      replace hf := bnd_e hf x10 ex10
      refine lv_iinc (v := x10) (lv' := [(3, .int x10), (2, .int x9), (0, .ref m0)]) hx hb dX8_hold_53 hl (k := 2) rfl (by rw [ex10]; rfl) (by decide) rfl (fun ls hl => ?_)
      refine lv_goto (tgt := 34) hx hb dX8_hold_56 (by decide) ?_
      replace hf := Option.some.inj hf
      subst hf
      exact hM _ _ _ hI (lv_sub hl [2, 1, 0] rfl)
  obtain ⟨x, hf, hM⟩ : ∃ x, FX8_hold M_size M_rows_0 M_nextRows_0 M_square_0 M_next_0 a1 = some x ∧ x = out := ⟨out, hf, rfl⟩
  refine lv_aload_n hx hb dX8_hold_0 rfl (lv_at hl 0 rfl) ?_
  refine w_get hx hb hg hown hK hI iX8 0 rfl rfl 6 (by decide) wF_RX8_22 rfl dX8_hold_1 ?_
  refine lv_if_lt (tgt := 22) hx hb dX8_hold_4 (by decide) (fun hc => ?_) (fun hc => ?_)
  · replace hf := ite_t hc hf
    refine lv_bipush (v := -2) hx hb dX8_hold_22 (by decide) ?_
    replace hf := Option.some.inj hf
    subst hf
    replace hM : ((-2 : Int32), M_rows_0, M_nextRows_0, M_square_0, M_next_0) = out := hM
    subst hM
    exact rt_i (u := ()) hx hb hr hlocks rfl hI hAe rfl dX8_hold_24
  · replace hf := ite_f hc hf
    refine lv_aload_n hx hb dX8_hold_7 rfl (lv_at hl 0 rfl) ?_
    refine w_get hx hb hg hown hK hI iX8 0 rfl rfl 7 (by decide) wF_RX8_162 rfl dX8_hold_8 ?_
    refine lv_aload_n hx hb dX8_hold_11 rfl (lv_at hl 0 rfl) ?_
    refine w_get hx hb hg hown hK hI iX8 0 rfl rfl 6 (by decide) wF_RX8_22 rfl dX8_hold_12 ?_
    refine lv_icmp_eq (tgt := 22) hx hb dX8_hold_15 (by decide) (fun hc => ?_) (fun hc => ?_)
    · replace hf := ite_t hc hf
      refine lv_bipush (v := -2) hx hb dX8_hold_22 (by decide) ?_
      replace hf := Option.some.inj hf
      subst hf
      replace hM : ((-2 : Int32), M_rows_0, M_nextRows_0, M_square_0, M_next_0) = out := hM
      subst hM
      exact rt_i (u := ()) hx hb hr hlocks rfl hI hAe rfl dX8_hold_24
    · replace hf := ite_f hc hf
      refine lv_iload_n hx hb dX8_hold_18 rfl (lv_at hl 1 rfl) ?_
      refine lv_if_ge (tgt := 25) hx hb dX8_hold_19 (by decide) (fun hc => ?_) (fun hc => ?_)
      · replace hf := ite_t hc hf
        refine lv_iload_n hx hb dX8_hold_25 rfl (lv_at hl 1 rfl) ?_
        refine lv_istore_n (lv' := [(2, .int a1), (0, .ref m0), (1, .int a1)]) hx hb dX8_hold_26 rfl hl (by decide) rfl (fun ls hl => ?_)
        refine lv_aload_n hx hb dX8_hold_27 rfl (lv_at hl 1 rfl) ?_
        refine w_get hx hb hg hown hK hI iX8 0 rfl rfl 6 (by decide) wF_RX8_22 rfl dX8_hold_28 ?_
        refine lv_iconst (v := 1) hx hb dX8_hold_31 (by decide) ?_
        refine lv_isub hx hb dX8_hold_32 ?_
        refine lv_topi (fun x1 ex1 => ?_)
        replace hf := bnd_e hf x1 ex1
        refine lv_istore_n (lv' := [(3, .int x1), (2, .int a1), (0, .ref m0), (1, .int a1)]) hx hb dX8_hold_33 rfl hl (by decide) rfl (fun ls hl => ?_)
        exact L34 M_rows_0 M_nextRows_0 M_square_0 (M_next_0, a1, x1) _ hf hM _ _ _ hI (lv_sub hl [2, 1, 0] rfl)
      · replace hf := ite_f hc hf
        refine lv_bipush (v := -2) hx hb dX8_hold_22 (by decide) ?_
        replace hf := Option.some.inj hf
        subst hf
        replace hM : ((-2 : Int32), M_rows_0, M_nextRows_0, M_square_0, M_next_0) = out := hM
        subst hM
        exact rt_i (u := ()) hx hb hr hlocks rfl hI hAe rfl dX8_hold_24
noncomputable def X8_found_J50 (M_size : Int32) (M_rows : Int32) (M_square : Nat → Int32) (M_next : Nat → Int32) (l1 : Int32) (l2 : Int32) (l3 : Int32) (l4 : Int32) : Option (((Nat → Int32) × Int32 × Int32) ⊕ (Int32 × (Nat → Int32))) :=
  if l4 = M_size then (bnd (l3 + (-1 : Int32)) (fun x8 => some (.inl (M_next, l2, x8)))) else (wr M_next 9 l3 l4 (fun g4 => if (M_size - (1 : Int32)) ≤ l3 then (bnd (l2 + (1 : Int32)) (fun x5 => if x5 = l1 then (some (.inr (x5, g4))) else (some (.inl (g4, x5, l3))))) else (bnd (l3 + (1 : Int32)) (fun x6 => wr g4 9 x6 (-1 : Int32) (fun g7 => some (.inl (g7, l2, x6)))))))
noncomputable def X8_found_L25 (M_size : Int32) (M_rows : Int32) (M_square : Nat → Int32) (M_next : Nat → Int32) (l1 : Int32) (l2 : Int32) (l3 : Int32) (v : Int32) : Option ((Int32) ⊕ (((Nat → Int32) × Int32 × Int32) ⊕ (Int32 × (Nat → Int32)))) :=
  if M_size ≤ v then ((X8_found_J50 M_size M_rows M_square M_next l1 l2 l3 v).map (fun z => (.inr z))) else ((FX8_mayStand M_rows M_square M_next l3 v).bind (fun o9 => if o9 = (0 : Int32) then (bnd (v + (1 : Int32)) (fun x10 => some (.inl x10))) else ((X8_found_J50 M_size M_rows M_square M_next l1 l2 l3 v).map (fun z => (.inr z)))))
noncomputable def X8_found_L11 (M_size : Int32) (M_rows : Int32) (M_square : Nat → Int32) (l1 : Int32) (v : (Nat → Int32) × Int32 × Int32) : Option (((Nat → Int32) × Int32 × Int32) ⊕ (Int32 × (Nat → Int32))) :=
  if v.2.2 < (0 : Int32) then (some (.inr (v.2.1, v.1))) else (rd v.1 9 v.2.2 (fun x2 => bnd (x2 + (1 : Int32)) (fun x3 => loopO (X8_found_L25 M_size M_rows M_square v.1 l1 v.2.1 v.2.2) x3)))
noncomputable def FX8_found (M_size : Int32) (M_rows : Int32) (M_square : Nat → Int32) (M_next_0 : Nat → Int32) (a1 : Int32) : Option (Int32 × (Nat → Int32)) :=
  wr M_next_0 9 (0 : Int32) (-1 : Int32) (fun g1 => loopO (X8_found_L11 M_size M_rows M_square a1) (g1, (0 : Int32), (0 : Int32)))
abbrev GX8_found (p : Program) (l : Launch) (e : Env) (s : State) (m : MethodId) (below : List Frame) (meth : Method) (c : Code) (D : va_G) (cI cJ cZ : ClassId) (m0 m1 m2 m3 m4 m5 m6 m7 m8 m9 m10 m11 m12 m13 : Nat) (M_posts : Int32) (M_roads : Int32) (M_size : Int32) (M_rows : Int32) (M_nextRows : Int32) (M_first : Nat → Int32) (M_second : Nat → Int32) (M_number : Nat → Int32) (M_lists : Nat → Int32) (M_square : Nat → Int32) (M_fan : Nat → Int32) (M_trial : Nat → Int32) (M_touching : Nat → Int32) (M_having : Nat → Int32) (M_most : Nat → Int32) (M_only : Nat → Int32) (M_can : Nat → Int32) (M_next_0 : Nat → Int32) (a1 : Int32) (out : Int32 × (Nat → Int32)) (H : Heap) (locs : List Loc) (g : JFrame) : Prop := W p l e (headSpec (Cond.code yX8_found cX8_found 5 (some .int) :: GW) { frames := 1, cells := 0, slots := 0, locals := 23 }).room s m ([.ref m0, .int a1] : List Value).toArray below meth c H locs 0 0 (MQ below (va_Qi (fun r (_ : Unit) => r = out.1) (BW D (wM cI cJ cZ m0 m1 m2 m3 m4 m5 m6 m7 m8 m9 m10 m11 m12 m13 M_posts M_roads M_size M_rows M_nextRows M_first M_second M_number M_lists M_square M_fan M_trial M_touching M_having M_most M_only M_can M_next_0) s.heap.size (fun _ => (wM cI cJ cZ m0 m1 m2 m3 m4 m5 m6 m7 m8 m9 m10 m11 m12 m13 M_posts M_roads M_size M_rows M_nextRows M_first M_second M_number M_lists M_square M_fan M_trial M_touching M_having M_most M_only M_can out.2))) (va_A (wM cI cJ cZ m0 m1 m2 m3 m4 m5 m6 m7 m8 m9 m10 m11 m12 m13 M_posts M_roads M_size M_rows M_nextRows M_first M_second M_number M_lists M_square M_fan M_trial M_touching M_having M_most M_only M_can M_next_0) s.heap.size)) ([.ref m0, .int a1] : List Value).toArray s 0 0 (va_A (wM cI cJ cZ m0 m1 m2 m3 m4 m5 m6 m7 m8 m9 m10 m11 m12 m13 M_posts M_roads M_size M_rows M_nextRows M_first M_second M_number M_lists M_square M_fan M_trial M_touching M_having M_most M_only M_can M_next_0) s.heap.size)) g
theorem kvX8_found : CalV RX8 yX8_found cX8_found 5 (some .int) 1 := ⟨wC_yX8_found, wM_yX8_found, wS_yX8_found, wI_RX8, by decide +kernel⟩
set_option maxHeartbeats 4000000 in
set_option maxRecDepth 100000 in
theorem kX8_found (l : Launch) (D : va_G) (cI cJ cZ : ClassId) (m0 m1 m2 m3 m4 m5 m6 m7 m8 m9 m10 m11 m12 m13 : Nat) (M_posts : Int32) (M_roads : Int32) (M_size : Int32) (M_rows : Int32) (M_nextRows : Int32) (M_first : Nat → Int32) (M_second : Nat → Int32) (M_number : Nat → Int32) (M_lists : Nat → Int32) (M_square : Nat → Int32) (M_fan : Nat → Int32) (M_trial : Nat → Int32) (M_touching : Nat → Int32) (M_having : Nat → Int32) (M_most : Nat → Int32) (M_only : Nat → Int32) (M_can : Nat → Int32) (M_next_0 : Nat → Int32) (a1 : Int32) (out : Int32 × (Nat → Int32)) (hf : FX8_found M_size M_rows M_square M_next_0 a1 = some out) : MI l yX8_found (Cond.code yX8_found cX8_found 5 (some .int) :: GW) { frames := 1, cells := 0, slots := 0, locals := 23 } D cI cJ cZ [.ref m0, .int a1] (wM cI cJ cZ m0 m1 m2 m3 m4 m5 m6 m7 m8 m9 m10 m11 m12 m13 M_posts M_roads M_size M_rows M_nextRows M_first M_second M_number M_lists M_square M_fan M_trial M_touching M_having M_most M_only M_can M_next_0) (fun r (_ : Unit) => r = out.1) (fun _ => (wM cI cJ cZ m0 m1 m2 m3 m4 m5 m6 m7 m8 m9 m10 m11 m12 m13 M_posts M_roads M_size M_rows M_nextRows M_first M_second M_number M_lists M_square M_fan M_trial M_touching M_having M_most M_only M_can out.2)) := by
  intro sz
  refine Met.ofW (cc := cX8_found) (maxL := 5) (ret := (some .int)) (by decide +kernel) rfl ?_
  intro p e s m args below meth c s₁ B hml hv
  obtain ⟨rfl, hsz, hP, hK, hD0⟩ := hv
  have hx := B.exec
  have hb := B.bytes
  have hr := B.returns
  have hlocks := B.notSynchronized
  have hg : ∀ w ∈ GW, w.before _ s = true := fun w h => atoms_spec (ws := Cond.code yX8_found cX8_found 5 (some .int) :: GW) B.pre w (List.mem_cons_of_mem _ h)
  have hown : s.vm.findClass RX8 = some m.cls := findClass_of_methodNamed B.named
  subst hsz
  obtain ⟨A, hAe⟩ : ∃ A, A = va_A (wM cI cJ cZ m0 m1 m2 m3 m4 m5 m6 m7 m8 m9 m10 m11 m12 m13 M_posts M_roads M_size M_rows M_nextRows M_first M_second M_number M_lists M_square M_fan M_trial M_touching M_having M_most M_only M_can M_next_0) s.heap.size := ⟨_, rfl⟩
  have hA : ∀ q : Nat, s.heap.size ≤ q → A q := fun q h => by rw [hAe]; exact Or.inr h
  have hI : WI D A s.heap (wM cI cJ cZ m0 m1 m2 m3 m4 m5 m6 m7 m8 m9 m10 m11 m12 m13 M_posts M_roads M_size M_rows M_nextRows M_first M_second M_number M_lists M_square M_fan M_trial M_touching M_having M_most M_only M_can M_next_0) s.heap [] := ⟨hP, by rw [hAe]; exact hD0.self, va_S.rf⟩
  have hl := lv_entry [.ref m0, .int a1] (n := 5) (Nat.le_of_ble_eq_true rfl)
  rw [lg_entry_eq]
  generalize (lg_sl [.ref m0, .int a1] ++ List.replicate (5 - (lg_sl [.ref m0, .int a1]).length) Slot.unset).toArray = ls at hl ⊢
  replace hl : lv_has ls 5 [(0, .ref m0), (1, .int a1)] := hl
  have J50 : ∀ (M_next : Nat → Int32) (l1 : Int32) (l2 : Int32) (l3 : Int32) (l4 : Int32) (x : ((Nat → Int32) × Int32 × Int32) ⊕ (Int32 × (Nat → Int32))), X8_found_J50 M_size M_rows M_square M_next l1 l2 l3 l4 = some x → (fun z => Sum.elim (fun (v1 : (Nat → Int32) × Int32 × Int32) => ∀ (H : Heap) (locs : List Loc) (ls : Array Slot), WI D A s.heap (wM cI cJ cZ m0 m1 m2 m3 m4 m5 m6 m7 m8 m9 m10 m11 m12 m13 M_posts M_roads M_size M_rows M_nextRows M_first M_second M_number M_lists M_square M_fan M_trial M_touching M_having M_most M_only M_can v1.1) H locs → lv_has ls 5 [(0, .ref m0), (1, .int l1), (2, .int v1.2.1), (3, .int v1.2.2)] → GX8_found p l e s m below meth c D cI cJ cZ m0 m1 m2 m3 m4 m5 m6 m7 m8 m9 m10 m11 m12 m13 M_posts M_roads M_size M_rows M_nextRows M_first M_second M_number M_lists M_square M_fan M_trial M_touching M_having M_most M_only M_can M_next_0 a1 out H locs (F0 m 11 ls [])) (fun z : Int32 × (Nat → Int32) => z = out) z) x → ∀ (H : Heap) (locs : List Loc) (ls : Array Slot), WI D A s.heap (wM cI cJ cZ m0 m1 m2 m3 m4 m5 m6 m7 m8 m9 m10 m11 m12 m13 M_posts M_roads M_size M_rows M_nextRows M_first M_second M_number M_lists M_square M_fan M_trial M_touching M_having M_most M_only M_can M_next) H locs → lv_has ls 5 [(0, .ref m0), (1, .int l1), (2, .int l2), (3, .int l3), (4, .int l4)] → GX8_found p l e s m below meth c D cI cJ cZ m0 m1 m2 m3 m4 m5 m6 m7 m8 m9 m10 m11 m12 m13 M_posts M_roads M_size M_rows M_nextRows M_first M_second M_number M_lists M_square M_fan M_trial M_touching M_having M_most M_only M_can M_next_0 a1 out H locs (F0 m 50 ls []) := by
    intro M_next l1 l2 l3 l4 x hf hM H locs ls hI hl
    refine lv_iload hx hb dX8_found_50 (lv_at hl 4 rfl) ?_
    refine lv_aload_n hx hb dX8_found_52 rfl (lv_at hl 0 rfl) ?_
    refine w_get hx hb hg hown hK hI iX8 0 rfl rfl 6 (by decide) wF_RX8_22 rfl dX8_found_53 ?_
    refine lv_icmp_ne (tgt := 65) hx hb dX8_found_56 (by decide) (fun hc => ?_) (fun hc => ?_)
    · replace hf := ite_f hc hf
      refine lv_aload_n hx hb dX8_found_65 rfl (lv_at hl 0 rfl) ?_
      refine w_get hx hb hg hown hK hI iX8 0 rfl rfl 17 (by decide) wF_RX8_54 rfl dX8_found_66 ?_
      refine lv_iload_n hx hb dX8_found_69 rfl (lv_at hl 3 rfl) ?_
      refine lv_iload hx hb dX8_found_70 (lv_at hl 4 rfl) ?_
      obtain ⟨hin, hf⟩ := wr_e hf
      obtain ⟨g4, eg4⟩ : ∃ g : Nat → Int32, g = upd M_next (l3).toNatClampNeg l4 := ⟨_, rfl⟩
      replace hf := hf g4 eg4
      refine w_iast (g := g4) (W1 := (wM cI cJ cZ m0 m1 m2 m3 m4 m5 m6 m7 m8 m9 m10 m11 m12 m13 M_posts M_roads M_size M_rows M_nextRows M_first M_second M_number M_lists M_square M_fan M_trial M_touching M_having M_most M_only M_can g4)) hx hb hK hI 13 rfl hin eg4 dX8_found_72 rfl (fun H locs hI => ?_)
      refine lv_iload_n hx hb dX8_found_73 rfl (lv_at hl 3 rfl) ?_
      refine lv_aload_n hx hb dX8_found_74 rfl (lv_at hl 0 rfl) ?_
      refine w_get hx hb hg hown hK hI iX8 0 rfl rfl 6 (by decide) wF_RX8_22 rfl dX8_found_75 ?_
      refine lv_iconst (v := 1) hx hb dX8_found_78 (by decide) ?_
      refine lv_isub hx hb dX8_found_79 ?_
      refine lv_icmp_ge (tgt := 96) hx hb dX8_found_80 (by decide) (fun hc => ?_) (fun hc => ?_)
      · replace hf := ite_t hc hf
        obtain ⟨x5, ex5⟩ : ∃ y : Int32, y = (l2 + (1 : Int32)) := ⟨_, rfl⟩
        replace hf := bnd_e hf x5 ex5
        refine lv_iinc (v := x5) (lv' := [(2, .int x5), (0, .ref m0), (1, .int l1), (3, .int l3), (4, .int l4)]) hx hb dX8_found_96 hl (k := 2) rfl (by rw [ex5]; rfl) (by decide) rfl (fun ls hl => ?_)
        refine lv_iload_n hx hb dX8_found_99 rfl (lv_at hl 0 rfl) ?_
        refine lv_iload_n hx hb dX8_found_100 rfl (lv_at hl 2 rfl) ?_
        refine lv_icmp_ne (tgt := 106) hx hb dX8_found_101 (by decide) (fun hc => ?_) (fun hc => ?_)
        · replace hf := ite_f hc hf
          refine lv_goto (tgt := 11) hx hb dX8_found_106 (by decide) ?_
          replace hf := Option.some.inj hf
          subst hf
          exact hM _ _ _ hI (lv_sub hl [1, 2, 0, 3] rfl)
        · replace hf := ite_t hc hf
          refine lv_iload_n hx hb dX8_found_104 rfl (lv_at hl 0 rfl) ?_
          replace hf := Option.some.inj hf
          subst hf
          replace hM : (x5, g4) = out := hM
          subst hM
          exact rt_i (u := ()) hx hb hr hlocks rfl hI hAe rfl dX8_found_105
      · replace hf := ite_f hc hf
        obtain ⟨x6, ex6⟩ : ∃ y : Int32, y = (l3 + (1 : Int32)) := ⟨_, rfl⟩
        replace hf := bnd_e hf x6 ex6
        refine lv_iinc (v := x6) (lv' := [(3, .int x6), (0, .ref m0), (1, .int l1), (2, .int l2), (4, .int l4)]) hx hb dX8_found_83 hl (k := 3) rfl (by rw [ex6]; rfl) (by decide) rfl (fun ls hl => ?_)
        refine lv_aload_n hx hb dX8_found_86 rfl (lv_at hl 1 rfl) ?_
        refine w_get hx hb hg hown hK hI iX8 0 rfl rfl 17 (by decide) wF_RX8_54 rfl dX8_found_87 ?_
        refine lv_iload_n hx hb dX8_found_90 rfl (lv_at hl 0 rfl) ?_
        refine lv_iconst (v := -1) hx hb dX8_found_91 (by decide) ?_
        obtain ⟨hin, hf⟩ := wr_e hf
        obtain ⟨g7, eg7⟩ : ∃ g : Nat → Int32, g = upd g4 (x6).toNatClampNeg (-1 : Int32) := ⟨_, rfl⟩
        replace hf := hf g7 eg7
        refine w_iast (g := g7) (W1 := (wM cI cJ cZ m0 m1 m2 m3 m4 m5 m6 m7 m8 m9 m10 m11 m12 m13 M_posts M_roads M_size M_rows M_nextRows M_first M_second M_number M_lists M_square M_fan M_trial M_touching M_having M_most M_only M_can g7)) hx hb hK hI 13 rfl hin eg7 dX8_found_92 rfl (fun H locs hI => ?_)
        refine lv_goto (tgt := 11) hx hb dX8_found_93 (by decide) ?_
        replace hf := Option.some.inj hf
        subst hf
        exact hM _ _ _ hI (lv_sub hl [1, 2, 3, 0] rfl)
    · replace hf := ite_t hc hf
      obtain ⟨x8, ex8⟩ : ∃ y : Int32, y = (l3 + (-1 : Int32)) := ⟨_, rfl⟩
      replace hf := bnd_e hf x8 ex8
      refine lv_iinc (v := x8) (lv' := [(3, .int x8), (0, .ref m0), (1, .int l1), (2, .int l2), (4, .int l4)]) hx hb dX8_found_59 hl (k := 3) rfl (by rw [ex8]; rfl) (by decide) rfl (fun ls hl => ?_)
      refine lv_goto (tgt := 11) hx hb dX8_found_62 (by decide) ?_
      replace hf := Option.some.inj hf
      subst hf
      exact hM _ _ _ hI (lv_sub hl [1, 2, 3, 0] rfl)
  have L25 : ∀ (M_next : Nat → Int32) (l1 : Int32) (l2 : Int32) (l3 : Int32), ∀ (v : Int32) (x : ((Nat → Int32) × Int32 × Int32) ⊕ (Int32 × (Nat → Int32))), loopO (X8_found_L25 M_size M_rows M_square M_next l1 l2 l3) v = some x → (fun z => Sum.elim (fun (v1 : (Nat → Int32) × Int32 × Int32) => ∀ (H : Heap) (locs : List Loc) (ls : Array Slot), WI D A s.heap (wM cI cJ cZ m0 m1 m2 m3 m4 m5 m6 m7 m8 m9 m10 m11 m12 m13 M_posts M_roads M_size M_rows M_nextRows M_first M_second M_number M_lists M_square M_fan M_trial M_touching M_having M_most M_only M_can v1.1) H locs → lv_has ls 5 [(0, .ref m0), (1, .int l1), (2, .int v1.2.1), (3, .int v1.2.2)] → GX8_found p l e s m below meth c D cI cJ cZ m0 m1 m2 m3 m4 m5 m6 m7 m8 m9 m10 m11 m12 m13 M_posts M_roads M_size M_rows M_nextRows M_first M_second M_number M_lists M_square M_fan M_trial M_touching M_having M_most M_only M_can M_next_0 a1 out H locs (F0 m 11 ls [])) (fun z : Int32 × (Nat → Int32) => z = out) z) x → (fun (v : Int32) => ∀ (H : Heap) (locs : List Loc) (ls : Array Slot), WI D A s.heap (wM cI cJ cZ m0 m1 m2 m3 m4 m5 m6 m7 m8 m9 m10 m11 m12 m13 M_posts M_roads M_size M_rows M_nextRows M_first M_second M_number M_lists M_square M_fan M_trial M_touching M_having M_most M_only M_can M_next) H locs → lv_has ls 5 [(0, .ref m0), (1, .int l1), (2, .int l2), (3, .int l3), (4, .int v)] → GX8_found p l e s m below meth c D cI cJ cZ m0 m1 m2 m3 m4 m5 m6 m7 m8 m9 m10 m11 m12 m13 M_posts M_roads M_size M_rows M_nextRows M_first M_second M_number M_lists M_square M_fan M_trial M_touching M_having M_most M_only M_can M_next_0 a1 out H locs (F0 m 25 ls [])) v := by
    intro M_next l1 l2 l3
    refine loopO_ind (fun (v : Int32) => ∀ (H : Heap) (locs : List Loc) (ls : Array Slot), WI D A s.heap (wM cI cJ cZ m0 m1 m2 m3 m4 m5 m6 m7 m8 m9 m10 m11 m12 m13 M_posts M_roads M_size M_rows M_nextRows M_first M_second M_number M_lists M_square M_fan M_trial M_touching M_having M_most M_only M_can M_next) H locs → lv_has ls 5 [(0, .ref m0), (1, .int l1), (2, .int l2), (3, .int l3), (4, .int v)] → GX8_found p l e s m below meth c D cI cJ cZ m0 m1 m2 m3 m4 m5 m6 m7 m8 m9 m10 m11 m12 m13 M_posts M_roads M_size M_rows M_nextRows M_first M_second M_number M_lists M_square M_fan M_trial M_touching M_having M_most M_only M_can M_next_0 a1 out H locs (F0 m 25 ls [])) (fun z => Sum.elim (fun (v1 : (Nat → Int32) × Int32 × Int32) => ∀ (H : Heap) (locs : List Loc) (ls : Array Slot), WI D A s.heap (wM cI cJ cZ m0 m1 m2 m3 m4 m5 m6 m7 m8 m9 m10 m11 m12 m13 M_posts M_roads M_size M_rows M_nextRows M_first M_second M_number M_lists M_square M_fan M_trial M_touching M_having M_most M_only M_can v1.1) H locs → lv_has ls 5 [(0, .ref m0), (1, .int l1), (2, .int v1.2.1), (3, .int v1.2.2)] → GX8_found p l e s m below meth c D cI cJ cZ m0 m1 m2 m3 m4 m5 m6 m7 m8 m9 m10 m11 m12 m13 M_posts M_roads M_size M_rows M_nextRows M_first M_second M_number M_lists M_square M_fan M_trial M_touching M_having M_most M_only M_can M_next_0 a1 out H locs (F0 m 11 ls [])) (fun z : Int32 × (Nat → Int32) => z = out) z) ?_
    intro v x hf hM H locs ls hI hl
    refine lv_iload hx hb dX8_found_25 (lv_at hl 4 rfl) ?_
    refine lv_aload_n hx hb dX8_found_27 rfl (lv_at hl 0 rfl) ?_
    refine w_get hx hb hg hown hK hI iX8 0 rfl rfl 6 (by decide) wF_RX8_22 rfl dX8_found_28 ?_
    refine lv_icmp_ge (tgt := 50) hx hb dX8_found_31 (by decide) (fun hc => ?_) (fun hc => ?_)
    · replace hf := ite_t hc hf
      obtain ⟨z, hf2, ez⟩ := mp_e hf
      clear hf
      subst ez
      exact J50 M_next l1 l2 l3 v _ hf2 hM _ _ _ hI (lv_sub hl [0, 1, 2, 3, 4] rfl)
    · replace hf := ite_f hc hf
      refine lv_aload_n hx hb dX8_found_34 rfl (lv_at hl 0 rfl) ?_
      refine lv_iload_n hx hb dX8_found_35 rfl (lv_at hl 3 rfl) ?_
      refine lv_iload hx hb dX8_found_36 (lv_at hl 4 rfl) ?_
      obtain ⟨o9, ho9, hf⟩ := bd_e hf
      refine w_Vi0 (wc := (wM cI cJ cZ m0 m1 m2 m3 m4 m5 m6 m7 m8 m9 m10 m11 m12 m13 M_posts M_roads M_size M_rows M_nextRows M_first M_second M_number M_lists M_square M_fan M_trial M_touching M_having M_most M_only M_can M_next)) (wr := []) (rest := []) hx hb hml hg hown hK hA hI (kX8_mayStand l D cI cJ cZ m0 m1 m2 m3 m4 m5 m6 m7 m8 m9 m10 m11 m12 m13 M_posts M_roads M_size M_rows M_nextRows M_first M_second M_number M_lists M_square M_fan M_trial M_touching M_having M_most M_only M_can M_next l3 v o9 ho9) kvX8_mayStand wL_RX8_165 ⟨Nat.le_of_ble_eq_true rfl, Nat.le_of_ble_eq_true rfl⟩ rfl rfl [0, 1, 2, 3, 4, 5, 6, 7, 8, 9, 10, 11, 12, 13] [] rfl rfl rfl rfl (by decide) rfl rfl hl.1 (Nat.le_of_ble_eq_true rfl) dX8_found_38 ⟨Nat.zero_le _, Nat.zero_le _⟩ ⟨rfl, rfl⟩ (fun r u H locs hp hI => ?_)
      replace hp : r = o9 := hp
      rw [hp]
      clear hp
      replace hI : WI D A s.heap (wM cI cJ cZ m0 m1 m2 m3 m4 m5 m6 m7 m8 m9 m10 m11 m12 m13 M_posts M_roads M_size M_rows M_nextRows M_first M_second M_number M_lists M_square M_fan M_trial M_touching M_having M_most M_only M_can M_next) H locs := hI
      refine lv_if_ne (tgt := 50) hx hb dX8_found_41 (by decide) (fun hc => ?_) (fun hc => ?_)
      · replace hf := ite_f hc hf
        obtain ⟨z, hf2, ez⟩ := mp_e hf
        clear hf
        subst ez
        exact J50 M_next l1 l2 l3 v _ hf2 hM _ _ _ hI (lv_sub hl [0, 1, 2, 3, 4] rfl)
      · replace hf := ite_t hc hf
        obtain ⟨x10, ex10⟩ : ∃ y : Int32, y = (v + (1 : Int32)) := ⟨_, rfl⟩
        replace hf := bnd_e hf x10 ex10
        refine lv_iinc (v := x10) (lv' := [(4, .int x10), (0, .ref m0), (1, .int l1), (2, .int l2), (3, .int l3)]) hx hb dX8_found_44 hl (k := 4) rfl (by rw [ex10]; rfl) (by decide) rfl (fun ls hl => ?_)
        refine lv_goto (tgt := 25) hx hb dX8_found_47 (by decide) ?_
        replace hf := Option.some.inj hf
        subst hf
        exact hM _ _ _ hI (lv_sub hl [1, 2, 3, 4, 0] rfl)
  have L11 : ∀ (l1 : Int32), ∀ (v : (Nat → Int32) × Int32 × Int32) (x : Int32 × (Nat → Int32)), loopO (X8_found_L11 M_size M_rows M_square l1) v = some x → (fun z : Int32 × (Nat → Int32) => z = out) x → (fun (v : (Nat → Int32) × Int32 × Int32) => ∀ (H : Heap) (locs : List Loc) (ls : Array Slot), WI D A s.heap (wM cI cJ cZ m0 m1 m2 m3 m4 m5 m6 m7 m8 m9 m10 m11 m12 m13 M_posts M_roads M_size M_rows M_nextRows M_first M_second M_number M_lists M_square M_fan M_trial M_touching M_having M_most M_only M_can v.1) H locs → lv_has ls 5 [(0, .ref m0), (1, .int l1), (2, .int v.2.1), (3, .int v.2.2)] → GX8_found p l e s m below meth c D cI cJ cZ m0 m1 m2 m3 m4 m5 m6 m7 m8 m9 m10 m11 m12 m13 M_posts M_roads M_size M_rows M_nextRows M_first M_second M_number M_lists M_square M_fan M_trial M_touching M_having M_most M_only M_can M_next_0 a1 out H locs (F0 m 11 ls [])) v := by
    intro l1
    refine loopO_ind (fun (v : (Nat → Int32) × Int32 × Int32) => ∀ (H : Heap) (locs : List Loc) (ls : Array Slot), WI D A s.heap (wM cI cJ cZ m0 m1 m2 m3 m4 m5 m6 m7 m8 m9 m10 m11 m12 m13 M_posts M_roads M_size M_rows M_nextRows M_first M_second M_number M_lists M_square M_fan M_trial M_touching M_having M_most M_only M_can v.1) H locs → lv_has ls 5 [(0, .ref m0), (1, .int l1), (2, .int v.2.1), (3, .int v.2.2)] → GX8_found p l e s m below meth c D cI cJ cZ m0 m1 m2 m3 m4 m5 m6 m7 m8 m9 m10 m11 m12 m13 M_posts M_roads M_size M_rows M_nextRows M_first M_second M_number M_lists M_square M_fan M_trial M_touching M_having M_most M_only M_can M_next_0 a1 out H locs (F0 m 11 ls [])) (fun z : Int32 × (Nat → Int32) => z = out) ?_
    intro v x hf hM H locs ls hI hl
    refine lv_iload_n hx hb dX8_found_11 rfl (lv_at hl 3 rfl) ?_
    refine lv_if_lt (tgt := 109) hx hb dX8_found_12 (by decide) (fun hc => ?_) (fun hc => ?_)
    · replace hf := ite_t hc hf
      refine lv_iload_n hx hb dX8_found_109 rfl (lv_at hl 2 rfl) ?_
      replace hf := Option.some.inj hf
      subst hf
      replace hM : (v.2.1, v.1) = out := hM
      subst hM
      exact rt_i (u := ()) hx hb hr hlocks rfl hI hAe rfl dX8_found_110
    · replace hf := ite_f hc hf
      refine lv_aload_n hx hb dX8_found_15 rfl (lv_at hl 0 rfl) ?_
      refine w_get hx hb hg hown hK hI iX8 0 rfl rfl 17 (by decide) wF_RX8_54 rfl dX8_found_16 ?_
      refine lv_iload_n hx hb dX8_found_19 rfl (lv_at hl 3 rfl) ?_
      obtain ⟨hin, hf⟩ := rd_e hf
      refine w_iald hx hb hK hI 13 rfl hin dX8_found_20 (fun x2 ex2 => ?_)
      replace hf := hf x2 ex2
      refine lv_iconst (v := 1) hx hb dX8_found_21 (by decide) ?_
      refine lv_iadd hx hb dX8_found_22 ?_
      refine lv_topi (fun x3 ex3 => ?_)
      replace hf := bnd_e hf x3 ex3
      refine lv_istore (lv' := [(4, .int x3), (0, .ref m0), (1, .int l1), (2, .int v.2.1), (3, .int v.2.2)]) hx hb dX8_found_23 hl (by decide) rfl (fun ls hl => ?_)
      exact L25 v.1 l1 v.2.1 v.2.2 x3 _ hf hM _ _ _ hI (lv_sub hl [1, 2, 3, 4, 0] rfl)
  obtain ⟨x, hf, hM⟩ : ∃ x, FX8_found M_size M_rows M_square M_next_0 a1 = some x ∧ x = out := ⟨out, hf, rfl⟩
  refine lv_iconst (v := 0) hx hb dX8_found_0 (by decide) ?_
  refine lv_istore_n (lv' := [(2, .int (0 : Int32)), (0, .ref m0), (1, .int a1)]) hx hb dX8_found_1 rfl hl (by decide) rfl (fun ls hl => ?_)
  refine lv_iconst (v := 0) hx hb dX8_found_2 (by decide) ?_
  refine lv_istore_n (lv' := [(3, .int (0 : Int32)), (2, .int (0 : Int32)), (0, .ref m0), (1, .int a1)]) hx hb dX8_found_3 rfl hl (by decide) rfl (fun ls hl => ?_)
  refine lv_aload_n hx hb dX8_found_4 rfl (lv_at hl 2 rfl) ?_
  refine w_get hx hb hg hown hK hI iX8 0 rfl rfl 17 (by decide) wF_RX8_54 rfl dX8_found_5 ?_
  refine lv_iconst (v := 0) hx hb dX8_found_8 (by decide) ?_
  refine lv_iconst (v := -1) hx hb dX8_found_9 (by decide) ?_
  obtain ⟨hin, hf⟩ := wr_e hf
  obtain ⟨g1, eg1⟩ : ∃ g : Nat → Int32, g = upd M_next_0 ((0 : Int32)).toNatClampNeg (-1 : Int32) := ⟨_, rfl⟩
  replace hf := hf g1 eg1
  refine w_iast (g := g1) (W1 := (wM cI cJ cZ m0 m1 m2 m3 m4 m5 m6 m7 m8 m9 m10 m11 m12 m13 M_posts M_roads M_size M_rows M_nextRows M_first M_second M_number M_lists M_square M_fan M_trial M_touching M_having M_most M_only M_can g1)) hx hb hK hI 13 rfl hin eg1 dX8_found_10 rfl (fun H locs hI => ?_)
  exact L11 a1 (g1, (0 : Int32), (0 : Int32)) _ hf hM _ _ _ hI (lv_sub hl [2, 3, 1, 0] rfl)
noncomputable def X8_on_J57 (M_size : Int32) (M_rows : Int32) (M_nextRows : Int32) (M_square : Nat → Int32) (M_next : Nat → Int32) (l2 : Int32) : Option (Int32 × Int32 × Int32 × (Nat → Int32) × (Nat → Int32)) :=
  (FX8_stands M_size M_rows M_nextRows M_square M_next).bind (fun o2 => some (l2, o2.1, o2.2.1, o2.2.2, M_next))
noncomputable def X8_on_L31 (M_size : Int32) (M_rows : Int32) (M_nextRows : Int32) (M_square : Nat → Int32) (M_next : Nat → Int32) (v : Int32 × Int32) : Option ((Int32 × Int32) ⊕ (Int32 × Int32 × Int32 × (Nat → Int32) × (Nat → Int32))) :=
  if M_size ≤ v.2 then ((X8_on_J57 M_size M_rows M_nextRows M_square M_next v.1).map (fun z => (.inr z))) else (rd M_next 9 v.2 (fun x3 => bnd (((10 : Int32) * v.1) + x3) (fun x4 => bnd (v.2 + (1 : Int32)) (fun x5 => some (.inl (x4, x5))))))
noncomputable def FX8_on (M_size : Int32) (M_rows_0 : Int32) (M_nextRows_0 : Int32) (M_square_0 : Nat → Int32) (M_next_0 : Nat → Int32)  : Option (Int32 × Int32 × Int32 × (Nat → Int32) × (Nat → Int32)) :=
  if M_size < (0 : Int32) then (some ((-2 : Int32), M_rows_0, M_nextRows_0, M_square_0, M_next_0)) else (if M_rows_0 = M_size then (some ((-2 : Int32), M_rows_0, M_nextRows_0, M_square_0, M_next_0)) else ((FX8_found M_size M_rows_0 M_square_0 M_next_0 (1 : Int32)).bind (fun o1 => loopO (X8_on_L31 M_size M_rows_0 M_nextRows_0 M_square_0 o1.2) ((0 : Int32), (0 : Int32)))))
abbrev GX8_on (p : Program) (l : Launch) (e : Env) (s : State) (m : MethodId) (below : List Frame) (meth : Method) (c : Code) (D : va_G) (cI cJ cZ : ClassId) (m0 m1 m2 m3 m4 m5 m6 m7 m8 m9 m10 m11 m12 m13 : Nat) (M_posts : Int32) (M_roads : Int32) (M_size : Int32) (M_rows_0 : Int32) (M_nextRows_0 : Int32) (M_first : Nat → Int32) (M_second : Nat → Int32) (M_number : Nat → Int32) (M_lists : Nat → Int32) (M_square_0 : Nat → Int32) (M_fan : Nat → Int32) (M_trial : Nat → Int32) (M_touching : Nat → Int32) (M_having : Nat → Int32) (M_most : Nat → Int32) (M_only : Nat → Int32) (M_can : Nat → Int32) (M_next_0 : Nat → Int32)  (out : Int32 × Int32 × Int32 × (Nat → Int32) × (Nat → Int32)) (H : Heap) (locs : List Loc) (g : JFrame) : Prop := W p l e (headSpec (Cond.code yX8_on cX8_on 4 (some .int) :: GW) { frames := 2, cells := 0, slots := 0, locals := 47 }).room s m ([.ref m0] : List Value).toArray below meth c H locs 0 0 (MQ below (va_Qi (fun r (_ : Unit) => r = out.1) (BW D (wM cI cJ cZ m0 m1 m2 m3 m4 m5 m6 m7 m8 m9 m10 m11 m12 m13 M_posts M_roads M_size M_rows_0 M_nextRows_0 M_first M_second M_number M_lists M_square_0 M_fan M_trial M_touching M_having M_most M_only M_can M_next_0) s.heap.size (fun _ => (wM cI cJ cZ m0 m1 m2 m3 m4 m5 m6 m7 m8 m9 m10 m11 m12 m13 M_posts M_roads M_size out.2.1 out.2.2.1 M_first M_second M_number M_lists out.2.2.2.1 M_fan M_trial M_touching M_having M_most M_only M_can out.2.2.2.2))) (va_A (wM cI cJ cZ m0 m1 m2 m3 m4 m5 m6 m7 m8 m9 m10 m11 m12 m13 M_posts M_roads M_size M_rows_0 M_nextRows_0 M_first M_second M_number M_lists M_square_0 M_fan M_trial M_touching M_having M_most M_only M_can M_next_0) s.heap.size)) ([.ref m0] : List Value).toArray s 0 0 (va_A (wM cI cJ cZ m0 m1 m2 m3 m4 m5 m6 m7 m8 m9 m10 m11 m12 m13 M_posts M_roads M_size M_rows_0 M_nextRows_0 M_first M_second M_number M_lists M_square_0 M_fan M_trial M_touching M_having M_most M_only M_can M_next_0) s.heap.size)) g
theorem kvX8_on : CalV RX8 yX8_on cX8_on 4 (some .int) 0 := ⟨wC_yX8_on, wM_yX8_on, wS_yX8_on, wI_RX8, by decide +kernel⟩
set_option maxHeartbeats 4000000 in
set_option maxRecDepth 100000 in
theorem kX8_on (l : Launch) (D : va_G) (cI cJ cZ : ClassId) (m0 m1 m2 m3 m4 m5 m6 m7 m8 m9 m10 m11 m12 m13 : Nat) (M_posts : Int32) (M_roads : Int32) (M_size : Int32) (M_rows_0 : Int32) (M_nextRows_0 : Int32) (M_first : Nat → Int32) (M_second : Nat → Int32) (M_number : Nat → Int32) (M_lists : Nat → Int32) (M_square_0 : Nat → Int32) (M_fan : Nat → Int32) (M_trial : Nat → Int32) (M_touching : Nat → Int32) (M_having : Nat → Int32) (M_most : Nat → Int32) (M_only : Nat → Int32) (M_can : Nat → Int32) (M_next_0 : Nat → Int32)  (out : Int32 × Int32 × Int32 × (Nat → Int32) × (Nat → Int32)) (hf : FX8_on M_size M_rows_0 M_nextRows_0 M_square_0 M_next_0 = some out) : MI l yX8_on (Cond.code yX8_on cX8_on 4 (some .int) :: GW) { frames := 2, cells := 0, slots := 0, locals := 47 } D cI cJ cZ [.ref m0] (wM cI cJ cZ m0 m1 m2 m3 m4 m5 m6 m7 m8 m9 m10 m11 m12 m13 M_posts M_roads M_size M_rows_0 M_nextRows_0 M_first M_second M_number M_lists M_square_0 M_fan M_trial M_touching M_having M_most M_only M_can M_next_0) (fun r (_ : Unit) => r = out.1) (fun _ => (wM cI cJ cZ m0 m1 m2 m3 m4 m5 m6 m7 m8 m9 m10 m11 m12 m13 M_posts M_roads M_size out.2.1 out.2.2.1 M_first M_second M_number M_lists out.2.2.2.1 M_fan M_trial M_touching M_having M_most M_only M_can out.2.2.2.2)) := by
  intro sz
  refine Met.ofW (cc := cX8_on) (maxL := 4) (ret := (some .int)) (by decide +kernel) rfl ?_
  intro p e s m args below meth c s₁ B hml hv
  obtain ⟨rfl, hsz, hP, hK, hD0⟩ := hv
  have hx := B.exec
  have hb := B.bytes
  have hr := B.returns
  have hlocks := B.notSynchronized
  have hg : ∀ w ∈ GW, w.before _ s = true := fun w h => atoms_spec (ws := Cond.code yX8_on cX8_on 4 (some .int) :: GW) B.pre w (List.mem_cons_of_mem _ h)
  have hown : s.vm.findClass RX8 = some m.cls := findClass_of_methodNamed B.named
  subst hsz
  obtain ⟨A, hAe⟩ : ∃ A, A = va_A (wM cI cJ cZ m0 m1 m2 m3 m4 m5 m6 m7 m8 m9 m10 m11 m12 m13 M_posts M_roads M_size M_rows_0 M_nextRows_0 M_first M_second M_number M_lists M_square_0 M_fan M_trial M_touching M_having M_most M_only M_can M_next_0) s.heap.size := ⟨_, rfl⟩
  have hA : ∀ q : Nat, s.heap.size ≤ q → A q := fun q h => by rw [hAe]; exact Or.inr h
  have hI : WI D A s.heap (wM cI cJ cZ m0 m1 m2 m3 m4 m5 m6 m7 m8 m9 m10 m11 m12 m13 M_posts M_roads M_size M_rows_0 M_nextRows_0 M_first M_second M_number M_lists M_square_0 M_fan M_trial M_touching M_having M_most M_only M_can M_next_0) s.heap [] := ⟨hP, by rw [hAe]; exact hD0.self, va_S.rf⟩
  have hl := lv_entry [.ref m0] (n := 4) (Nat.le_of_ble_eq_true rfl)
  rw [lg_entry_eq]
  generalize (lg_sl [.ref m0] ++ List.replicate (4 - (lg_sl [.ref m0]).length) Slot.unset).toArray = ls at hl ⊢
  replace hl : lv_has ls 4 [(0, .ref m0)] := hl
  have J57 : ∀ (M_rows : Int32) (M_nextRows : Int32) (M_square : Nat → Int32) (M_next : Nat → Int32) (l2 : Int32) (x : Int32 × Int32 × Int32 × (Nat → Int32) × (Nat → Int32)), X8_on_J57 M_size M_rows M_nextRows M_square M_next l2 = some x → (fun z : Int32 × Int32 × Int32 × (Nat → Int32) × (Nat → Int32) => z = out) x → ∀ (H : Heap) (locs : List Loc) (ls : Array Slot), WI D A s.heap (wM cI cJ cZ m0 m1 m2 m3 m4 m5 m6 m7 m8 m9 m10 m11 m12 m13 M_posts M_roads M_size M_rows M_nextRows M_first M_second M_number M_lists M_square M_fan M_trial M_touching M_having M_most M_only M_can M_next) H locs → lv_has ls 4 [(0, .ref m0), (2, .int l2)] → GX8_on p l e s m below meth c D cI cJ cZ m0 m1 m2 m3 m4 m5 m6 m7 m8 m9 m10 m11 m12 m13 M_posts M_roads M_size M_rows_0 M_nextRows_0 M_first M_second M_number M_lists M_square_0 M_fan M_trial M_touching M_having M_most M_only M_can M_next_0  out H locs (F0 m 57 ls []) := by
    intro M_rows M_nextRows M_square M_next l2 x hf hM H locs ls hI hl
    refine lv_aload_n hx hb dX8_on_57 rfl (lv_at hl 0 rfl) ?_
    obtain ⟨o2, ho2, hf⟩ := bd_e hf
    refine w_Vv0 (wc := (wM cI cJ cZ m0 m1 m2 m3 m4 m5 m6 m7 m8 m9 m10 m11 m12 m13 M_posts M_roads M_size M_rows M_nextRows M_first M_second M_number M_lists M_square M_fan M_trial M_touching M_having M_most M_only M_can M_next)) (wr := []) (rest := []) hx hb hml hg hown hK hA hI (kX8_stands l D cI cJ cZ m0 m1 m2 m3 m4 m5 m6 m7 m8 m9 m10 m11 m12 m13 M_posts M_roads M_size M_rows M_nextRows M_first M_second M_number M_lists M_square M_fan M_trial M_touching M_having M_most M_only M_can M_next  o2 ho2) kvX8_stands wL_RX8_168 ⟨Nat.le_of_ble_eq_true rfl, Nat.le_of_ble_eq_true rfl⟩ rfl rfl [0, 1, 2, 3, 4, 5, 6, 7, 8, 9, 10, 11, 12, 13] [] rfl rfl rfl rfl (by decide) rfl rfl hl.1 (Nat.le_of_ble_eq_true rfl) dX8_on_58 ⟨Nat.zero_le _, Nat.zero_le _⟩ ⟨rfl, rfl⟩ (fun  u H locs hp hI => ?_)
    replace hI : WI D A s.heap (wM cI cJ cZ m0 m1 m2 m3 m4 m5 m6 m7 m8 m9 m10 m11 m12 m13 M_posts M_roads M_size o2.1 o2.2.1 M_first M_second M_number M_lists o2.2.2 M_fan M_trial M_touching M_having M_most M_only M_can M_next) H locs := hI
    refine lv_iload_n hx hb dX8_on_61 rfl (lv_at hl 1 rfl) ?_
    replace hf := Option.some.inj hf
    subst hf
    replace hM : (l2, o2.1, o2.2.1, o2.2.2, M_next) = out := hM
    subst hM
    exact rt_i (u := ()) hx hb hr hlocks rfl hI hAe rfl dX8_on_62
  have L31 : ∀ (M_rows : Int32) (M_nextRows : Int32) (M_square : Nat → Int32) (M_next : Nat → Int32), ∀ (v : Int32 × Int32) (x : Int32 × Int32 × Int32 × (Nat → Int32) × (Nat → Int32)), loopO (X8_on_L31 M_size M_rows M_nextRows M_square M_next) v = some x → (fun z : Int32 × Int32 × Int32 × (Nat → Int32) × (Nat → Int32) => z = out) x → (fun (v : Int32 × Int32) => ∀ (H : Heap) (locs : List Loc) (ls : Array Slot), WI D A s.heap (wM cI cJ cZ m0 m1 m2 m3 m4 m5 m6 m7 m8 m9 m10 m11 m12 m13 M_posts M_roads M_size M_rows M_nextRows M_first M_second M_number M_lists M_square M_fan M_trial M_touching M_having M_most M_only M_can M_next) H locs → lv_has ls 4 [(0, .ref m0), (2, .int v.1), (3, .int v.2)] → GX8_on p l e s m below meth c D cI cJ cZ m0 m1 m2 m3 m4 m5 m6 m7 m8 m9 m10 m11 m12 m13 M_posts M_roads M_size M_rows_0 M_nextRows_0 M_first M_second M_number M_lists M_square_0 M_fan M_trial M_touching M_having M_most M_only M_can M_next_0  out H locs (F0 m 31 ls [])) v := by
    intro M_rows M_nextRows M_square M_next
    refine loopO_ind (fun (v : Int32 × Int32) => ∀ (H : Heap) (locs : List Loc) (ls : Array Slot), WI D A s.heap (wM cI cJ cZ m0 m1 m2 m3 m4 m5 m6 m7 m8 m9 m10 m11 m12 m13 M_posts M_roads M_size M_rows M_nextRows M_first M_second M_number M_lists M_square M_fan M_trial M_touching M_having M_most M_only M_can M_next) H locs → lv_has ls 4 [(0, .ref m0), (2, .int v.1), (3, .int v.2)] → GX8_on p l e s m below meth c D cI cJ cZ m0 m1 m2 m3 m4 m5 m6 m7 m8 m9 m10 m11 m12 m13 M_posts M_roads M_size M_rows_0 M_nextRows_0 M_first M_second M_number M_lists M_square_0 M_fan M_trial M_touching M_having M_most M_only M_can M_next_0  out H locs (F0 m 31 ls [])) (fun z : Int32 × Int32 × Int32 × (Nat → Int32) × (Nat → Int32) => z = out) ?_
    intro v x hf hM H locs ls hI hl
    refine lv_iload_n hx hb dX8_on_31 rfl (lv_at hl 2 rfl) ?_
    refine lv_aload_n hx hb dX8_on_32 rfl (lv_at hl 0 rfl) ?_
    refine w_get hx hb hg hown hK hI iX8 0 rfl rfl 6 (by decide) wF_RX8_22 rfl dX8_on_33 ?_
    refine lv_icmp_ge (tgt := 57) hx hb dX8_on_36 (by decide) (fun hc => ?_) (fun hc => ?_)
    · replace hf := ite_t hc hf
      obtain ⟨z, hf2, ez⟩ := mp_e hf
      clear hf
      subst ez
      exact J57 M_rows M_nextRows M_square M_next v.1 _ hf2 hM _ _ _ hI (lv_sub hl [0, 1] rfl)
    · replace hf := ite_f hc hf
      refine lv_bipush (v := 10) hx hb dX8_on_39 (by decide) ?_
      refine lv_iload_n hx hb dX8_on_41 rfl (lv_at hl 1 rfl) ?_
      refine lv_imul hx hb dX8_on_42 ?_
      refine lv_aload_n hx hb dX8_on_43 rfl (lv_at hl 0 rfl) ?_
      refine w_get hx hb hg hown hK hI iX8 0 rfl rfl 17 (by decide) wF_RX8_54 rfl dX8_on_44 ?_
      refine lv_iload_n hx hb dX8_on_47 rfl (lv_at hl 2 rfl) ?_
      obtain ⟨hin, hf⟩ := rd_e hf
      refine w_iald hx hb hK hI 13 rfl hin dX8_on_48 (fun x3 ex3 => ?_)
      replace hf := hf x3 ex3
      refine lv_iadd hx hb dX8_on_49 ?_
      refine lv_topi (fun x4 ex4 => ?_)
      replace hf := bnd_e hf x4 ex4
      refine lv_istore_n (lv' := [(2, .int x4), (0, .ref m0), (3, .int v.2)]) hx hb dX8_on_50 rfl hl (by decide) rfl (fun ls hl => ?_)
      obtain ⟨x5, ex5⟩ : ∃ y : Int32, y = (v.2 + (1 : Int32)) := ⟨_, rfl⟩
      replace hf := bnd_e hf x5 ex5
      refine lv_iinc (v := x5) (lv' := [(3, .int x5), (2, .int x4), (0, .ref m0)]) hx hb dX8_on_51 hl (k := 2) rfl (by rw [ex5]; rfl) (by decide) rfl (fun ls hl => ?_)
      refine lv_goto (tgt := 31) hx hb dX8_on_54 (by decide) ?_
      replace hf := Option.some.inj hf
      subst hf
      exact hM _ _ _ hI (lv_sub hl [2, 1, 0] rfl)
  obtain ⟨x, hf, hM⟩ : ∃ x, FX8_on M_size M_rows_0 M_nextRows_0 M_square_0 M_next_0 = some x ∧ x = out := ⟨out, hf, rfl⟩
  refine lv_aload_n hx hb dX8_on_0 rfl (lv_at hl 0 rfl) ?_
  refine w_get hx hb hg hown hK hI iX8 0 rfl rfl 6 (by decide) wF_RX8_22 rfl dX8_on_1 ?_
  refine lv_if_lt (tgt := 18) hx hb dX8_on_4 (by decide) (fun hc => ?_) (fun hc => ?_)
  · replace hf := ite_t hc hf
    refine lv_bipush (v := -2) hx hb dX8_on_18 (by decide) ?_
    replace hf := Option.some.inj hf
    subst hf
    replace hM : ((-2 : Int32), M_rows_0, M_nextRows_0, M_square_0, M_next_0) = out := hM
    subst hM
    exact rt_i (u := ()) hx hb hr hlocks rfl hI hAe rfl dX8_on_20
  · replace hf := ite_f hc hf
    refine lv_aload_n hx hb dX8_on_7 rfl (lv_at hl 0 rfl) ?_
    refine w_get hx hb hg hown hK hI iX8 0 rfl rfl 7 (by decide) wF_RX8_162 rfl dX8_on_8 ?_
    refine lv_aload_n hx hb dX8_on_11 rfl (lv_at hl 0 rfl) ?_
    refine w_get hx hb hg hown hK hI iX8 0 rfl rfl 6 (by decide) wF_RX8_22 rfl dX8_on_12 ?_
    refine lv_icmp_ne (tgt := 21) hx hb dX8_on_15 (by decide) (fun hc => ?_) (fun hc => ?_)
    · replace hf := ite_f hc hf
      refine lv_aload_n hx hb dX8_on_21 rfl (lv_at hl 0 rfl) ?_
      refine lv_iconst (v := 1) hx hb dX8_on_22 (by decide) ?_
      obtain ⟨o1, ho1, hf⟩ := bd_e hf
      refine w_Vi0 (wc := (wM cI cJ cZ m0 m1 m2 m3 m4 m5 m6 m7 m8 m9 m10 m11 m12 m13 M_posts M_roads M_size M_rows_0 M_nextRows_0 M_first M_second M_number M_lists M_square_0 M_fan M_trial M_touching M_having M_most M_only M_can M_next_0)) (wr := []) (rest := []) hx hb hml hg hown hK hA hI (kX8_found l D cI cJ cZ m0 m1 m2 m3 m4 m5 m6 m7 m8 m9 m10 m11 m12 m13 M_posts M_roads M_size M_rows_0 M_nextRows_0 M_first M_second M_number M_lists M_square_0 M_fan M_trial M_touching M_having M_most M_only M_can M_next_0 (1 : Int32) o1 ho1) kvX8_found wL_RX8_171 ⟨Nat.le_of_ble_eq_true rfl, Nat.le_of_ble_eq_true rfl⟩ rfl rfl [0, 1, 2, 3, 4, 5, 6, 7, 8, 9, 10, 11, 12, 13] [] rfl rfl rfl rfl (by decide) rfl rfl hl.1 (Nat.le_of_ble_eq_true rfl) dX8_on_23 ⟨Nat.zero_le _, Nat.zero_le _⟩ ⟨rfl, rfl⟩ (fun r u H locs hp hI => ?_)
      replace hp : r = o1.1 := hp
      rw [hp]
      clear hp
      replace hI : WI D A s.heap (wM cI cJ cZ m0 m1 m2 m3 m4 m5 m6 m7 m8 m9 m10 m11 m12 m13 M_posts M_roads M_size M_rows_0 M_nextRows_0 M_first M_second M_number M_lists M_square_0 M_fan M_trial M_touching M_having M_most M_only M_can o1.2) H locs := hI
      refine lv_istore_n (lv' := [(1, .int o1.1), (0, .ref m0)]) hx hb dX8_on_26 rfl hl (by decide) rfl (fun ls hl => ?_)
      refine lv_iconst (v := 0) hx hb dX8_on_27 (by decide) ?_
      refine lv_istore_n (lv' := [(2, .int (0 : Int32)), (1, .int o1.1), (0, .ref m0)]) hx hb dX8_on_28 rfl hl (by decide) rfl (fun ls hl => ?_)
      refine lv_iconst (v := 0) hx hb dX8_on_29 (by decide) ?_
      refine lv_istore_n (lv' := [(3, .int (0 : Int32)), (2, .int (0 : Int32)), (1, .int o1.1), (0, .ref m0)]) hx hb dX8_on_30 rfl hl (by decide) rfl (fun ls hl => ?_)
      exact L31 M_rows_0 M_nextRows_0 M_square_0 o1.2 ((0 : Int32), (0 : Int32)) _ hf hM _ _ _ hI (lv_sub hl [3, 1, 0] rfl)
    · replace hf := ite_t hc hf
      refine lv_bipush (v := -2) hx hb dX8_on_18 (by decide) ?_
      replace hf := Option.some.inj hf
      subst hf
      replace hM : ((-2 : Int32), M_rows_0, M_nextRows_0, M_square_0, M_next_0) = out := hM
      subst hM
      exact rt_i (u := ()) hx hb hr hlocks rfl hI hAe rfl dX8_on_20
noncomputable def FX8_rows (M_size : Int32) (M_rows : Int32) (M_nextRows_0 : Int32) (M_square : Nat → Int32) (M_next_0 : Nat → Int32)  : Option (Int32 × Int32 × (Nat → Int32)) :=
  if M_size < (0 : Int32) then (some ((-2 : Int32), M_nextRows_0, M_next_0)) else (if M_rows = M_size then (some ((-2 : Int32), M_nextRows_0, M_next_0)) else (if (0 : Int32) ≤ M_nextRows_0 then (some (M_nextRows_0, M_nextRows_0, M_next_0)) else ((FX8_found M_size M_rows M_square M_next_0 (1000000000 : Int32)).bind (fun o1 => some (o1.1, o1.1, o1.2)))))
abbrev GX8_rows (p : Program) (l : Launch) (e : Env) (s : State) (m : MethodId) (below : List Frame) (meth : Method) (c : Code) (D : va_G) (cI cJ cZ : ClassId) (m0 m1 m2 m3 m4 m5 m6 m7 m8 m9 m10 m11 m12 m13 : Nat) (M_posts : Int32) (M_roads : Int32) (M_size : Int32) (M_rows : Int32) (M_nextRows_0 : Int32) (M_first : Nat → Int32) (M_second : Nat → Int32) (M_number : Nat → Int32) (M_lists : Nat → Int32) (M_square : Nat → Int32) (M_fan : Nat → Int32) (M_trial : Nat → Int32) (M_touching : Nat → Int32) (M_having : Nat → Int32) (M_most : Nat → Int32) (M_only : Nat → Int32) (M_can : Nat → Int32) (M_next_0 : Nat → Int32)  (out : Int32 × Int32 × (Nat → Int32)) (H : Heap) (locs : List Loc) (g : JFrame) : Prop := W p l e (headSpec (Cond.code yX8_rows cX8_rows 1 (some .int) :: GW) { frames := 2, cells := 0, slots := 0, locals := 47 }).room s m ([.ref m0] : List Value).toArray below meth c H locs 0 0 (MQ below (va_Qi (fun r (_ : Unit) => r = out.1) (BW D (wM cI cJ cZ m0 m1 m2 m3 m4 m5 m6 m7 m8 m9 m10 m11 m12 m13 M_posts M_roads M_size M_rows M_nextRows_0 M_first M_second M_number M_lists M_square M_fan M_trial M_touching M_having M_most M_only M_can M_next_0) s.heap.size (fun _ => (wM cI cJ cZ m0 m1 m2 m3 m4 m5 m6 m7 m8 m9 m10 m11 m12 m13 M_posts M_roads M_size M_rows out.2.1 M_first M_second M_number M_lists M_square M_fan M_trial M_touching M_having M_most M_only M_can out.2.2))) (va_A (wM cI cJ cZ m0 m1 m2 m3 m4 m5 m6 m7 m8 m9 m10 m11 m12 m13 M_posts M_roads M_size M_rows M_nextRows_0 M_first M_second M_number M_lists M_square M_fan M_trial M_touching M_having M_most M_only M_can M_next_0) s.heap.size)) ([.ref m0] : List Value).toArray s 0 0 (va_A (wM cI cJ cZ m0 m1 m2 m3 m4 m5 m6 m7 m8 m9 m10 m11 m12 m13 M_posts M_roads M_size M_rows M_nextRows_0 M_first M_second M_number M_lists M_square M_fan M_trial M_touching M_having M_most M_only M_can M_next_0) s.heap.size)) g
theorem kvX8_rows : CalV RX8 yX8_rows cX8_rows 1 (some .int) 0 := ⟨wC_yX8_rows, wM_yX8_rows, wS_yX8_rows, wI_RX8, by decide +kernel⟩
set_option maxHeartbeats 4000000 in
set_option maxRecDepth 100000 in
theorem kX8_rows (l : Launch) (D : va_G) (cI cJ cZ : ClassId) (m0 m1 m2 m3 m4 m5 m6 m7 m8 m9 m10 m11 m12 m13 : Nat) (M_posts : Int32) (M_roads : Int32) (M_size : Int32) (M_rows : Int32) (M_nextRows_0 : Int32) (M_first : Nat → Int32) (M_second : Nat → Int32) (M_number : Nat → Int32) (M_lists : Nat → Int32) (M_square : Nat → Int32) (M_fan : Nat → Int32) (M_trial : Nat → Int32) (M_touching : Nat → Int32) (M_having : Nat → Int32) (M_most : Nat → Int32) (M_only : Nat → Int32) (M_can : Nat → Int32) (M_next_0 : Nat → Int32)  (out : Int32 × Int32 × (Nat → Int32)) (hf : FX8_rows M_size M_rows M_nextRows_0 M_square M_next_0 = some out) : MI l yX8_rows (Cond.code yX8_rows cX8_rows 1 (some .int) :: GW) { frames := 2, cells := 0, slots := 0, locals := 47 } D cI cJ cZ [.ref m0] (wM cI cJ cZ m0 m1 m2 m3 m4 m5 m6 m7 m8 m9 m10 m11 m12 m13 M_posts M_roads M_size M_rows M_nextRows_0 M_first M_second M_number M_lists M_square M_fan M_trial M_touching M_having M_most M_only M_can M_next_0) (fun r (_ : Unit) => r = out.1) (fun _ => (wM cI cJ cZ m0 m1 m2 m3 m4 m5 m6 m7 m8 m9 m10 m11 m12 m13 M_posts M_roads M_size M_rows out.2.1 M_first M_second M_number M_lists M_square M_fan M_trial M_touching M_having M_most M_only M_can out.2.2)) := by
  intro sz
  refine Met.ofW (cc := cX8_rows) (maxL := 1) (ret := (some .int)) (by decide +kernel) rfl ?_
  intro p e s m args below meth c s₁ B hml hv
  obtain ⟨rfl, hsz, hP, hK, hD0⟩ := hv
  have hx := B.exec
  have hb := B.bytes
  have hr := B.returns
  have hlocks := B.notSynchronized
  have hg : ∀ w ∈ GW, w.before _ s = true := fun w h => atoms_spec (ws := Cond.code yX8_rows cX8_rows 1 (some .int) :: GW) B.pre w (List.mem_cons_of_mem _ h)
  have hown : s.vm.findClass RX8 = some m.cls := findClass_of_methodNamed B.named
  subst hsz
  obtain ⟨A, hAe⟩ : ∃ A, A = va_A (wM cI cJ cZ m0 m1 m2 m3 m4 m5 m6 m7 m8 m9 m10 m11 m12 m13 M_posts M_roads M_size M_rows M_nextRows_0 M_first M_second M_number M_lists M_square M_fan M_trial M_touching M_having M_most M_only M_can M_next_0) s.heap.size := ⟨_, rfl⟩
  have hA : ∀ q : Nat, s.heap.size ≤ q → A q := fun q h => by rw [hAe]; exact Or.inr h
  have hI : WI D A s.heap (wM cI cJ cZ m0 m1 m2 m3 m4 m5 m6 m7 m8 m9 m10 m11 m12 m13 M_posts M_roads M_size M_rows M_nextRows_0 M_first M_second M_number M_lists M_square M_fan M_trial M_touching M_having M_most M_only M_can M_next_0) s.heap [] := ⟨hP, by rw [hAe]; exact hD0.self, va_S.rf⟩
  have hl := lv_entry [.ref m0] (n := 1) (Nat.le_of_ble_eq_true rfl)
  rw [lg_entry_eq]
  generalize (lg_sl [.ref m0] ++ List.replicate (1 - (lg_sl [.ref m0]).length) Slot.unset).toArray = ls at hl ⊢
  replace hl : lv_has ls 1 [(0, .ref m0)] := hl
  obtain ⟨x, hf, hM⟩ : ∃ x, FX8_rows M_size M_rows M_nextRows_0 M_square M_next_0 = some x ∧ x = out := ⟨out, hf, rfl⟩
  refine lv_aload_n hx hb dX8_rows_0 rfl (lv_at hl 0 rfl) ?_
  refine w_get hx hb hg hown hK hI iX8 0 rfl rfl 6 (by decide) wF_RX8_22 rfl dX8_rows_1 ?_
  refine lv_if_lt (tgt := 18) hx hb dX8_rows_4 (by decide) (fun hc => ?_) (fun hc => ?_)
  · replace hf := ite_t hc hf
    refine lv_bipush (v := -2) hx hb dX8_rows_18 (by decide) ?_
    replace hf := Option.some.inj hf
    subst hf
    replace hM : ((-2 : Int32), M_nextRows_0, M_next_0) = out := hM
    subst hM
    exact rt_i (u := ()) hx hb hr hlocks rfl hI hAe rfl dX8_rows_20
  · replace hf := ite_f hc hf
    refine lv_aload_n hx hb dX8_rows_7 rfl (lv_at hl 0 rfl) ?_
    refine w_get hx hb hg hown hK hI iX8 0 rfl rfl 7 (by decide) wF_RX8_162 rfl dX8_rows_8 ?_
    refine lv_aload_n hx hb dX8_rows_11 rfl (lv_at hl 0 rfl) ?_
    refine w_get hx hb hg hown hK hI iX8 0 rfl rfl 6 (by decide) wF_RX8_22 rfl dX8_rows_12 ?_
    refine lv_icmp_ne (tgt := 21) hx hb dX8_rows_15 (by decide) (fun hc => ?_) (fun hc => ?_)
    · replace hf := ite_f hc hf
      refine lv_aload_n hx hb dX8_rows_21 rfl (lv_at hl 0 rfl) ?_
      refine w_get hx hb hg hown hK hI iX8 0 rfl rfl 8 (by decide) wF_RX8_26 rfl dX8_rows_22 ?_
      refine lv_if_ge (tgt := 38) hx hb dX8_rows_25 (by decide) (fun hc => ?_) (fun hc => ?_)
      · replace hf := ite_t hc hf
        refine lv_aload_n hx hb dX8_rows_38 rfl (lv_at hl 0 rfl) ?_
        refine w_get hx hb hg hown hK hI iX8 0 rfl rfl 8 (by decide) wF_RX8_26 rfl dX8_rows_39 ?_
        replace hf := Option.some.inj hf
        subst hf
        replace hM : (M_nextRows_0, M_nextRows_0, M_next_0) = out := hM
        subst hM
        exact rt_i (u := ()) hx hb hr hlocks rfl hI hAe rfl dX8_rows_42
      · replace hf := ite_f hc hf
        refine lv_aload_n hx hb dX8_rows_28 rfl (lv_at hl 0 rfl) ?_
        refine lv_aload_n hx hb dX8_rows_29 rfl (lv_at hl 0 rfl) ?_
        refine lv_ldc hx hb hown (hg _ wV_RX8_174) dX8_rows_30 ?_
        obtain ⟨o1, ho1, hf⟩ := bd_e hf
        refine w_Vi0 (wc := (wM cI cJ cZ m0 m1 m2 m3 m4 m5 m6 m7 m8 m9 m10 m11 m12 m13 M_posts M_roads M_size M_rows M_nextRows_0 M_first M_second M_number M_lists M_square M_fan M_trial M_touching M_having M_most M_only M_can M_next_0)) (wr := []) (rest := [.ref m0]) hx hb hml hg hown hK hA hI (kX8_found l D cI cJ cZ m0 m1 m2 m3 m4 m5 m6 m7 m8 m9 m10 m11 m12 m13 M_posts M_roads M_size M_rows M_nextRows_0 M_first M_second M_number M_lists M_square M_fan M_trial M_touching M_having M_most M_only M_can M_next_0 (1000000000 : Int32) o1 ho1) kvX8_found wL_RX8_171 ⟨Nat.le_of_ble_eq_true rfl, Nat.le_of_ble_eq_true rfl⟩ rfl rfl [0, 1, 2, 3, 4, 5, 6, 7, 8, 9, 10, 11, 12, 13] [] rfl rfl rfl rfl (by decide) rfl rfl hl.1 (Nat.le_of_ble_eq_true rfl) dX8_rows_32 ⟨Nat.zero_le _, Nat.zero_le _⟩ ⟨rfl, rfl⟩ (fun r u H locs hp hI => ?_)
        replace hp : r = o1.1 := hp
        rw [hp]
        clear hp
        replace hI : WI D A s.heap (wM cI cJ cZ m0 m1 m2 m3 m4 m5 m6 m7 m8 m9 m10 m11 m12 m13 M_posts M_roads M_size M_rows M_nextRows_0 M_first M_second M_number M_lists M_square M_fan M_trial M_touching M_having M_most M_only M_can o1.2) H locs := hI
        refine w_put (W1 := (wM cI cJ cZ m0 m1 m2 m3 m4 m5 m6 m7 m8 m9 m10 m11 m12 m13 M_posts M_roads M_size M_rows o1.1 M_first M_second M_number M_lists M_square M_fan M_trial M_touching M_having M_most M_only M_can o1.2)) hx hb hg hown hK hI iX8 tyX8 tyX8_ok nmX8 0 rfl rfl 8 (by decide) wF_RX8_26 rfl (tyX8_ok 8 (by decide)) rfl rfl (Nat.le_of_ble_eq_true rfl) dX8_rows_35 rfl (fun H locs hI => ?_)
        refine lv_aload_n hx hb dX8_rows_38 rfl (lv_at hl 0 rfl) ?_
        refine w_get hx hb hg hown hK hI iX8 0 rfl rfl 8 (by decide) wF_RX8_26 rfl dX8_rows_39 ?_
        replace hf := Option.some.inj hf
        subst hf
        replace hM : (o1.1, o1.1, o1.2) = out := hM
        subst hM
        exact rt_i (u := ()) hx hb hr hlocks rfl hI hAe rfl dX8_rows_42
    · replace hf := ite_t hc hf
      refine lv_bipush (v := -2) hx hb dX8_rows_18 (by decide) ?_
      replace hf := Option.some.inj hf
      subst hf
      replace hM : ((-2 : Int32), M_nextRows_0, M_next_0) = out := hM
      subst hM
      exact rt_i (u := ()) hx hb hr hlocks rfl hI hAe rfl dX8_rows_20
noncomputable def FX8_at (M_size : Int32) (M_rows : Int32) (M_square : Nat → Int32) (a1 : Int32) (a2 : Int32) : Option (Int32) :=
  (FX8_in a1 (0 : Int32) (M_rows - (1 : Int32))).bind (fun x1 => if x1 = (0 : Int32) then (some (-1 : Int32)) else ((FX8_in a2 (0 : Int32) (M_size - (1 : Int32))).bind (fun x2 => if x2 = (0 : Int32) then (some (-1 : Int32)) else (rd M_square 81 (((9 : Int32) * a1) + a2) (fun x3 => some x3)))))
abbrev GX8_at (p : Program) (l : Launch) (e : Env) (s : State) (m : MethodId) (below : List Frame) (meth : Method) (c : Code) (D : va_G) (cI cJ cZ : ClassId) (m0 m1 m2 m3 m4 m5 m6 m7 m8 m9 m10 m11 m12 m13 : Nat) (M_posts : Int32) (M_roads : Int32) (M_size : Int32) (M_rows : Int32) (M_nextRows : Int32) (M_first : Nat → Int32) (M_second : Nat → Int32) (M_number : Nat → Int32) (M_lists : Nat → Int32) (M_square : Nat → Int32) (M_fan : Nat → Int32) (M_trial : Nat → Int32) (M_touching : Nat → Int32) (M_having : Nat → Int32) (M_most : Nat → Int32) (M_only : Nat → Int32) (M_can : Nat → Int32) (M_next : Nat → Int32) (a1 : Int32) (a2 : Int32) (out : Int32) (H : Heap) (locs : List Loc) (g : JFrame) : Prop := W p l e (headSpec (Cond.code yX8_at cX8_at 3 (some .int) :: GW) { frames := 1, cells := 0, slots := 0, locals := 22 }).room s m ([.ref m0, .int a1, .int a2] : List Value).toArray below meth c H locs 0 0 (MQ below (va_Qi (fun r (_ : Unit) => r = out) (BW D (wM cI cJ cZ m0 m1 m2 m3 m4 m5 m6 m7 m8 m9 m10 m11 m12 m13 M_posts M_roads M_size M_rows M_nextRows M_first M_second M_number M_lists M_square M_fan M_trial M_touching M_having M_most M_only M_can M_next) s.heap.size (fun _ => (wM cI cJ cZ m0 m1 m2 m3 m4 m5 m6 m7 m8 m9 m10 m11 m12 m13 M_posts M_roads M_size M_rows M_nextRows M_first M_second M_number M_lists M_square M_fan M_trial M_touching M_having M_most M_only M_can M_next))) (va_A (wM cI cJ cZ m0 m1 m2 m3 m4 m5 m6 m7 m8 m9 m10 m11 m12 m13 M_posts M_roads M_size M_rows M_nextRows M_first M_second M_number M_lists M_square M_fan M_trial M_touching M_having M_most M_only M_can M_next) s.heap.size)) ([.ref m0, .int a1, .int a2] : List Value).toArray s 0 0 (va_A (wM cI cJ cZ m0 m1 m2 m3 m4 m5 m6 m7 m8 m9 m10 m11 m12 m13 M_posts M_roads M_size M_rows M_nextRows M_first M_second M_number M_lists M_square M_fan M_trial M_touching M_having M_most M_only M_can M_next) s.heap.size)) g
theorem kvX8_at : CalV RX8 yX8_at cX8_at 3 (some .int) 2 := ⟨wC_yX8_at, wM_yX8_at, wS_yX8_at, wI_RX8, by decide +kernel⟩
set_option maxHeartbeats 4000000 in
set_option maxRecDepth 100000 in
theorem kX8_at (l : Launch) (D : va_G) (cI cJ cZ : ClassId) (m0 m1 m2 m3 m4 m5 m6 m7 m8 m9 m10 m11 m12 m13 : Nat) (M_posts : Int32) (M_roads : Int32) (M_size : Int32) (M_rows : Int32) (M_nextRows : Int32) (M_first : Nat → Int32) (M_second : Nat → Int32) (M_number : Nat → Int32) (M_lists : Nat → Int32) (M_square : Nat → Int32) (M_fan : Nat → Int32) (M_trial : Nat → Int32) (M_touching : Nat → Int32) (M_having : Nat → Int32) (M_most : Nat → Int32) (M_only : Nat → Int32) (M_can : Nat → Int32) (M_next : Nat → Int32) (a1 : Int32) (a2 : Int32) (out : Int32) (hf : FX8_at M_size M_rows M_square a1 a2 = some out) : MI l yX8_at (Cond.code yX8_at cX8_at 3 (some .int) :: GW) { frames := 1, cells := 0, slots := 0, locals := 22 } D cI cJ cZ [.ref m0, .int a1, .int a2] (wM cI cJ cZ m0 m1 m2 m3 m4 m5 m6 m7 m8 m9 m10 m11 m12 m13 M_posts M_roads M_size M_rows M_nextRows M_first M_second M_number M_lists M_square M_fan M_trial M_touching M_having M_most M_only M_can M_next) (fun r (_ : Unit) => r = out) (fun _ => (wM cI cJ cZ m0 m1 m2 m3 m4 m5 m6 m7 m8 m9 m10 m11 m12 m13 M_posts M_roads M_size M_rows M_nextRows M_first M_second M_number M_lists M_square M_fan M_trial M_touching M_having M_most M_only M_can M_next)) := by
  intro sz
  refine Met.ofW (cc := cX8_at) (maxL := 3) (ret := (some .int)) (by decide +kernel) rfl ?_
  intro p e s m args below meth c s₁ B hml hv
  obtain ⟨rfl, hsz, hP, hK, hD0⟩ := hv
  have hx := B.exec
  have hb := B.bytes
  have hr := B.returns
  have hlocks := B.notSynchronized
  have hg : ∀ w ∈ GW, w.before _ s = true := fun w h => atoms_spec (ws := Cond.code yX8_at cX8_at 3 (some .int) :: GW) B.pre w (List.mem_cons_of_mem _ h)
  have hown : s.vm.findClass RX8 = some m.cls := findClass_of_methodNamed B.named
  subst hsz
  obtain ⟨A, hAe⟩ : ∃ A, A = va_A (wM cI cJ cZ m0 m1 m2 m3 m4 m5 m6 m7 m8 m9 m10 m11 m12 m13 M_posts M_roads M_size M_rows M_nextRows M_first M_second M_number M_lists M_square M_fan M_trial M_touching M_having M_most M_only M_can M_next) s.heap.size := ⟨_, rfl⟩
  have hA : ∀ q : Nat, s.heap.size ≤ q → A q := fun q h => by rw [hAe]; exact Or.inr h
  have hI : WI D A s.heap (wM cI cJ cZ m0 m1 m2 m3 m4 m5 m6 m7 m8 m9 m10 m11 m12 m13 M_posts M_roads M_size M_rows M_nextRows M_first M_second M_number M_lists M_square M_fan M_trial M_touching M_having M_most M_only M_can M_next) s.heap [] := ⟨hP, by rw [hAe]; exact hD0.self, va_S.rf⟩
  have hl := lv_entry [.ref m0, .int a1, .int a2] (n := 3) (Nat.le_of_ble_eq_true rfl)
  rw [lg_entry_eq]
  generalize (lg_sl [.ref m0, .int a1, .int a2] ++ List.replicate (3 - (lg_sl [.ref m0, .int a1, .int a2]).length) Slot.unset).toArray = ls at hl ⊢
  replace hl : lv_has ls 3 [(0, .ref m0), (1, .int a1), (2, .int a2)] := hl
  obtain ⟨x, hf, hM⟩ : ∃ x, FX8_at M_size M_rows M_square a1 a2 = some x ∧ x = out := ⟨out, hf, rfl⟩
  refine lv_iload_n hx hb dX8_at_0 rfl (lv_at hl 1 rfl) ?_
  refine lv_iconst (v := 0) hx hb dX8_at_1 (by decide) ?_
  refine lv_aload_n hx hb dX8_at_2 rfl (lv_at hl 0 rfl) ?_
  refine w_get hx hb hg hown hK hI iX8 0 rfl rfl 7 (by decide) wF_RX8_162 rfl dX8_at_3 ?_
  refine lv_iconst (v := 1) hx hb dX8_at_6 (by decide) ?_
  refine lv_isub hx hb dX8_at_7 ?_
  obtain ⟨x1, hx1, hf⟩ := bd_e hf
  refine w_S (rest := []) hx hb hml hg hown hK (kX8_in l D cI cJ cZ a1 (0 : Int32) (M_rows - (1 : Int32)) x1 hx1) ksX8_in wL_RX8_60 ⟨Nat.le_of_ble_eq_true rfl, Nat.le_of_ble_eq_true rfl⟩ ⟨rfl, rfl⟩ rfl rfl hl.1 (Nat.le_of_ble_eq_true rfl) dX8_at_8 ⟨Nat.zero_le _, Nat.zero_le _⟩ ?_
  refine lv_if_eq (tgt := 42) hx hb dX8_at_11 (by decide) (fun hc => ?_) (fun hc => ?_)
  · replace hf := ite_t hc hf
    refine lv_iconst (v := -1) hx hb dX8_at_42 (by decide) ?_
    replace hf := Option.some.inj hf
    subst hf
    replace hM : (-1 : Int32) = out := hM
    subst hM
    exact rt_i (u := ()) hx hb hr hlocks rfl hI hAe rfl dX8_at_43
  · replace hf := ite_f hc hf
    refine lv_iload_n hx hb dX8_at_14 rfl (lv_at hl 2 rfl) ?_
    refine lv_iconst (v := 0) hx hb dX8_at_15 (by decide) ?_
    refine lv_aload_n hx hb dX8_at_16 rfl (lv_at hl 0 rfl) ?_
    refine w_get hx hb hg hown hK hI iX8 0 rfl rfl 6 (by decide) wF_RX8_22 rfl dX8_at_17 ?_
    refine lv_iconst (v := 1) hx hb dX8_at_20 (by decide) ?_
    refine lv_isub hx hb dX8_at_21 ?_
    obtain ⟨x2, hx2, hf⟩ := bd_e hf
    refine w_S (rest := []) hx hb hml hg hown hK (kX8_in l D cI cJ cZ a2 (0 : Int32) (M_size - (1 : Int32)) x2 hx2) ksX8_in wL_RX8_60 ⟨Nat.le_of_ble_eq_true rfl, Nat.le_of_ble_eq_true rfl⟩ ⟨rfl, rfl⟩ rfl rfl hl.1 (Nat.le_of_ble_eq_true rfl) dX8_at_22 ⟨Nat.zero_le _, Nat.zero_le _⟩ ?_
    refine lv_if_eq (tgt := 42) hx hb dX8_at_25 (by decide) (fun hc => ?_) (fun hc => ?_)
    · replace hf := ite_t hc hf
      refine lv_iconst (v := -1) hx hb dX8_at_42 (by decide) ?_
      replace hf := Option.some.inj hf
      subst hf
      replace hM : (-1 : Int32) = out := hM
      subst hM
      exact rt_i (u := ()) hx hb hr hlocks rfl hI hAe rfl dX8_at_43
    · replace hf := ite_f hc hf
      refine lv_aload_n hx hb dX8_at_28 rfl (lv_at hl 0 rfl) ?_
      refine w_get hx hb hg hown hK hI iX8 0 rfl rfl 9 (by decide) wF_RX8_29 rfl dX8_at_29 ?_
      refine lv_bipush (v := 9) hx hb dX8_at_32 (by decide) ?_
      refine lv_iload_n hx hb dX8_at_34 rfl (lv_at hl 1 rfl) ?_
      refine lv_imul hx hb dX8_at_35 ?_
      refine lv_iload_n hx hb dX8_at_36 rfl (lv_at hl 2 rfl) ?_
      refine lv_iadd hx hb dX8_at_37 ?_
      obtain ⟨hin, hf⟩ := rd_e hf
      refine w_iald hx hb hK hI 5 rfl hin dX8_at_38 (fun x3 ex3 => ?_)
      replace hf := hf x3 ex3
      refine lv_goto (tgt := 43) hx hb dX8_at_39 (by decide) ?_
      replace hf := Option.some.inj hf
      subst hf
      replace hM : x3 = out := hM
      subst hM
      exact rt_i (u := ()) hx hb hr hlocks rfl hI hAe rfl dX8_at_43
noncomputable def X8_meets_L62 (l1 : Int32) (l2 : Int32) (l3 : Int32) (v : Int32) : Option ((Int32) ⊕ (Int32)) :=
  if v = l3 then (bnd (v + (1 : Int32)) (fun x5 => some (.inl x5))) else (rm_ ((l3 + v) - ((2 : Int32) * l2)) (l1 - (1 : Int32)) (fun x6 => if x6 = (0 : Int32) then (some (.inr v)) else (bnd (v + (1 : Int32)) (fun x7 => some (.inl x7)))))
noncomputable def FX8_meets  (a1 : Int32) (a2 : Int32) (a3 : Int32) : Option (Int32) :=
  (FX8_in a1 (2 : Int32) (20 : Int32)).bind (fun x1 => if x1 = (0 : Int32) then (some (-2 : Int32)) else (rm_ a1 (2 : Int32) (fun x2 => if x2 = (0 : Int32) then ((FX8_in a2 (0 : Int32) (a1 - (2 : Int32))).bind (fun x3 => if x3 = (0 : Int32) then (some (-2 : Int32)) else ((FX8_in a3 (0 : Int32) (a1 - (1 : Int32))).bind (fun x4 => if x4 = (0 : Int32) then (some (-2 : Int32)) else (if a3 = (a1 - (1 : Int32)) then (some a2) else (if a3 = a2 then (some (a1 - (1 : Int32))) else (loopO (X8_meets_L62 a1 a2 a3) (0 : Int32)))))))) else (some (-2 : Int32)))))
abbrev GX8_meets (p : Program) (l : Launch) (e : Env) (s : State) (m : MethodId) (below : List Frame) (meth : Method) (c : Code) (D : va_G) (cI cJ cZ : ClassId) (m0 m1 m2 m3 m4 m5 m6 m7 m8 m9 m10 m11 m12 m13 : Nat) (M_posts : Int32) (M_roads : Int32) (M_size : Int32) (M_rows : Int32) (M_nextRows : Int32) (M_first : Nat → Int32) (M_second : Nat → Int32) (M_number : Nat → Int32) (M_lists : Nat → Int32) (M_square : Nat → Int32) (M_fan : Nat → Int32) (M_trial : Nat → Int32) (M_touching : Nat → Int32) (M_having : Nat → Int32) (M_most : Nat → Int32) (M_only : Nat → Int32) (M_can : Nat → Int32) (M_next : Nat → Int32) (a1 : Int32) (a2 : Int32) (a3 : Int32) (out : Int32) (H : Heap) (locs : List Loc) (g : JFrame) : Prop := W p l e (headSpec (Cond.code yX8_meets cX8_meets 5 (some .int) :: GW) { frames := 1, cells := 0, slots := 0, locals := 22 }).room s m ([.ref m0, .int a1, .int a2, .int a3] : List Value).toArray below meth c H locs 0 0 (MQ below (va_Qi (fun r (_ : Unit) => r = out) (BW D (wM cI cJ cZ m0 m1 m2 m3 m4 m5 m6 m7 m8 m9 m10 m11 m12 m13 M_posts M_roads M_size M_rows M_nextRows M_first M_second M_number M_lists M_square M_fan M_trial M_touching M_having M_most M_only M_can M_next) s.heap.size (fun _ => (wM cI cJ cZ m0 m1 m2 m3 m4 m5 m6 m7 m8 m9 m10 m11 m12 m13 M_posts M_roads M_size M_rows M_nextRows M_first M_second M_number M_lists M_square M_fan M_trial M_touching M_having M_most M_only M_can M_next))) (va_A (wM cI cJ cZ m0 m1 m2 m3 m4 m5 m6 m7 m8 m9 m10 m11 m12 m13 M_posts M_roads M_size M_rows M_nextRows M_first M_second M_number M_lists M_square M_fan M_trial M_touching M_having M_most M_only M_can M_next) s.heap.size)) ([.ref m0, .int a1, .int a2, .int a3] : List Value).toArray s 0 0 (va_A (wM cI cJ cZ m0 m1 m2 m3 m4 m5 m6 m7 m8 m9 m10 m11 m12 m13 M_posts M_roads M_size M_rows M_nextRows M_first M_second M_number M_lists M_square M_fan M_trial M_touching M_having M_most M_only M_can M_next) s.heap.size)) g
theorem kvX8_meets : CalV RX8 yX8_meets cX8_meets 5 (some .int) 3 := ⟨wC_yX8_meets, wM_yX8_meets, wS_yX8_meets, wI_RX8, by decide +kernel⟩
set_option maxHeartbeats 4000000 in
set_option maxRecDepth 100000 in
theorem kX8_meets (l : Launch) (D : va_G) (cI cJ cZ : ClassId) (m0 m1 m2 m3 m4 m5 m6 m7 m8 m9 m10 m11 m12 m13 : Nat) (M_posts : Int32) (M_roads : Int32) (M_size : Int32) (M_rows : Int32) (M_nextRows : Int32) (M_first : Nat → Int32) (M_second : Nat → Int32) (M_number : Nat → Int32) (M_lists : Nat → Int32) (M_square : Nat → Int32) (M_fan : Nat → Int32) (M_trial : Nat → Int32) (M_touching : Nat → Int32) (M_having : Nat → Int32) (M_most : Nat → Int32) (M_only : Nat → Int32) (M_can : Nat → Int32) (M_next : Nat → Int32) (a1 : Int32) (a2 : Int32) (a3 : Int32) (out : Int32) (hf : FX8_meets a1 a2 a3 = some out) : MI l yX8_meets (Cond.code yX8_meets cX8_meets 5 (some .int) :: GW) { frames := 1, cells := 0, slots := 0, locals := 22 } D cI cJ cZ [.ref m0, .int a1, .int a2, .int a3] (wM cI cJ cZ m0 m1 m2 m3 m4 m5 m6 m7 m8 m9 m10 m11 m12 m13 M_posts M_roads M_size M_rows M_nextRows M_first M_second M_number M_lists M_square M_fan M_trial M_touching M_having M_most M_only M_can M_next) (fun r (_ : Unit) => r = out) (fun _ => (wM cI cJ cZ m0 m1 m2 m3 m4 m5 m6 m7 m8 m9 m10 m11 m12 m13 M_posts M_roads M_size M_rows M_nextRows M_first M_second M_number M_lists M_square M_fan M_trial M_touching M_having M_most M_only M_can M_next)) := by
  intro sz
  refine Met.ofW (cc := cX8_meets) (maxL := 5) (ret := (some .int)) (by decide +kernel) rfl ?_
  intro p e s m args below meth c s₁ B hml hv
  obtain ⟨rfl, hsz, hP, hK, hD0⟩ := hv
  have hx := B.exec
  have hb := B.bytes
  have hr := B.returns
  have hlocks := B.notSynchronized
  have hg : ∀ w ∈ GW, w.before _ s = true := fun w h => atoms_spec (ws := Cond.code yX8_meets cX8_meets 5 (some .int) :: GW) B.pre w (List.mem_cons_of_mem _ h)
  have hown : s.vm.findClass RX8 = some m.cls := findClass_of_methodNamed B.named
  subst hsz
  obtain ⟨A, hAe⟩ : ∃ A, A = va_A (wM cI cJ cZ m0 m1 m2 m3 m4 m5 m6 m7 m8 m9 m10 m11 m12 m13 M_posts M_roads M_size M_rows M_nextRows M_first M_second M_number M_lists M_square M_fan M_trial M_touching M_having M_most M_only M_can M_next) s.heap.size := ⟨_, rfl⟩
  have hA : ∀ q : Nat, s.heap.size ≤ q → A q := fun q h => by rw [hAe]; exact Or.inr h
  have hI : WI D A s.heap (wM cI cJ cZ m0 m1 m2 m3 m4 m5 m6 m7 m8 m9 m10 m11 m12 m13 M_posts M_roads M_size M_rows M_nextRows M_first M_second M_number M_lists M_square M_fan M_trial M_touching M_having M_most M_only M_can M_next) s.heap [] := ⟨hP, by rw [hAe]; exact hD0.self, va_S.rf⟩
  have hl := lv_entry [.ref m0, .int a1, .int a2, .int a3] (n := 5) (Nat.le_of_ble_eq_true rfl)
  rw [lg_entry_eq]
  generalize (lg_sl [.ref m0, .int a1, .int a2, .int a3] ++ List.replicate (5 - (lg_sl [.ref m0, .int a1, .int a2, .int a3]).length) Slot.unset).toArray = ls at hl ⊢
  replace hl : lv_has ls 5 [(0, .ref m0), (1, .int a1), (2, .int a2), (3, .int a3)] := hl
  have L62 : ∀ (l1 : Int32) (l2 : Int32) (l3 : Int32), ∀ (v : Int32) (x : Int32), loopO (X8_meets_L62 l1 l2 l3) v = some x → (fun z : Int32 => z = out) x → (fun (v : Int32) => ∀ (H : Heap) (locs : List Loc) (ls : Array Slot), WI D A s.heap (wM cI cJ cZ m0 m1 m2 m3 m4 m5 m6 m7 m8 m9 m10 m11 m12 m13 M_posts M_roads M_size M_rows M_nextRows M_first M_second M_number M_lists M_square M_fan M_trial M_touching M_having M_most M_only M_can M_next) H locs → lv_has ls 5 [(1, .int l1), (2, .int l2), (3, .int l3), (4, .int v)] → GX8_meets p l e s m below meth c D cI cJ cZ m0 m1 m2 m3 m4 m5 m6 m7 m8 m9 m10 m11 m12 m13 M_posts M_roads M_size M_rows M_nextRows M_first M_second M_number M_lists M_square M_fan M_trial M_touching M_having M_most M_only M_can M_next a1 a2 a3 out H locs (F0 m 62 ls [])) v := by
    intro l1 l2 l3
    refine loopO_ind (fun (v : Int32) => ∀ (H : Heap) (locs : List Loc) (ls : Array Slot), WI D A s.heap (wM cI cJ cZ m0 m1 m2 m3 m4 m5 m6 m7 m8 m9 m10 m11 m12 m13 M_posts M_roads M_size M_rows M_nextRows M_first M_second M_number M_lists M_square M_fan M_trial M_touching M_having M_most M_only M_can M_next) H locs → lv_has ls 5 [(1, .int l1), (2, .int l2), (3, .int l3), (4, .int v)] → GX8_meets p l e s m below meth c D cI cJ cZ m0 m1 m2 m3 m4 m5 m6 m7 m8 m9 m10 m11 m12 m13 M_posts M_roads M_size M_rows M_nextRows M_first M_second M_number M_lists M_square M_fan M_trial M_touching M_having M_most M_only M_can M_next a1 a2 a3 out H locs (F0 m 62 ls [])) (fun z : Int32 => z = out) ?_
    intro v x hf hM H locs ls hI hl
    refine lv_iload hx hb dX8_meets_62 (lv_at hl 3 rfl) ?_
    refine lv_iload_n hx hb dX8_meets_64 rfl (lv_at hl 2 rfl) ?_
    refine lv_icmp_eq (tgt := 83) hx hb dX8_meets_65 (by decide) (fun hc => ?_) (fun hc => ?_)
    · replace hf := ite_t hc hf
      obtain ⟨x5, ex5⟩ : ∃ y : Int32, y = (v + (1 : Int32)) := ⟨_, rfl⟩
      replace hf := bnd_e hf x5 ex5
      refine lv_iinc (v := x5) (lv' := [(4, .int x5), (1, .int l1), (2, .int l2), (3, .int l3)]) hx hb dX8_meets_83 hl (k := 3) rfl (by rw [ex5]; rfl) (by decide) rfl (fun ls hl => ?_)
      refine lv_goto (tgt := 62) hx hb dX8_meets_86 (by decide) ?_
      replace hf := Option.some.inj hf
      subst hf
      exact hM _ _ _ hI (lv_sub hl [1, 2, 3, 0] rfl)
    · replace hf := ite_f hc hf
      refine lv_iload_n hx hb dX8_meets_68 rfl (lv_at hl 2 rfl) ?_
      refine lv_iload hx hb dX8_meets_69 (lv_at hl 3 rfl) ?_
      refine lv_iadd hx hb dX8_meets_71 ?_
      refine lv_iconst (v := 2) hx hb dX8_meets_72 (by decide) ?_
      refine lv_iload_n hx hb dX8_meets_73 rfl (lv_at hl 1 rfl) ?_
      refine lv_imul hx hb dX8_meets_74 ?_
      refine lv_isub hx hb dX8_meets_75 ?_
      refine lv_iload_n hx hb dX8_meets_76 rfl (lv_at hl 0 rfl) ?_
      refine lv_iconst (v := 1) hx hb dX8_meets_77 (by decide) ?_
      refine lv_isub hx hb dX8_meets_78 ?_
      obtain ⟨hne, hf⟩ := rm_e hf
      refine lv_irem hx hb dX8_meets_79 hne ?_
      refine lv_topi (fun x6 ex6 => ?_)
      replace hf := hf x6 ex6
      refine lv_if_eq (tgt := 89) hx hb dX8_meets_80 (by decide) (fun hc => ?_) (fun hc => ?_)
      · replace hf := ite_t hc hf
        refine lv_iload hx hb dX8_meets_89 (lv_at hl 3 rfl) ?_
        replace hf := Option.some.inj hf
        subst hf
        replace hM : v = out := hM
        subst hM
        exact rt_i (u := ()) hx hb hr hlocks rfl hI hAe rfl dX8_meets_91
      · replace hf := ite_f hc hf
        obtain ⟨x7, ex7⟩ : ∃ y : Int32, y = (v + (1 : Int32)) := ⟨_, rfl⟩
        replace hf := bnd_e hf x7 ex7
        refine lv_iinc (v := x7) (lv' := [(4, .int x7), (1, .int l1), (2, .int l2), (3, .int l3)]) hx hb dX8_meets_83 hl (k := 3) rfl (by rw [ex7]; rfl) (by decide) rfl (fun ls hl => ?_)
        refine lv_goto (tgt := 62) hx hb dX8_meets_86 (by decide) ?_
        replace hf := Option.some.inj hf
        subst hf
        exact hM _ _ _ hI (lv_sub hl [1, 2, 3, 0] rfl)
  obtain ⟨x, hf, hM⟩ : ∃ x, FX8_meets a1 a2 a3 = some x ∧ x = out := ⟨out, hf, rfl⟩
  refine lv_iload_n hx hb dX8_meets_0 rfl (lv_at hl 1 rfl) ?_
  refine lv_iconst (v := 2) hx hb dX8_meets_1 (by decide) ?_
  refine lv_bipush (v := 20) hx hb dX8_meets_2 (by decide) ?_
  obtain ⟨x1, hx1, hf⟩ := bd_e hf
  refine w_S (rest := []) hx hb hml hg hown hK (kX8_in l D cI cJ cZ a1 (2 : Int32) (20 : Int32) x1 hx1) ksX8_in wL_RX8_60 ⟨Nat.le_of_ble_eq_true rfl, Nat.le_of_ble_eq_true rfl⟩ ⟨rfl, rfl⟩ rfl rfl hl.1 (Nat.le_of_ble_eq_true rfl) dX8_meets_4 ⟨Nat.zero_le _, Nat.zero_le _⟩ ?_
  refine lv_if_eq (tgt := 38) hx hb dX8_meets_7 (by decide) (fun hc => ?_) (fun hc => ?_)
  · replace hf := ite_t hc hf
    refine lv_bipush (v := -2) hx hb dX8_meets_38 (by decide) ?_
    replace hf := Option.some.inj hf
    subst hf
    replace hM : (-2 : Int32) = out := hM
    subst hM
    exact rt_i (u := ()) hx hb hr hlocks rfl hI hAe rfl dX8_meets_40
  · replace hf := ite_f hc hf
    refine lv_iload_n hx hb dX8_meets_10 rfl (lv_at hl 1 rfl) ?_
    refine lv_iconst (v := 2) hx hb dX8_meets_11 (by decide) ?_
    obtain ⟨hne, hf⟩ := rm_e hf
    refine lv_irem hx hb dX8_meets_12 hne ?_
    refine lv_topi (fun x2 ex2 => ?_)
    replace hf := hf x2 ex2
    refine lv_if_ne (tgt := 38) hx hb dX8_meets_13 (by decide) (fun hc => ?_) (fun hc => ?_)
    · replace hf := ite_f hc hf
      refine lv_bipush (v := -2) hx hb dX8_meets_38 (by decide) ?_
      replace hf := Option.some.inj hf
      subst hf
      replace hM : (-2 : Int32) = out := hM
      subst hM
      exact rt_i (u := ()) hx hb hr hlocks rfl hI hAe rfl dX8_meets_40
    · replace hf := ite_t hc hf
      refine lv_iload_n hx hb dX8_meets_16 rfl (lv_at hl 2 rfl) ?_
      refine lv_iconst (v := 0) hx hb dX8_meets_17 (by decide) ?_
      refine lv_iload_n hx hb dX8_meets_18 rfl (lv_at hl 1 rfl) ?_
      refine lv_iconst (v := 2) hx hb dX8_meets_19 (by decide) ?_
      refine lv_isub hx hb dX8_meets_20 ?_
      obtain ⟨x3, hx3, hf⟩ := bd_e hf
      refine w_S (rest := []) hx hb hml hg hown hK (kX8_in l D cI cJ cZ a2 (0 : Int32) (a1 - (2 : Int32)) x3 hx3) ksX8_in wL_RX8_60 ⟨Nat.le_of_ble_eq_true rfl, Nat.le_of_ble_eq_true rfl⟩ ⟨rfl, rfl⟩ rfl rfl hl.1 (Nat.le_of_ble_eq_true rfl) dX8_meets_21 ⟨Nat.zero_le _, Nat.zero_le _⟩ ?_
      refine lv_if_eq (tgt := 38) hx hb dX8_meets_24 (by decide) (fun hc => ?_) (fun hc => ?_)
      · replace hf := ite_t hc hf
        refine lv_bipush (v := -2) hx hb dX8_meets_38 (by decide) ?_
        replace hf := Option.some.inj hf
        subst hf
        replace hM : (-2 : Int32) = out := hM
        subst hM
        exact rt_i (u := ()) hx hb hr hlocks rfl hI hAe rfl dX8_meets_40
      · replace hf := ite_f hc hf
        refine lv_iload_n hx hb dX8_meets_27 rfl (lv_at hl 3 rfl) ?_
        refine lv_iconst (v := 0) hx hb dX8_meets_28 (by decide) ?_
        refine lv_iload_n hx hb dX8_meets_29 rfl (lv_at hl 1 rfl) ?_
        refine lv_iconst (v := 1) hx hb dX8_meets_30 (by decide) ?_
        refine lv_isub hx hb dX8_meets_31 ?_
        obtain ⟨x4, hx4, hf⟩ := bd_e hf
        refine w_S (rest := []) hx hb hml hg hown hK (kX8_in l D cI cJ cZ a3 (0 : Int32) (a1 - (1 : Int32)) x4 hx4) ksX8_in wL_RX8_60 ⟨Nat.le_of_ble_eq_true rfl, Nat.le_of_ble_eq_true rfl⟩ ⟨rfl, rfl⟩ rfl rfl hl.1 (Nat.le_of_ble_eq_true rfl) dX8_meets_32 ⟨Nat.zero_le _, Nat.zero_le _⟩ ?_
        refine lv_if_ne (tgt := 41) hx hb dX8_meets_35 (by decide) (fun hc => ?_) (fun hc => ?_)
        · replace hf := ite_f hc hf
          refine lv_iload_n hx hb dX8_meets_41 rfl (lv_at hl 3 rfl) ?_
          refine lv_iload_n hx hb dX8_meets_42 rfl (lv_at hl 1 rfl) ?_
          refine lv_iconst (v := 1) hx hb dX8_meets_43 (by decide) ?_
          refine lv_isub hx hb dX8_meets_44 ?_
          refine lv_icmp_ne (tgt := 50) hx hb dX8_meets_45 (by decide) (fun hc => ?_) (fun hc => ?_)
          · replace hf := ite_f hc hf
            refine lv_iload_n hx hb dX8_meets_50 rfl (lv_at hl 3 rfl) ?_
            refine lv_iload_n hx hb dX8_meets_51 rfl (lv_at hl 2 rfl) ?_
            refine lv_icmp_ne (tgt := 59) hx hb dX8_meets_52 (by decide) (fun hc => ?_) (fun hc => ?_)
            · replace hf := ite_f hc hf
              refine lv_iconst (v := 0) hx hb dX8_meets_59 (by decide) ?_
              refine lv_istore (lv' := [(4, .int (0 : Int32)), (0, .ref m0), (1, .int a1), (2, .int a2), (3, .int a3)]) hx hb dX8_meets_60 hl (by decide) rfl (fun ls hl => ?_)
              exact L62 a1 a2 a3 (0 : Int32) _ hf hM _ _ _ hI (lv_sub hl [2, 3, 4, 0] rfl)
            · replace hf := ite_t hc hf
              refine lv_iload_n hx hb dX8_meets_55 rfl (lv_at hl 1 rfl) ?_
              refine lv_iconst (v := 1) hx hb dX8_meets_56 (by decide) ?_
              refine lv_isub hx hb dX8_meets_57 ?_
              replace hf := Option.some.inj hf
              subst hf
              replace hM : (a1 - (1 : Int32)) = out := hM
              subst hM
              exact rt_i (u := ()) hx hb hr hlocks rfl hI hAe rfl dX8_meets_58
          · replace hf := ite_t hc hf
            refine lv_iload_n hx hb dX8_meets_48 rfl (lv_at hl 2 rfl) ?_
            replace hf := Option.some.inj hf
            subst hf
            replace hM : a2 = out := hM
            subst hM
            exact rt_i (u := ()) hx hb hr hlocks rfl hI hAe rfl dX8_meets_49
        · replace hf := ite_t hc hf
          refine lv_bipush (v := -2) hx hb dX8_meets_38 (by decide) ?_
          replace hf := Option.some.inj hf
          subst hf
          replace hM : (-2 : Int32) = out := hM
          subst hM
          exact rt_i (u := ()) hx hb hr hlocks rfl hI hAe rfl dX8_meets_40
noncomputable def FX8_many (M_posts : Int32) (M_roads : Int32) (M_rows : Int32) (a1 : Int32) : Option (Int32) :=
  if a1 = (0 : Int32) then (some M_posts) else (if a1 = (1 : Int32) then (some M_roads) else (if a1 = (2 : Int32) then (some M_rows) else (some (-2 : Int32))))
abbrev GX8_many (p : Program) (l : Launch) (e : Env) (s : State) (m : MethodId) (below : List Frame) (meth : Method) (c : Code) (D : va_G) (cI cJ cZ : ClassId) (m0 m1 m2 m3 m4 m5 m6 m7 m8 m9 m10 m11 m12 m13 : Nat) (M_posts : Int32) (M_roads : Int32) (M_size : Int32) (M_rows : Int32) (M_nextRows : Int32) (M_first : Nat → Int32) (M_second : Nat → Int32) (M_number : Nat → Int32) (M_lists : Nat → Int32) (M_square : Nat → Int32) (M_fan : Nat → Int32) (M_trial : Nat → Int32) (M_touching : Nat → Int32) (M_having : Nat → Int32) (M_most : Nat → Int32) (M_only : Nat → Int32) (M_can : Nat → Int32) (M_next : Nat → Int32) (a1 : Int32) (out : Int32) (H : Heap) (locs : List Loc) (g : JFrame) : Prop := W p l e (headSpec (Cond.code yX8_many cX8_many 2 (some .int) :: GW) { frames := 0, cells := 0, slots := 0, locals := 0 }).room s m ([.ref m0, .int a1] : List Value).toArray below meth c H locs 0 0 (MQ below (va_Qi (fun r (_ : Unit) => r = out) (BW D (wM cI cJ cZ m0 m1 m2 m3 m4 m5 m6 m7 m8 m9 m10 m11 m12 m13 M_posts M_roads M_size M_rows M_nextRows M_first M_second M_number M_lists M_square M_fan M_trial M_touching M_having M_most M_only M_can M_next) s.heap.size (fun _ => (wM cI cJ cZ m0 m1 m2 m3 m4 m5 m6 m7 m8 m9 m10 m11 m12 m13 M_posts M_roads M_size M_rows M_nextRows M_first M_second M_number M_lists M_square M_fan M_trial M_touching M_having M_most M_only M_can M_next))) (va_A (wM cI cJ cZ m0 m1 m2 m3 m4 m5 m6 m7 m8 m9 m10 m11 m12 m13 M_posts M_roads M_size M_rows M_nextRows M_first M_second M_number M_lists M_square M_fan M_trial M_touching M_having M_most M_only M_can M_next) s.heap.size)) ([.ref m0, .int a1] : List Value).toArray s 0 0 (va_A (wM cI cJ cZ m0 m1 m2 m3 m4 m5 m6 m7 m8 m9 m10 m11 m12 m13 M_posts M_roads M_size M_rows M_nextRows M_first M_second M_number M_lists M_square M_fan M_trial M_touching M_having M_most M_only M_can M_next) s.heap.size)) g
theorem kvX8_many : CalV RX8 yX8_many cX8_many 2 (some .int) 1 := ⟨wC_yX8_many, wM_yX8_many, wS_yX8_many, wI_RX8, by decide +kernel⟩
set_option maxHeartbeats 4000000 in
set_option maxRecDepth 100000 in
theorem kX8_many (l : Launch) (D : va_G) (cI cJ cZ : ClassId) (m0 m1 m2 m3 m4 m5 m6 m7 m8 m9 m10 m11 m12 m13 : Nat) (M_posts : Int32) (M_roads : Int32) (M_size : Int32) (M_rows : Int32) (M_nextRows : Int32) (M_first : Nat → Int32) (M_second : Nat → Int32) (M_number : Nat → Int32) (M_lists : Nat → Int32) (M_square : Nat → Int32) (M_fan : Nat → Int32) (M_trial : Nat → Int32) (M_touching : Nat → Int32) (M_having : Nat → Int32) (M_most : Nat → Int32) (M_only : Nat → Int32) (M_can : Nat → Int32) (M_next : Nat → Int32) (a1 : Int32) (out : Int32) (hf : FX8_many M_posts M_roads M_rows a1 = some out) : MI l yX8_many (Cond.code yX8_many cX8_many 2 (some .int) :: GW) { frames := 0, cells := 0, slots := 0, locals := 0 } D cI cJ cZ [.ref m0, .int a1] (wM cI cJ cZ m0 m1 m2 m3 m4 m5 m6 m7 m8 m9 m10 m11 m12 m13 M_posts M_roads M_size M_rows M_nextRows M_first M_second M_number M_lists M_square M_fan M_trial M_touching M_having M_most M_only M_can M_next) (fun r (_ : Unit) => r = out) (fun _ => (wM cI cJ cZ m0 m1 m2 m3 m4 m5 m6 m7 m8 m9 m10 m11 m12 m13 M_posts M_roads M_size M_rows M_nextRows M_first M_second M_number M_lists M_square M_fan M_trial M_touching M_having M_most M_only M_can M_next)) := by
  intro sz
  refine Met.ofW (cc := cX8_many) (maxL := 2) (ret := (some .int)) (by decide +kernel) rfl ?_
  intro p e s m args below meth c s₁ B hml hv
  obtain ⟨rfl, hsz, hP, hK, hD0⟩ := hv
  have hx := B.exec
  have hb := B.bytes
  have hr := B.returns
  have hlocks := B.notSynchronized
  have hg : ∀ w ∈ GW, w.before _ s = true := fun w h => atoms_spec (ws := Cond.code yX8_many cX8_many 2 (some .int) :: GW) B.pre w (List.mem_cons_of_mem _ h)
  have hown : s.vm.findClass RX8 = some m.cls := findClass_of_methodNamed B.named
  subst hsz
  obtain ⟨A, hAe⟩ : ∃ A, A = va_A (wM cI cJ cZ m0 m1 m2 m3 m4 m5 m6 m7 m8 m9 m10 m11 m12 m13 M_posts M_roads M_size M_rows M_nextRows M_first M_second M_number M_lists M_square M_fan M_trial M_touching M_having M_most M_only M_can M_next) s.heap.size := ⟨_, rfl⟩
  have hA : ∀ q : Nat, s.heap.size ≤ q → A q := fun q h => by rw [hAe]; exact Or.inr h
  have hI : WI D A s.heap (wM cI cJ cZ m0 m1 m2 m3 m4 m5 m6 m7 m8 m9 m10 m11 m12 m13 M_posts M_roads M_size M_rows M_nextRows M_first M_second M_number M_lists M_square M_fan M_trial M_touching M_having M_most M_only M_can M_next) s.heap [] := ⟨hP, by rw [hAe]; exact hD0.self, va_S.rf⟩
  have hl := lv_entry [.ref m0, .int a1] (n := 2) (Nat.le_of_ble_eq_true rfl)
  rw [lg_entry_eq]
  generalize (lg_sl [.ref m0, .int a1] ++ List.replicate (2 - (lg_sl [.ref m0, .int a1]).length) Slot.unset).toArray = ls at hl ⊢
  replace hl : lv_has ls 2 [(0, .ref m0), (1, .int a1)] := hl
  obtain ⟨x, hf, hM⟩ : ∃ x, FX8_many M_posts M_roads M_rows a1 = some x ∧ x = out := ⟨out, hf, rfl⟩
  refine lv_iload_n hx hb dX8_many_0 rfl (lv_at hl 1 rfl) ?_
  refine lv_if_ne (tgt := 11) hx hb dX8_many_1 (by decide) (fun hc => ?_) (fun hc => ?_)
  · replace hf := ite_f hc hf
    refine lv_iload_n hx hb dX8_many_11 rfl (lv_at hl 1 rfl) ?_
    refine lv_iconst (v := 1) hx hb dX8_many_12 (by decide) ?_
    refine lv_icmp_ne (tgt := 23) hx hb dX8_many_13 (by decide) (fun hc => ?_) (fun hc => ?_)
    · replace hf := ite_f hc hf
      refine lv_iload_n hx hb dX8_many_23 rfl (lv_at hl 1 rfl) ?_
      refine lv_iconst (v := 2) hx hb dX8_many_24 (by decide) ?_
      refine lv_icmp_ne (tgt := 35) hx hb dX8_many_25 (by decide) (fun hc => ?_) (fun hc => ?_)
      · replace hf := ite_f hc hf
        refine lv_bipush (v := -2) hx hb dX8_many_35 (by decide) ?_
        replace hf := Option.some.inj hf
        subst hf
        replace hM : (-2 : Int32) = out := hM
        subst hM
        exact rt_i (u := ()) hx hb hr hlocks rfl hI hAe rfl dX8_many_37
      · replace hf := ite_t hc hf
        refine lv_aload_n hx hb dX8_many_28 rfl (lv_at hl 0 rfl) ?_
        refine w_get hx hb hg hown hK hI iX8 0 rfl rfl 7 (by decide) wF_RX8_162 rfl dX8_many_29 ?_
        refine lv_goto (tgt := 37) hx hb dX8_many_32 (by decide) ?_
        replace hf := Option.some.inj hf
        subst hf
        replace hM : M_rows = out := hM
        subst hM
        exact rt_i (u := ()) hx hb hr hlocks rfl hI hAe rfl dX8_many_37
    · replace hf := ite_t hc hf
      refine lv_aload_n hx hb dX8_many_16 rfl (lv_at hl 0 rfl) ?_
      refine w_get hx hb hg hown hK hI iX8 0 rfl rfl 1 (by decide) wF_RX8_57 rfl dX8_many_17 ?_
      refine lv_goto (tgt := 37) hx hb dX8_many_20 (by decide) ?_
      replace hf := Option.some.inj hf
      subst hf
      replace hM : M_roads = out := hM
      subst hM
      exact rt_i (u := ()) hx hb hr hlocks rfl hI hAe rfl dX8_many_37
  · replace hf := ite_t hc hf
    refine lv_aload_n hx hb dX8_many_4 rfl (lv_at hl 0 rfl) ?_
    refine w_get hx hb hg hown hK hI iX8 0 rfl rfl 0 (by decide) wF_RX8_68 rfl dX8_many_5 ?_
    refine lv_goto (tgt := 37) hx hb dX8_many_8 (by decide) ?_
    replace hf := Option.some.inj hf
    subst hf
    replace hM : M_posts = out := hM
    subst hM
    exact rt_i (u := ()) hx hb hr hlocks rfl hI hAe rfl dX8_many_37
