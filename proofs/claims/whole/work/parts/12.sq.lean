noncomputable def X5_begin_L17 (Q_side : Int32) (Q_height : Int32) (l2 : Int32) (v : (Nat → Int32) × Int32) : Option (((Nat → Int32) × Int32) ⊕ (Int32 × Int32 × Int32 × (Nat → Int32))) :=
  if Q_side ≤ v.2 then (some (.inr (l2, Q_side, Q_height, v.1))) else (wr v.1 9 v.2 (0 : Int32) (fun g1 => bnd (v.2 + (1 : Int32)) (fun x2 => some (.inl (g1, x2)))))
noncomputable def FX5_begin (Q_side_0 : Int32) (Q_height_0 : Int32) (Q_taken_0 : Nat → Int32) (a1 : Int32) : Option (Int32 × Int32 × Int32 × (Nat → Int32)) :=
  loopO (X5_begin_L17 a1 (0 : Int32) Q_side_0) (Q_taken_0, (0 : Int32))
abbrev GX5_begin (p : Program) (l : Launch) (e : Env) (s : State) (m : MethodId) (below : List Frame) (meth : Method) (c : Code) (D : va_G) (cI cJ cZ : ClassId) (q0 q1 q2 q3 : Nat) (Q_side_0 : Int32) (Q_height_0 : Int32) (Q_cell : Nat → Int32) (Q_taken_0 : Nat → Int32) (Q_ways : Nat → Int32) (a1 : Int32) (out : Int32 × Int32 × Int32 × (Nat → Int32)) (H : Heap) (locs : List Loc) (g : JFrame) : Prop := W p l e (headSpec (Cond.code yX5_begin cX5_begin 4 (some .int) :: GW) { frames := 0, cells := 0, slots := 0, locals := 0 }).room s m ([.ref q0, .int a1] : List Value).toArray below meth c H locs 0 0 (MQ below (va_Qi (fun r (_ : Unit) => r = out.1) (BW D (wQ cI cJ cZ q0 q1 q2 q3 Q_side_0 Q_height_0 Q_cell Q_taken_0 Q_ways) s.heap.size (fun _ => (wQ cI cJ cZ q0 q1 q2 q3 out.2.1 out.2.2.1 Q_cell out.2.2.2 Q_ways))) (va_A (wQ cI cJ cZ q0 q1 q2 q3 Q_side_0 Q_height_0 Q_cell Q_taken_0 Q_ways) s.heap.size)) ([.ref q0, .int a1] : List Value).toArray s 0 0 (va_A (wQ cI cJ cZ q0 q1 q2 q3 Q_side_0 Q_height_0 Q_cell Q_taken_0 Q_ways) s.heap.size)) g
theorem kvX5_begin : CalV RX5 yX5_begin cX5_begin 4 (some .int) 1 := ⟨wC_yX5_begin, wM_yX5_begin, wS_yX5_begin, wI_RX5, by decide +kernel⟩
set_option maxHeartbeats 4000000 in
set_option maxRecDepth 100000 in
theorem kX5_begin (l : Launch) (D : va_G) (cI cJ cZ : ClassId) (q0 q1 q2 q3 : Nat) (Q_side_0 : Int32) (Q_height_0 : Int32) (Q_cell : Nat → Int32) (Q_taken_0 : Nat → Int32) (Q_ways : Nat → Int32) (a1 : Int32) (out : Int32 × Int32 × Int32 × (Nat → Int32)) (hf : FX5_begin Q_side_0 Q_height_0 Q_taken_0 a1 = some out) : MI l yX5_begin (Cond.code yX5_begin cX5_begin 4 (some .int) :: GW) { frames := 0, cells := 0, slots := 0, locals := 0 } D cI cJ cZ [.ref q0, .int a1] (wQ cI cJ cZ q0 q1 q2 q3 Q_side_0 Q_height_0 Q_cell Q_taken_0 Q_ways) (fun r (_ : Unit) => r = out.1) (fun _ => (wQ cI cJ cZ q0 q1 q2 q3 out.2.1 out.2.2.1 Q_cell out.2.2.2 Q_ways)) := by
  intro sz
  refine Met.ofW (cc := cX5_begin) (maxL := 4) (ret := (some .int)) (by decide +kernel) rfl ?_
  intro p e s m args below meth c s₁ B hml hv
  obtain ⟨rfl, hsz, hP, hK, hD0⟩ := hv
  have hx := B.exec
  have hb := B.bytes
  have hr := B.returns
  have hlocks := B.notSynchronized
  have hg : ∀ w ∈ GW, w.before _ s = true := fun w h => atoms_spec (ws := Cond.code yX5_begin cX5_begin 4 (some .int) :: GW) B.pre w (List.mem_cons_of_mem _ h)
  have hown : s.vm.findClass RX5 = some m.cls := findClass_of_methodNamed B.named
  subst hsz
  obtain ⟨A, hAe⟩ : ∃ A, A = va_A (wQ cI cJ cZ q0 q1 q2 q3 Q_side_0 Q_height_0 Q_cell Q_taken_0 Q_ways) s.heap.size := ⟨_, rfl⟩
  have hA : ∀ q : Nat, s.heap.size ≤ q → A q := fun q h => by rw [hAe]; exact Or.inr h
  have hI : WI D A s.heap (wQ cI cJ cZ q0 q1 q2 q3 Q_side_0 Q_height_0 Q_cell Q_taken_0 Q_ways) s.heap [] := ⟨hP, by rw [hAe]; exact hD0.self, va_S.rf⟩
  have hl := lv_entry [.ref q0, .int a1] (n := 4) (Nat.le_of_ble_eq_true rfl)
  rw [lg_entry_eq]
  generalize (lg_sl [.ref q0, .int a1] ++ List.replicate (4 - (lg_sl [.ref q0, .int a1]).length) Slot.unset).toArray = ls at hl ⊢
  replace hl : lv_has ls 4 [(0, .ref q0), (1, .int a1)] := hl
  have L17 : ∀ (Q_side : Int32) (Q_height : Int32) (l2 : Int32), ∀ (v : (Nat → Int32) × Int32) (x : Int32 × Int32 × Int32 × (Nat → Int32)), loopO (X5_begin_L17 Q_side Q_height l2) v = some x → (fun z : Int32 × Int32 × Int32 × (Nat → Int32) => z = out) x → (fun (v : (Nat → Int32) × Int32) => ∀ (H : Heap) (locs : List Loc) (ls : Array Slot), WI D A s.heap (wQ cI cJ cZ q0 q1 q2 q3 Q_side Q_height Q_cell v.1 Q_ways) H locs → lv_has ls 4 [(0, .ref q0), (2, .int l2), (3, .int v.2)] → GX5_begin p l e s m below meth c D cI cJ cZ q0 q1 q2 q3 Q_side_0 Q_height_0 Q_cell Q_taken_0 Q_ways a1 out H locs (F0 m 17 ls [])) v := by
    intro Q_side Q_height l2
    refine loopO_ind (fun (v : (Nat → Int32) × Int32) => ∀ (H : Heap) (locs : List Loc) (ls : Array Slot), WI D A s.heap (wQ cI cJ cZ q0 q1 q2 q3 Q_side Q_height Q_cell v.1 Q_ways) H locs → lv_has ls 4 [(0, .ref q0), (2, .int l2), (3, .int v.2)] → GX5_begin p l e s m below meth c D cI cJ cZ q0 q1 q2 q3 Q_side_0 Q_height_0 Q_cell Q_taken_0 Q_ways a1 out H locs (F0 m 17 ls [])) (fun z : Int32 × Int32 × Int32 × (Nat → Int32) => z = out) ?_
    intro v x hf hM H locs ls hI hl
    refine lv_iload_n hx hb dX5_begin_17 rfl (lv_at hl 2 rfl) ?_
    refine lv_aload_n hx hb dX5_begin_18 rfl (lv_at hl 0 rfl) ?_
    refine w_get hx hb hg hown hK hI iX5 0 rfl rfl 0 (by decide) wF_RX5_21 rfl dX5_begin_19 ?_
    refine lv_icmp_ge (tgt := 38) hx hb dX5_begin_22 (by decide) (fun hc => ?_) (fun hc => ?_)
    · replace hf := ite_t hc hf
      refine lv_iload_n hx hb dX5_begin_38 rfl (lv_at hl 1 rfl) ?_
      replace hf := Option.some.inj hf
      subst hf
      replace hM : (l2, Q_side, Q_height, v.1) = out := hM
      subst hM
      exact rt_i (u := ()) hx hb hr hlocks rfl hI hAe rfl dX5_begin_39
    · replace hf := ite_f hc hf
      refine lv_aload_n hx hb dX5_begin_25 rfl (lv_at hl 0 rfl) ?_
      refine w_get hx hb hg hown hK hI iX5 0 rfl rfl 3 (by decide) wF_RX5_15 rfl dX5_begin_26 ?_
      refine lv_iload_n hx hb dX5_begin_29 rfl (lv_at hl 2 rfl) ?_
      refine lv_iconst (v := 0) hx hb dX5_begin_30 (by decide) ?_
      obtain ⟨hin, hf⟩ := wr_e hf
      obtain ⟨g1, eg1⟩ : ∃ g : Nat → Int32, g = upd v.1 (v.2).toNatClampNeg (0 : Int32) := ⟨_, rfl⟩
      replace hf := hf g1 eg1
      refine w_iast (g := g1) (W1 := (wQ cI cJ cZ q0 q1 q2 q3 Q_side Q_height Q_cell g1 Q_ways)) hx hb hK hI 2 rfl hin eg1 dX5_begin_31 rfl (fun H locs hI => ?_)
      obtain ⟨x2, ex2⟩ : ∃ y : Int32, y = (v.2 + (1 : Int32)) := ⟨_, rfl⟩
      replace hf := bnd_e hf x2 ex2
      refine lv_iinc (v := x2) (lv' := [(3, .int x2), (0, .ref q0), (2, .int l2)]) hx hb dX5_begin_32 hl (k := 2) rfl (by rw [ex2]; rfl) (by decide) rfl (fun ls hl => ?_)
      refine lv_goto (tgt := 17) hx hb dX5_begin_35 (by decide) ?_
      replace hf := Option.some.inj hf
      subst hf
      exact hM _ _ _ hI (lv_sub hl [1, 2, 0] rfl)
  obtain ⟨x, hf, hM⟩ : ∃ x, FX5_begin Q_side_0 Q_height_0 Q_taken_0 a1 = some x ∧ x = out := ⟨out, hf, rfl⟩
  refine lv_aload_n hx hb dX5_begin_0 rfl (lv_at hl 0 rfl) ?_
  refine w_get hx hb hg hown hK hI iX5 0 rfl rfl 0 (by decide) wF_RX5_21 rfl dX5_begin_1 ?_
  refine lv_istore_n (lv' := [(2, .int Q_side_0), (0, .ref q0), (1, .int a1)]) hx hb dX5_begin_4 rfl hl (by decide) rfl (fun ls hl => ?_)
  refine lv_aload_n hx hb dX5_begin_5 rfl (lv_at hl 1 rfl) ?_
  refine lv_iload_n hx hb dX5_begin_6 rfl (lv_at hl 2 rfl) ?_
  refine w_put (W1 := (wQ cI cJ cZ q0 q1 q2 q3 a1 Q_height_0 Q_cell Q_taken_0 Q_ways)) hx hb hg hown hK hI iX5 tyX5 tyX5_ok nmX5 0 rfl rfl 0 (by decide) wF_RX5_21 rfl (tyX5_ok 0 (by decide)) rfl rfl (Nat.le_of_ble_eq_true rfl) dX5_begin_7 rfl (fun H locs hI => ?_)
  refine lv_aload_n hx hb dX5_begin_10 rfl (lv_at hl 1 rfl) ?_
  refine lv_iconst (v := 0) hx hb dX5_begin_11 (by decide) ?_
  refine w_put (W1 := (wQ cI cJ cZ q0 q1 q2 q3 a1 (0 : Int32) Q_cell Q_taken_0 Q_ways)) hx hb hg hown hK hI iX5 tyX5 tyX5_ok nmX5 0 rfl rfl 1 (by decide) wF_RX5_25 rfl (tyX5_ok 1 (by decide)) rfl rfl (Nat.le_of_ble_eq_true rfl) dX5_begin_12 rfl (fun H locs hI => ?_)
  refine lv_iconst (v := 0) hx hb dX5_begin_15 (by decide) ?_
  refine lv_istore_n (lv' := [(3, .int (0 : Int32)), (2, .int Q_side_0), (0, .ref q0), (1, .int a1)]) hx hb dX5_begin_16 rfl hl (by decide) rfl (fun ls hl => ?_)
  exact L17 a1 (0 : Int32) Q_side_0 (Q_taken_0, (0 : Int32)) _ hf hM _ _ _ hI (lv_sub hl [2, 1, 0] rfl)
noncomputable def FX5_hasRoom (Q_side : Int32) (Q_height : Int32)  : Option (Int32) :=
  if Q_side ≤ Q_height then (some (0 : Int32)) else (some (1 : Int32))
abbrev GX5_hasRoom (p : Program) (l : Launch) (e : Env) (s : State) (m : MethodId) (below : List Frame) (meth : Method) (c : Code) (D : va_G) (cI cJ cZ : ClassId) (q0 q1 q2 q3 : Nat) (Q_side : Int32) (Q_height : Int32) (Q_cell : Nat → Int32) (Q_taken : Nat → Int32) (Q_ways : Nat → Int32)  (out : Int32) (H : Heap) (locs : List Loc) (g : JFrame) : Prop := W p l e (headSpec (Cond.code yX5_hasRoom cX5_hasRoom 1 (some .boolean) :: GW) { frames := 0, cells := 0, slots := 0, locals := 0 }).room s m ([.ref q0] : List Value).toArray below meth c H locs 0 0 (MQ below (va_Qi (fun r (_ : Unit) => r = out) (BW D (wQ cI cJ cZ q0 q1 q2 q3 Q_side Q_height Q_cell Q_taken Q_ways) s.heap.size (fun _ => (wQ cI cJ cZ q0 q1 q2 q3 Q_side Q_height Q_cell Q_taken Q_ways))) (va_A (wQ cI cJ cZ q0 q1 q2 q3 Q_side Q_height Q_cell Q_taken Q_ways) s.heap.size)) ([.ref q0] : List Value).toArray s 0 0 (va_A (wQ cI cJ cZ q0 q1 q2 q3 Q_side Q_height Q_cell Q_taken Q_ways) s.heap.size)) g
theorem kvX5_hasRoom : CalV RX5 yX5_hasRoom cX5_hasRoom 1 (some .boolean) 0 := ⟨wC_yX5_hasRoom, wM_yX5_hasRoom, wS_yX5_hasRoom, wI_RX5, by decide +kernel⟩
set_option maxHeartbeats 4000000 in
set_option maxRecDepth 100000 in
theorem kX5_hasRoom (l : Launch) (D : va_G) (cI cJ cZ : ClassId) (q0 q1 q2 q3 : Nat) (Q_side : Int32) (Q_height : Int32) (Q_cell : Nat → Int32) (Q_taken : Nat → Int32) (Q_ways : Nat → Int32)  (out : Int32) (hf : FX5_hasRoom Q_side Q_height = some out) : MI l yX5_hasRoom (Cond.code yX5_hasRoom cX5_hasRoom 1 (some .boolean) :: GW) { frames := 0, cells := 0, slots := 0, locals := 0 } D cI cJ cZ [.ref q0] (wQ cI cJ cZ q0 q1 q2 q3 Q_side Q_height Q_cell Q_taken Q_ways) (fun r (_ : Unit) => r = out) (fun _ => (wQ cI cJ cZ q0 q1 q2 q3 Q_side Q_height Q_cell Q_taken Q_ways)) := by
  intro sz
  refine Met.ofW (cc := cX5_hasRoom) (maxL := 1) (ret := (some .boolean)) (by decide +kernel) rfl ?_
  intro p e s m args below meth c s₁ B hml hv
  obtain ⟨rfl, hsz, hP, hK, hD0⟩ := hv
  have hx := B.exec
  have hb := B.bytes
  have hr := B.returns
  have hlocks := B.notSynchronized
  have hg : ∀ w ∈ GW, w.before _ s = true := fun w h => atoms_spec (ws := Cond.code yX5_hasRoom cX5_hasRoom 1 (some .boolean) :: GW) B.pre w (List.mem_cons_of_mem _ h)
  have hown : s.vm.findClass RX5 = some m.cls := findClass_of_methodNamed B.named
  subst hsz
  obtain ⟨A, hAe⟩ : ∃ A, A = va_A (wQ cI cJ cZ q0 q1 q2 q3 Q_side Q_height Q_cell Q_taken Q_ways) s.heap.size := ⟨_, rfl⟩
  have hA : ∀ q : Nat, s.heap.size ≤ q → A q := fun q h => by rw [hAe]; exact Or.inr h
  have hI : WI D A s.heap (wQ cI cJ cZ q0 q1 q2 q3 Q_side Q_height Q_cell Q_taken Q_ways) s.heap [] := ⟨hP, by rw [hAe]; exact hD0.self, va_S.rf⟩
  have hl := lv_entry [.ref q0] (n := 1) (Nat.le_of_ble_eq_true rfl)
  rw [lg_entry_eq]
  generalize (lg_sl [.ref q0] ++ List.replicate (1 - (lg_sl [.ref q0]).length) Slot.unset).toArray = ls at hl ⊢
  replace hl : lv_has ls 1 [(0, .ref q0)] := hl
  obtain ⟨x, hf, hM⟩ : ∃ x, FX5_hasRoom Q_side Q_height = some x ∧ x = out := ⟨out, hf, rfl⟩
  refine lv_aload_n hx hb dX5_hasRoom_0 rfl (lv_at hl 0 rfl) ?_
  refine w_get hx hb hg hown hK hI iX5 0 rfl rfl 1 (by decide) wF_RX5_25 rfl dX5_hasRoom_1 ?_
  refine lv_aload_n hx hb dX5_hasRoom_4 rfl (lv_at hl 0 rfl) ?_
  refine w_get hx hb hg hown hK hI iX5 0 rfl rfl 0 (by decide) wF_RX5_21 rfl dX5_hasRoom_5 ?_
  refine lv_icmp_ge (tgt := 15) hx hb dX5_hasRoom_8 (by decide) (fun hc => ?_) (fun hc => ?_)
  · replace hf := ite_t hc hf
    refine lv_iconst (v := 0) hx hb dX5_hasRoom_15 (by decide) ?_
    replace hf := Option.some.inj hf
    subst hf
    replace hM : (0 : Int32) = out := hM
    subst hM
    exact rt_i (u := ()) hx hb hr hlocks (by decide) hI hAe rfl dX5_hasRoom_16
  · replace hf := ite_f hc hf
    refine lv_iconst (v := 1) hx hb dX5_hasRoom_11 (by decide) ?_
    refine lv_goto (tgt := 16) hx hb dX5_hasRoom_12 (by decide) ?_
    replace hf := Option.some.inj hf
    subst hf
    replace hM : (1 : Int32) = out := hM
    subst hM
    exact rt_i (u := ()) hx hb hr hlocks (by decide) hI hAe rfl dX5_hasRoom_16
noncomputable def FX5_allNumbers (Q_side : Int32)  : Option (Int32) :=
  some (((1 : Int32) <<< (Q_side &&& (31 : Int32))) - (1 : Int32))
abbrev GX5_allNumbers (p : Program) (l : Launch) (e : Env) (s : State) (m : MethodId) (below : List Frame) (meth : Method) (c : Code) (D : va_G) (cI cJ cZ : ClassId) (q0 q1 q2 q3 : Nat) (Q_side : Int32) (Q_height : Int32) (Q_cell : Nat → Int32) (Q_taken : Nat → Int32) (Q_ways : Nat → Int32)  (out : Int32) (H : Heap) (locs : List Loc) (g : JFrame) : Prop := W p l e (headSpec (Cond.code yX5_allNumbers cX5_allNumbers 1 (some .int) :: GW) { frames := 0, cells := 0, slots := 0, locals := 0 }).room s m ([.ref q0] : List Value).toArray below meth c H locs 0 0 (MQ below (va_Qi (fun r (_ : Unit) => r = out) (BW D (wQ cI cJ cZ q0 q1 q2 q3 Q_side Q_height Q_cell Q_taken Q_ways) s.heap.size (fun _ => (wQ cI cJ cZ q0 q1 q2 q3 Q_side Q_height Q_cell Q_taken Q_ways))) (va_A (wQ cI cJ cZ q0 q1 q2 q3 Q_side Q_height Q_cell Q_taken Q_ways) s.heap.size)) ([.ref q0] : List Value).toArray s 0 0 (va_A (wQ cI cJ cZ q0 q1 q2 q3 Q_side Q_height Q_cell Q_taken Q_ways) s.heap.size)) g
theorem kvX5_allNumbers : CalV RX5 yX5_allNumbers cX5_allNumbers 1 (some .int) 0 := ⟨wC_yX5_allNumbers, wM_yX5_allNumbers, wS_yX5_allNumbers, wI_RX5, by decide +kernel⟩
set_option maxHeartbeats 4000000 in
set_option maxRecDepth 100000 in
theorem kX5_allNumbers (l : Launch) (D : va_G) (cI cJ cZ : ClassId) (q0 q1 q2 q3 : Nat) (Q_side : Int32) (Q_height : Int32) (Q_cell : Nat → Int32) (Q_taken : Nat → Int32) (Q_ways : Nat → Int32)  (out : Int32) (hf : FX5_allNumbers Q_side = some out) : MI l yX5_allNumbers (Cond.code yX5_allNumbers cX5_allNumbers 1 (some .int) :: GW) { frames := 0, cells := 0, slots := 0, locals := 0 } D cI cJ cZ [.ref q0] (wQ cI cJ cZ q0 q1 q2 q3 Q_side Q_height Q_cell Q_taken Q_ways) (fun r (_ : Unit) => r = out) (fun _ => (wQ cI cJ cZ q0 q1 q2 q3 Q_side Q_height Q_cell Q_taken Q_ways)) := by
  intro sz
  refine Met.ofW (cc := cX5_allNumbers) (maxL := 1) (ret := (some .int)) (by decide +kernel) rfl ?_
  intro p e s m args below meth c s₁ B hml hv
  obtain ⟨rfl, hsz, hP, hK, hD0⟩ := hv
  have hx := B.exec
  have hb := B.bytes
  have hr := B.returns
  have hlocks := B.notSynchronized
  have hg : ∀ w ∈ GW, w.before _ s = true := fun w h => atoms_spec (ws := Cond.code yX5_allNumbers cX5_allNumbers 1 (some .int) :: GW) B.pre w (List.mem_cons_of_mem _ h)
  have hown : s.vm.findClass RX5 = some m.cls := findClass_of_methodNamed B.named
  subst hsz
  obtain ⟨A, hAe⟩ : ∃ A, A = va_A (wQ cI cJ cZ q0 q1 q2 q3 Q_side Q_height Q_cell Q_taken Q_ways) s.heap.size := ⟨_, rfl⟩
  have hA : ∀ q : Nat, s.heap.size ≤ q → A q := fun q h => by rw [hAe]; exact Or.inr h
  have hI : WI D A s.heap (wQ cI cJ cZ q0 q1 q2 q3 Q_side Q_height Q_cell Q_taken Q_ways) s.heap [] := ⟨hP, by rw [hAe]; exact hD0.self, va_S.rf⟩
  have hl := lv_entry [.ref q0] (n := 1) (Nat.le_of_ble_eq_true rfl)
  rw [lg_entry_eq]
  generalize (lg_sl [.ref q0] ++ List.replicate (1 - (lg_sl [.ref q0]).length) Slot.unset).toArray = ls at hl ⊢
  replace hl : lv_has ls 1 [(0, .ref q0)] := hl
  obtain ⟨x, hf, hM⟩ : ∃ x, FX5_allNumbers Q_side = some x ∧ x = out := ⟨out, hf, rfl⟩
  refine lv_iconst (v := 1) hx hb dX5_allNumbers_0 (by decide) ?_
  refine lv_aload_n hx hb dX5_allNumbers_1 rfl (lv_at hl 0 rfl) ?_
  refine w_get hx hb hg hown hK hI iX5 0 rfl rfl 0 (by decide) wF_RX5_21 rfl dX5_allNumbers_2 ?_
  refine lv_ishl hx hb dX5_allNumbers_5 ?_
  refine lv_iconst (v := 1) hx hb dX5_allNumbers_6 (by decide) ?_
  refine lv_isub hx hb dX5_allNumbers_7 ?_
  replace hf := Option.some.inj hf
  subst hf
  replace hM : (((1 : Int32) <<< (Q_side &&& (31 : Int32))) - (1 : Int32)) = out := hM
  subst hM
  exact rt_i (u := ()) hx hb hr hlocks rfl hI hAe rfl dX5_allNumbers_8
noncomputable def X5_canStandNext_J71 (l3 : Int32) : Option (Int32) :=
  if l3 = (0 : Int32) then (some (1 : Int32)) else (some (0 : Int32))
noncomputable def X5_canStandNext_L21 (Q_taken : Nat → Int32) (v : Int32 × Int32 × Int32) : Option ((Int32 × Int32 × Int32) ⊕ (Int32)) :=
  if v.2.2 < (0 : Int32) then ((X5_canStandNext_J71 v.2.1).map (fun z => (.inr z))) else (rm_ v.2.1 (10 : Int32) (fun x3 => rd Q_taken 9 v.2.2 (fun x4 => (FX7_isIn (v.1 &&& (x4 ^^^ (-1 : Int32))) x3).bind (fun x5 => if x5 = (0 : Int32) then (some (.inr (0 : Int32))) else (bnd (v.1 ^^^ ((1 : Int32) <<< (x3 &&& (31 : Int32)))) (fun x6 => dv v.2.1 (10 : Int32) (fun x7 => bnd (v.2.2 + (-1 : Int32)) (fun x8 => some (.inl (x6, x7, x8))))))))))
noncomputable def FX5_canStandNext (Q_side : Int32) (Q_taken : Nat → Int32) (a1 : Int32) : Option (Int32) :=
  if (0 : Int32) ≤ a1 then ((FX5_allNumbers Q_side).bind (fun o1 => bnd (Q_side - (1 : Int32)) (fun x2 => loopO (X5_canStandNext_L21 Q_taken) (o1, a1, x2)))) else (some (0 : Int32))
abbrev GX5_canStandNext (p : Program) (l : Launch) (e : Env) (s : State) (m : MethodId) (below : List Frame) (meth : Method) (c : Code) (D : va_G) (cI cJ cZ : ClassId) (q0 q1 q2 q3 : Nat) (Q_side : Int32) (Q_height : Int32) (Q_cell : Nat → Int32) (Q_taken : Nat → Int32) (Q_ways : Nat → Int32) (a1 : Int32) (out : Int32) (H : Heap) (locs : List Loc) (g : JFrame) : Prop := W p l e (headSpec (Cond.code yX5_canStandNext cX5_canStandNext 6 (some .boolean) :: GW) { frames := 1, cells := 0, slots := 0, locals := 21 }).room s m ([.ref q0, .int a1] : List Value).toArray below meth c H locs 0 0 (MQ below (va_Qi (fun r (_ : Unit) => r = out) (BW D (wQ cI cJ cZ q0 q1 q2 q3 Q_side Q_height Q_cell Q_taken Q_ways) s.heap.size (fun _ => (wQ cI cJ cZ q0 q1 q2 q3 Q_side Q_height Q_cell Q_taken Q_ways))) (va_A (wQ cI cJ cZ q0 q1 q2 q3 Q_side Q_height Q_cell Q_taken Q_ways) s.heap.size)) ([.ref q0, .int a1] : List Value).toArray s 0 0 (va_A (wQ cI cJ cZ q0 q1 q2 q3 Q_side Q_height Q_cell Q_taken Q_ways) s.heap.size)) g
theorem kvX5_canStandNext : CalV RX5 yX5_canStandNext cX5_canStandNext 6 (some .boolean) 1 := ⟨wC_yX5_canStandNext, wM_yX5_canStandNext, wS_yX5_canStandNext, wI_RX5, by decide +kernel⟩
set_option maxHeartbeats 4000000 in
set_option maxRecDepth 100000 in
theorem kX5_canStandNext (l : Launch) (D : va_G) (cI cJ cZ : ClassId) (q0 q1 q2 q3 : Nat) (Q_side : Int32) (Q_height : Int32) (Q_cell : Nat → Int32) (Q_taken : Nat → Int32) (Q_ways : Nat → Int32) (a1 : Int32) (out : Int32) (hf : FX5_canStandNext Q_side Q_taken a1 = some out) : MI l yX5_canStandNext (Cond.code yX5_canStandNext cX5_canStandNext 6 (some .boolean) :: GW) { frames := 1, cells := 0, slots := 0, locals := 21 } D cI cJ cZ [.ref q0, .int a1] (wQ cI cJ cZ q0 q1 q2 q3 Q_side Q_height Q_cell Q_taken Q_ways) (fun r (_ : Unit) => r = out) (fun _ => (wQ cI cJ cZ q0 q1 q2 q3 Q_side Q_height Q_cell Q_taken Q_ways)) := by
  intro sz
  refine Met.ofW (cc := cX5_canStandNext) (maxL := 6) (ret := (some .boolean)) (by decide +kernel) rfl ?_
  intro p e s m args below meth c s₁ B hml hv
  obtain ⟨rfl, hsz, hP, hK, hD0⟩ := hv
  have hx := B.exec
  have hb := B.bytes
  have hr := B.returns
  have hlocks := B.notSynchronized
  have hg : ∀ w ∈ GW, w.before _ s = true := fun w h => atoms_spec (ws := Cond.code yX5_canStandNext cX5_canStandNext 6 (some .boolean) :: GW) B.pre w (List.mem_cons_of_mem _ h)
  have hown : s.vm.findClass RX5 = some m.cls := findClass_of_methodNamed B.named
  subst hsz
  obtain ⟨A, hAe⟩ : ∃ A, A = va_A (wQ cI cJ cZ q0 q1 q2 q3 Q_side Q_height Q_cell Q_taken Q_ways) s.heap.size := ⟨_, rfl⟩
  have hA : ∀ q : Nat, s.heap.size ≤ q → A q := fun q h => by rw [hAe]; exact Or.inr h
  have hI : WI D A s.heap (wQ cI cJ cZ q0 q1 q2 q3 Q_side Q_height Q_cell Q_taken Q_ways) s.heap [] := ⟨hP, by rw [hAe]; exact hD0.self, va_S.rf⟩
  have hl := lv_entry [.ref q0, .int a1] (n := 6) (Nat.le_of_ble_eq_true rfl)
  rw [lg_entry_eq]
  generalize (lg_sl [.ref q0, .int a1] ++ List.replicate (6 - (lg_sl [.ref q0, .int a1]).length) Slot.unset).toArray = ls at hl ⊢
  replace hl : lv_has ls 6 [(0, .ref q0), (1, .int a1)] := hl
  have J71 : ∀ (l3 : Int32) (x : Int32), X5_canStandNext_J71 l3 = some x → (fun z : Int32 => z = out) x → ∀ (H : Heap) (locs : List Loc) (ls : Array Slot), WI D A s.heap (wQ cI cJ cZ q0 q1 q2 q3 Q_side Q_height Q_cell Q_taken Q_ways) H locs → lv_has ls 6 [(3, .int l3)] → GX5_canStandNext p l e s m below meth c D cI cJ cZ q0 q1 q2 q3 Q_side Q_height Q_cell Q_taken Q_ways a1 out H locs (F0 m 71 ls []) := by
    intro l3 x hf hM H locs ls hI hl
    refine lv_iload_n hx hb dX5_canStandNext_71 rfl (lv_at hl 0 rfl) ?_
    refine lv_if_ne (tgt := 79) hx hb dX5_canStandNext_72 (by decide) (fun hc => ?_) (fun hc => ?_)
    · replace hf := ite_f hc hf
      refine lv_iconst (v := 0) hx hb dX5_canStandNext_79 (by decide) ?_
      replace hf := Option.some.inj hf
      subst hf
      replace hM : (0 : Int32) = out := hM
      subst hM
      exact rt_i (u := ()) hx hb hr hlocks (by decide) hI hAe rfl dX5_canStandNext_80
    · replace hf := ite_t hc hf
      refine lv_iconst (v := 1) hx hb dX5_canStandNext_75 (by decide) ?_
      refine lv_goto (tgt := 80) hx hb dX5_canStandNext_76 (by decide) ?_
      replace hf := Option.some.inj hf
      subst hf
      replace hM : (1 : Int32) = out := hM
      subst hM
      exact rt_i (u := ()) hx hb hr hlocks (by decide) hI hAe rfl dX5_canStandNext_80
  have L21 : ∀ (v : Int32 × Int32 × Int32) (x : Int32), loopO (X5_canStandNext_L21 Q_taken) v = some x → (fun z : Int32 => z = out) x → (fun (v : Int32 × Int32 × Int32) => ∀ (H : Heap) (locs : List Loc) (ls : Array Slot), WI D A s.heap (wQ cI cJ cZ q0 q1 q2 q3 Q_side Q_height Q_cell Q_taken Q_ways) H locs → lv_has ls 6 [(0, .ref q0), (2, .int v.1), (3, .int v.2.1), (4, .int v.2.2)] → GX5_canStandNext p l e s m below meth c D cI cJ cZ q0 q1 q2 q3 Q_side Q_height Q_cell Q_taken Q_ways a1 out H locs (F0 m 21 ls [])) v := by
    refine loopO_ind (fun (v : Int32 × Int32 × Int32) => ∀ (H : Heap) (locs : List Loc) (ls : Array Slot), WI D A s.heap (wQ cI cJ cZ q0 q1 q2 q3 Q_side Q_height Q_cell Q_taken Q_ways) H locs → lv_has ls 6 [(0, .ref q0), (2, .int v.1), (3, .int v.2.1), (4, .int v.2.2)] → GX5_canStandNext p l e s m below meth c D cI cJ cZ q0 q1 q2 q3 Q_side Q_height Q_cell Q_taken Q_ways a1 out H locs (F0 m 21 ls [])) (fun z : Int32 => z = out) ?_
    intro v x hf hM H locs ls hI hl
    refine lv_iload hx hb dX5_canStandNext_21 (lv_at hl 3 rfl) ?_
    refine lv_if_lt (tgt := 71) hx hb dX5_canStandNext_23 (by decide) (fun hc => ?_) (fun hc => ?_)
    · replace hf := ite_t hc hf
      obtain ⟨z, hf2, ez⟩ := mp_e hf
      clear hf
      subst ez
      exact J71 v.2.1 _ hf2 hM _ _ _ hI (lv_sub hl [2] rfl)
    · replace hf := ite_f hc hf
      refine lv_iload_n hx hb dX5_canStandNext_26 rfl (lv_at hl 2 rfl) ?_
      refine lv_bipush (v := 10) hx hb dX5_canStandNext_27 (by decide) ?_
      obtain ⟨hne, hf⟩ := rm_e hf
      refine lv_irem hx hb dX5_canStandNext_29 hne ?_
      refine lv_topi (fun x3 ex3 => ?_)
      replace hf := hf x3 ex3
      refine lv_istore (lv' := [(5, .int x3), (0, .ref q0), (2, .int v.1), (3, .int v.2.1), (4, .int v.2.2)]) hx hb dX5_canStandNext_30 hl (by decide) rfl (fun ls hl => ?_)
      refine lv_iload_n hx hb dX5_canStandNext_32 rfl (lv_at hl 2 rfl) ?_
      refine lv_aload_n hx hb dX5_canStandNext_33 rfl (lv_at hl 1 rfl) ?_
      refine w_get hx hb hg hown hK hI iX5 0 rfl rfl 3 (by decide) wF_RX5_15 rfl dX5_canStandNext_34 ?_
      refine lv_iload hx hb dX5_canStandNext_37 (lv_at hl 4 rfl) ?_
      obtain ⟨hin, hf⟩ := rd_e hf
      refine w_iald hx hb hK hI 2 rfl hin dX5_canStandNext_39 (fun x4 ex4 => ?_)
      replace hf := hf x4 ex4
      refine lv_iconst (v := -1) hx hb dX5_canStandNext_40 (by decide) ?_
      refine lv_ixor hx hb dX5_canStandNext_41 ?_
      refine lv_iand hx hb dX5_canStandNext_42 ?_
      refine lv_iload hx hb dX5_canStandNext_43 (lv_at hl 0 rfl) ?_
      obtain ⟨x5, hx5, hf⟩ := bd_e hf
      refine w_N (rest := []) hx hb hml hg hown hK (kX7_isIn l D cI cJ cZ (v.1 &&& (x4 ^^^ (-1 : Int32))) x3 x5 hx5) ksX7_isIn (List.mem_of_getElem? (i := 6) rfl) ⟨Nat.le_of_ble_eq_true rfl, Nat.le_of_ble_eq_true rfl⟩ ⟨rfl, rfl⟩ rfl rfl hl.1 (Nat.le_of_ble_eq_true rfl) dX5_canStandNext_45 ⟨Nat.zero_le _, Nat.zero_le _⟩ ?_
      refine lv_if_ne (tgt := 53) hx hb dX5_canStandNext_48 (by decide) (fun hc => ?_) (fun hc => ?_)
      · replace hf := ite_f hc hf
        refine lv_iload_n hx hb dX5_canStandNext_53 rfl (lv_at hl 2 rfl) ?_
        refine lv_iconst (v := 1) hx hb dX5_canStandNext_54 (by decide) ?_
        refine lv_iload hx hb dX5_canStandNext_55 (lv_at hl 0 rfl) ?_
        refine lv_ishl hx hb dX5_canStandNext_57 ?_
        refine lv_ixor hx hb dX5_canStandNext_58 ?_
        refine lv_topi (fun x6 ex6 => ?_)
        replace hf := bnd_e hf x6 ex6
        refine lv_istore_n (lv' := [(2, .int x6), (5, .int x3), (0, .ref q0), (3, .int v.2.1), (4, .int v.2.2)]) hx hb dX5_canStandNext_59 rfl hl (by decide) rfl (fun ls hl => ?_)
        refine lv_iload_n hx hb dX5_canStandNext_60 rfl (lv_at hl 3 rfl) ?_
        refine lv_bipush (v := 10) hx hb dX5_canStandNext_61 (by decide) ?_
        obtain ⟨hne, hf⟩ := dv_e hf
        refine lv_idiv hx hb dX5_canStandNext_63 hne ?_
        refine lv_topi (fun x7 ex7 => ?_)
        replace hf := hf x7 ex7
        refine lv_istore_n (lv' := [(3, .int x7), (2, .int x6), (5, .int x3), (0, .ref q0), (4, .int v.2.2)]) hx hb dX5_canStandNext_64 rfl hl (by decide) rfl (fun ls hl => ?_)
        obtain ⟨x8, ex8⟩ : ∃ y : Int32, y = (v.2.2 + (-1 : Int32)) := ⟨_, rfl⟩
        replace hf := bnd_e hf x8 ex8
        refine lv_iinc (v := x8) (lv' := [(4, .int x8), (3, .int x7), (2, .int x6), (5, .int x3), (0, .ref q0)]) hx hb dX5_canStandNext_65 hl (k := 4) rfl (by rw [ex8]; rfl) (by decide) rfl (fun ls hl => ?_)
        refine lv_goto (tgt := 21) hx hb dX5_canStandNext_68 (by decide) ?_
        replace hf := Option.some.inj hf
        subst hf
        exact hM _ _ _ hI (lv_sub hl [4, 2, 1, 0] rfl)
      · replace hf := ite_t hc hf
        refine lv_iconst (v := 0) hx hb dX5_canStandNext_51 (by decide) ?_
        replace hf := Option.some.inj hf
        subst hf
        replace hM : (0 : Int32) = out := hM
        subst hM
        exact rt_i (u := ()) hx hb hr hlocks (by decide) hI hAe rfl dX5_canStandNext_52
  obtain ⟨x, hf, hM⟩ : ∃ x, FX5_canStandNext Q_side Q_taken a1 = some x ∧ x = out := ⟨out, hf, rfl⟩
  refine lv_iload_n hx hb dX5_canStandNext_0 rfl (lv_at hl 1 rfl) ?_
  refine lv_if_ge (tgt := 6) hx hb dX5_canStandNext_1 (by decide) (fun hc => ?_) (fun hc => ?_)
  · replace hf := ite_t hc hf
    refine lv_aload_n hx hb dX5_canStandNext_6 rfl (lv_at hl 0 rfl) ?_
    obtain ⟨o1, ho1, hf⟩ := bd_e hf
    refine w_Vi0 (wc := (wQ cI cJ cZ q0 q1 q2 q3 Q_side Q_height Q_cell Q_taken Q_ways)) (wr := []) (rest := []) hx hb hml hg hown hK hA hI (kX5_allNumbers l D cI cJ cZ q0 q1 q2 q3 Q_side Q_height Q_cell Q_taken Q_ways  o1 ho1) kvX5_allNumbers wL_RX5_28 ⟨Nat.le_of_ble_eq_true rfl, Nat.le_of_ble_eq_true rfl⟩ rfl rfl [0, 1, 2, 3] [] rfl rfl rfl rfl (by decide) rfl rfl hl.1 (Nat.le_of_ble_eq_true rfl) dX5_canStandNext_7 ⟨Nat.zero_le _, Nat.zero_le _⟩ ⟨rfl, rfl⟩ (fun r u H locs hp hI => ?_)
    replace hp : r = o1 := hp
    rw [hp]
    clear hp
    replace hI : WI D A s.heap (wQ cI cJ cZ q0 q1 q2 q3 Q_side Q_height Q_cell Q_taken Q_ways) H locs := hI
    refine lv_istore_n (lv' := [(2, .int o1), (0, .ref q0), (1, .int a1)]) hx hb dX5_canStandNext_10 rfl hl (by decide) rfl (fun ls hl => ?_)
    refine lv_iload_n hx hb dX5_canStandNext_11 rfl (lv_at hl 2 rfl) ?_
    refine lv_istore_n (lv' := [(3, .int a1), (2, .int o1), (0, .ref q0), (1, .int a1)]) hx hb dX5_canStandNext_12 rfl hl (by decide) rfl (fun ls hl => ?_)
    refine lv_aload_n hx hb dX5_canStandNext_13 rfl (lv_at hl 2 rfl) ?_
    refine w_get hx hb hg hown hK hI iX5 0 rfl rfl 0 (by decide) wF_RX5_21 rfl dX5_canStandNext_14 ?_
    refine lv_iconst (v := 1) hx hb dX5_canStandNext_17 (by decide) ?_
    refine lv_isub hx hb dX5_canStandNext_18 ?_
    refine lv_topi (fun x2 ex2 => ?_)
    replace hf := bnd_e hf x2 ex2
    refine lv_istore (lv' := [(4, .int x2), (3, .int a1), (2, .int o1), (0, .ref q0), (1, .int a1)]) hx hb dX5_canStandNext_19 hl (by decide) rfl (fun ls hl => ?_)
    exact L21  (o1, a1, x2) _ hf hM _ _ _ hI (lv_sub hl [3, 2, 1, 0] rfl)
  · replace hf := ite_f hc hf
    refine lv_iconst (v := 0) hx hb dX5_canStandNext_4 (by decide) ?_
    replace hf := Option.some.inj hf
    subst hf
    replace hM : (0 : Int32) = out := hM
    subst hM
    exact rt_i (u := ()) hx hb hr hlocks (by decide) hI hAe rfl dX5_canStandNext_5
noncomputable def X5_append_L9 (Q_height : Int32) (v : (Nat → Int32) × (Nat → Int32) × Int32 × Int32) : Option (((Nat → Int32) × (Nat → Int32) × Int32 × Int32) ⊕ (Int32 × (Nat → Int32) × (Nat → Int32))) :=
  if v.2.2.2 < (0 : Int32) then (bnd (Q_height + (1 : Int32)) (fun x2 => some (.inr (x2, v.1, v.2.1)))) else (rm_ v.2.2.1 (10 : Int32) (fun x3 => wr v.1 81 ((Q_height * (9 : Int32)) + v.2.2.2) x3 (fun g4 => rd v.2.1 9 v.2.2.2 (fun x5 => wr v.2.1 9 v.2.2.2 (x5 ||| ((1 : Int32) <<< (x3 &&& (31 : Int32)))) (fun g6 => dv v.2.2.1 (10 : Int32) (fun x7 => bnd (v.2.2.2 + (-1 : Int32)) (fun x8 => some (.inl (g4, g6, x7, x8)))))))))
noncomputable def FX5_append (Q_side : Int32) (Q_height_0 : Int32) (Q_cell_0 : Nat → Int32) (Q_taken_0 : Nat → Int32) (a1 : Int32) : Option (Int32 × (Nat → Int32) × (Nat → Int32)) :=
  bnd (Q_side - (1 : Int32)) (fun x1 => loopO (X5_append_L9 Q_height_0) (Q_cell_0, Q_taken_0, a1, x1))
abbrev GX5_append (p : Program) (l : Launch) (e : Env) (s : State) (m : MethodId) (below : List Frame) (meth : Method) (c : Code) (D : va_G) (cI cJ cZ : ClassId) (q0 q1 q2 q3 : Nat) (Q_side : Int32) (Q_height_0 : Int32) (Q_cell_0 : Nat → Int32) (Q_taken_0 : Nat → Int32) (Q_ways : Nat → Int32) (a1 : Int32) (out : Int32 × (Nat → Int32) × (Nat → Int32)) (H : Heap) (locs : List Loc) (g : JFrame) : Prop := W p l e (headSpec (Cond.code yX5_append cX5_append 5 none :: GW) { frames := 0, cells := 0, slots := 0, locals := 0 }).room s m ([.ref q0, .int a1] : List Value).toArray below meth c H locs 0 0 (MQ below (va_Qv (fun (_ : Unit) => True) (BW D (wQ cI cJ cZ q0 q1 q2 q3 Q_side Q_height_0 Q_cell_0 Q_taken_0 Q_ways) s.heap.size (fun _ => (wQ cI cJ cZ q0 q1 q2 q3 Q_side out.1 out.2.1 out.2.2 Q_ways))) (va_A (wQ cI cJ cZ q0 q1 q2 q3 Q_side Q_height_0 Q_cell_0 Q_taken_0 Q_ways) s.heap.size)) ([.ref q0, .int a1] : List Value).toArray s 0 0 (va_A (wQ cI cJ cZ q0 q1 q2 q3 Q_side Q_height_0 Q_cell_0 Q_taken_0 Q_ways) s.heap.size)) g
theorem kvX5_append : CalV RX5 yX5_append cX5_append 5 none 1 := ⟨wC_yX5_append, wM_yX5_append, wS_yX5_append, wI_RX5, by decide +kernel⟩
set_option maxHeartbeats 4000000 in
set_option maxRecDepth 100000 in
theorem kX5_append (l : Launch) (D : va_G) (cI cJ cZ : ClassId) (q0 q1 q2 q3 : Nat) (Q_side : Int32) (Q_height_0 : Int32) (Q_cell_0 : Nat → Int32) (Q_taken_0 : Nat → Int32) (Q_ways : Nat → Int32) (a1 : Int32) (out : Int32 × (Nat → Int32) × (Nat → Int32)) (hf : FX5_append Q_side Q_height_0 Q_cell_0 Q_taken_0 a1 = some out) : MV l yX5_append (Cond.code yX5_append cX5_append 5 none :: GW) { frames := 0, cells := 0, slots := 0, locals := 0 } D cI cJ cZ [.ref q0, .int a1] (wQ cI cJ cZ q0 q1 q2 q3 Q_side Q_height_0 Q_cell_0 Q_taken_0 Q_ways) (fun (_ : Unit) => True) (fun _ => (wQ cI cJ cZ q0 q1 q2 q3 Q_side out.1 out.2.1 out.2.2 Q_ways)) := by
  intro sz
  refine Met.ofW (cc := cX5_append) (maxL := 5) (ret := none) (by decide +kernel) rfl ?_
  intro p e s m args below meth c s₁ B hml hv
  obtain ⟨rfl, hsz, hP, hK, hD0⟩ := hv
  have hx := B.exec
  have hb := B.bytes
  have hr := B.returns
  have hlocks := B.notSynchronized
  have hg : ∀ w ∈ GW, w.before _ s = true := fun w h => atoms_spec (ws := Cond.code yX5_append cX5_append 5 none :: GW) B.pre w (List.mem_cons_of_mem _ h)
  have hown : s.vm.findClass RX5 = some m.cls := findClass_of_methodNamed B.named
  subst hsz
  obtain ⟨A, hAe⟩ : ∃ A, A = va_A (wQ cI cJ cZ q0 q1 q2 q3 Q_side Q_height_0 Q_cell_0 Q_taken_0 Q_ways) s.heap.size := ⟨_, rfl⟩
  have hA : ∀ q : Nat, s.heap.size ≤ q → A q := fun q h => by rw [hAe]; exact Or.inr h
  have hI : WI D A s.heap (wQ cI cJ cZ q0 q1 q2 q3 Q_side Q_height_0 Q_cell_0 Q_taken_0 Q_ways) s.heap [] := ⟨hP, by rw [hAe]; exact hD0.self, va_S.rf⟩
  have hl := lv_entry [.ref q0, .int a1] (n := 5) (Nat.le_of_ble_eq_true rfl)
  rw [lg_entry_eq]
  generalize (lg_sl [.ref q0, .int a1] ++ List.replicate (5 - (lg_sl [.ref q0, .int a1]).length) Slot.unset).toArray = ls at hl ⊢
  replace hl : lv_has ls 5 [(0, .ref q0), (1, .int a1)] := hl
  have L9 : ∀ (Q_height : Int32), ∀ (v : (Nat → Int32) × (Nat → Int32) × Int32 × Int32) (x : Int32 × (Nat → Int32) × (Nat → Int32)), loopO (X5_append_L9 Q_height) v = some x → (fun z : Int32 × (Nat → Int32) × (Nat → Int32) => z = out) x → (fun (v : (Nat → Int32) × (Nat → Int32) × Int32 × Int32) => ∀ (H : Heap) (locs : List Loc) (ls : Array Slot), WI D A s.heap (wQ cI cJ cZ q0 q1 q2 q3 Q_side Q_height v.1 v.2.1 Q_ways) H locs → lv_has ls 5 [(0, .ref q0), (2, .int v.2.2.1), (3, .int v.2.2.2)] → GX5_append p l e s m below meth c D cI cJ cZ q0 q1 q2 q3 Q_side Q_height_0 Q_cell_0 Q_taken_0 Q_ways a1 out H locs (F0 m 9 ls [])) v := by
    intro Q_height
    refine loopO_ind (fun (v : (Nat → Int32) × (Nat → Int32) × Int32 × Int32) => ∀ (H : Heap) (locs : List Loc) (ls : Array Slot), WI D A s.heap (wQ cI cJ cZ q0 q1 q2 q3 Q_side Q_height v.1 v.2.1 Q_ways) H locs → lv_has ls 5 [(0, .ref q0), (2, .int v.2.2.1), (3, .int v.2.2.2)] → GX5_append p l e s m below meth c D cI cJ cZ q0 q1 q2 q3 Q_side Q_height_0 Q_cell_0 Q_taken_0 Q_ways a1 out H locs (F0 m 9 ls [])) (fun z : Int32 × (Nat → Int32) × (Nat → Int32) => z = out) ?_
    intro v x hf hM H locs ls hI hl
    refine lv_iload_n hx hb dX5_append_9 rfl (lv_at hl 2 rfl) ?_
    refine lv_if_lt (tgt := 59) hx hb dX5_append_10 (by decide) (fun hc => ?_) (fun hc => ?_)
    · replace hf := ite_t hc hf
      refine lv_aload_n hx hb dX5_append_59 rfl (lv_at hl 0 rfl) ?_
      refine lv_dup hx hb dX5_append_60 rfl ?_
      refine w_get hx hb hg hown hK hI iX5 0 rfl rfl 1 (by decide) wF_RX5_25 rfl dX5_append_61 ?_
      refine lv_iconst (v := 1) hx hb dX5_append_64 (by decide) ?_
      refine lv_iadd hx hb dX5_append_65 ?_
      refine lv_topi (fun x2 ex2 => ?_)
      replace hf := bnd_e hf x2 ex2
      refine w_put (W1 := (wQ cI cJ cZ q0 q1 q2 q3 Q_side x2 v.1 v.2.1 Q_ways)) hx hb hg hown hK hI iX5 tyX5 tyX5_ok nmX5 0 rfl rfl 1 (by decide) wF_RX5_25 rfl (tyX5_ok 1 (by decide)) rfl rfl (Nat.le_of_ble_eq_true rfl) dX5_append_66 rfl (fun H locs hI => ?_)
      replace hf := Option.some.inj hf
      subst hf
      replace hM : (x2, v.1, v.2.1) = out := hM
      subst hM
      exact rt_v (u := ()) hx hb hr hlocks hI hAe trivial dX5_append_69
    · replace hf := ite_f hc hf
      refine lv_iload_n hx hb dX5_append_13 rfl (lv_at hl 1 rfl) ?_
      refine lv_bipush (v := 10) hx hb dX5_append_14 (by decide) ?_
      obtain ⟨hne, hf⟩ := rm_e hf
      refine lv_irem hx hb dX5_append_16 hne ?_
      refine lv_topi (fun x3 ex3 => ?_)
      replace hf := hf x3 ex3
      refine lv_istore (lv' := [(4, .int x3), (0, .ref q0), (2, .int v.2.2.1), (3, .int v.2.2.2)]) hx hb dX5_append_17 hl (by decide) rfl (fun ls hl => ?_)
      refine lv_aload_n hx hb dX5_append_19 rfl (lv_at hl 1 rfl) ?_
      refine w_get hx hb hg hown hK hI iX5 0 rfl rfl 2 (by decide) wF_RX5_9 rfl dX5_append_20 ?_
      refine lv_aload_n hx hb dX5_append_23 rfl (lv_at hl 1 rfl) ?_
      refine w_get hx hb hg hown hK hI iX5 0 rfl rfl 1 (by decide) wF_RX5_25 rfl dX5_append_24 ?_
      refine lv_bipush (v := 9) hx hb dX5_append_27 (by decide) ?_
      refine lv_imul hx hb dX5_append_29 ?_
      refine lv_iload_n hx hb dX5_append_30 rfl (lv_at hl 3 rfl) ?_
      refine lv_iadd hx hb dX5_append_31 ?_
      refine lv_iload hx hb dX5_append_32 (lv_at hl 0 rfl) ?_
      obtain ⟨hin, hf⟩ := wr_e hf
      obtain ⟨g4, eg4⟩ : ∃ g : Nat → Int32, g = upd v.1 (((Q_height * (9 : Int32)) + v.2.2.2)).toNatClampNeg x3 := ⟨_, rfl⟩
      replace hf := hf g4 eg4
      refine w_iast (g := g4) (W1 := (wQ cI cJ cZ q0 q1 q2 q3 Q_side Q_height g4 v.2.1 Q_ways)) hx hb hK hI 1 rfl hin eg4 dX5_append_34 rfl (fun H locs hI => ?_)
      refine lv_aload_n hx hb dX5_append_35 rfl (lv_at hl 1 rfl) ?_
      refine w_get hx hb hg hown hK hI iX5 0 rfl rfl 3 (by decide) wF_RX5_15 rfl dX5_append_36 ?_
      refine lv_iload_n hx hb dX5_append_39 rfl (lv_at hl 3 rfl) ?_
      refine lv_dup2_11 hx hb dX5_append_40 rfl rfl ?_
      obtain ⟨hin, hf⟩ := rd_e hf
      refine w_iald hx hb hK hI 2 rfl hin dX5_append_41 (fun x5 ex5 => ?_)
      replace hf := hf x5 ex5
      refine lv_iconst (v := 1) hx hb dX5_append_42 (by decide) ?_
      refine lv_iload hx hb dX5_append_43 (lv_at hl 0 rfl) ?_
      refine lv_ishl hx hb dX5_append_45 ?_
      refine lv_ior hx hb dX5_append_46 ?_
      obtain ⟨hin, hf⟩ := wr_e hf
      obtain ⟨g6, eg6⟩ : ∃ g : Nat → Int32, g = upd v.2.1 (v.2.2.2).toNatClampNeg (x5 ||| ((1 : Int32) <<< (x3 &&& (31 : Int32)))) := ⟨_, rfl⟩
      replace hf := hf g6 eg6
      refine w_iast (g := g6) (W1 := (wQ cI cJ cZ q0 q1 q2 q3 Q_side Q_height g4 g6 Q_ways)) hx hb hK hI 2 rfl hin eg6 dX5_append_47 rfl (fun H locs hI => ?_)
      refine lv_iload_n hx hb dX5_append_48 rfl (lv_at hl 2 rfl) ?_
      refine lv_bipush (v := 10) hx hb dX5_append_49 (by decide) ?_
      obtain ⟨hne, hf⟩ := dv_e hf
      refine lv_idiv hx hb dX5_append_51 hne ?_
      refine lv_topi (fun x7 ex7 => ?_)
      replace hf := hf x7 ex7
      refine lv_istore_n (lv' := [(2, .int x7), (4, .int x3), (0, .ref q0), (3, .int v.2.2.2)]) hx hb dX5_append_52 rfl hl (by decide) rfl (fun ls hl => ?_)
      obtain ⟨x8, ex8⟩ : ∃ y : Int32, y = (v.2.2.2 + (-1 : Int32)) := ⟨_, rfl⟩
      replace hf := bnd_e hf x8 ex8
      refine lv_iinc (v := x8) (lv' := [(3, .int x8), (2, .int x7), (4, .int x3), (0, .ref q0)]) hx hb dX5_append_53 hl (k := 3) rfl (by rw [ex8]; rfl) (by decide) rfl (fun ls hl => ?_)
      refine lv_goto (tgt := 9) hx hb dX5_append_56 (by decide) ?_
      replace hf := Option.some.inj hf
      subst hf
      exact hM _ _ _ hI (lv_sub hl [3, 1, 0] rfl)
  obtain ⟨x, hf, hM⟩ : ∃ x, FX5_append Q_side Q_height_0 Q_cell_0 Q_taken_0 a1 = some x ∧ x = out := ⟨out, hf, rfl⟩
  refine lv_iload_n hx hb dX5_append_0 rfl (lv_at hl 1 rfl) ?_
  refine lv_istore_n (lv' := [(2, .int a1), (0, .ref q0), (1, .int a1)]) hx hb dX5_append_1 rfl hl (by decide) rfl (fun ls hl => ?_)
  refine lv_aload_n hx hb dX5_append_2 rfl (lv_at hl 1 rfl) ?_
  refine w_get hx hb hg hown hK hI iX5 0 rfl rfl 0 (by decide) wF_RX5_21 rfl dX5_append_3 ?_
  refine lv_iconst (v := 1) hx hb dX5_append_6 (by decide) ?_
  refine lv_isub hx hb dX5_append_7 ?_
  refine lv_topi (fun x1 ex1 => ?_)
  replace hf := bnd_e hf x1 ex1
  refine lv_istore_n (lv' := [(3, .int x1), (2, .int a1), (0, .ref q0), (1, .int a1)]) hx hb dX5_append_8 rfl hl (by decide) rfl (fun ls hl => ?_)
  exact L9 Q_height_0 (Q_cell_0, Q_taken_0, a1, x1) _ hf hM _ _ _ hI (lv_sub hl [2, 1, 0] rfl)
noncomputable def X5_waysFor_L5 (Q_side : Int32) (Q_taken : Nat → Int32) (Q_ways : Nat → Int32) (l1 : Int32) (l2 : Int32) (v : Int32 × Int32) : Option ((Int32 × Int32) ⊕ (Int32)) :=
  if Q_side ≤ v.2 then (some (.inr v.1)) else (rd Q_taken 9 l2 (fun x1 => (FX7_isIn (l1 &&& (x1 ^^^ (-1 : Int32))) v.2).bind (fun x2 => if x2 = (0 : Int32) then (bnd (v.2 + (1 : Int32)) (fun x3 => some (.inl (v.1, x3)))) else (rd Q_ways 512 (l1 ^^^ ((1 : Int32) <<< (v.2 &&& (31 : Int32)))) (fun x4 => bnd (v.1 + x4) (fun x5 => bnd (v.2 + (1 : Int32)) (fun x6 => some (.inl (x5, x6)))))))))
noncomputable def FX5_waysFor (Q_side : Int32) (Q_taken : Nat → Int32) (Q_ways : Nat → Int32) (a1 : Int32) (a2 : Int32) : Option (Int32) :=
  loopO (X5_waysFor_L5 Q_side Q_taken Q_ways a1 a2) ((0 : Int32), (0 : Int32))
abbrev GX5_waysFor (p : Program) (l : Launch) (e : Env) (s : State) (m : MethodId) (below : List Frame) (meth : Method) (c : Code) (D : va_G) (cI cJ cZ : ClassId) (q0 q1 q2 q3 : Nat) (Q_side : Int32) (Q_height : Int32) (Q_cell : Nat → Int32) (Q_taken : Nat → Int32) (Q_ways : Nat → Int32) (a1 : Int32) (a2 : Int32) (out : Int32) (H : Heap) (locs : List Loc) (g : JFrame) : Prop := W p l e (headSpec (Cond.code yX5_waysFor cX5_waysFor 5 (some .int) :: GW) { frames := 1, cells := 0, slots := 0, locals := 21 }).room s m ([.ref q0, .int a1, .int a2] : List Value).toArray below meth c H locs 0 0 (MQ below (va_Qi (fun r (_ : Unit) => r = out) (BW D (wQ cI cJ cZ q0 q1 q2 q3 Q_side Q_height Q_cell Q_taken Q_ways) s.heap.size (fun _ => (wQ cI cJ cZ q0 q1 q2 q3 Q_side Q_height Q_cell Q_taken Q_ways))) (va_A (wQ cI cJ cZ q0 q1 q2 q3 Q_side Q_height Q_cell Q_taken Q_ways) s.heap.size)) ([.ref q0, .int a1, .int a2] : List Value).toArray s 0 0 (va_A (wQ cI cJ cZ q0 q1 q2 q3 Q_side Q_height Q_cell Q_taken Q_ways) s.heap.size)) g
theorem kvX5_waysFor : CalV RX5 yX5_waysFor cX5_waysFor 5 (some .int) 2 := ⟨wC_yX5_waysFor, wM_yX5_waysFor, wS_yX5_waysFor, wI_RX5, by decide +kernel⟩
set_option maxHeartbeats 4000000 in
set_option maxRecDepth 100000 in
theorem kX5_waysFor (l : Launch) (D : va_G) (cI cJ cZ : ClassId) (q0 q1 q2 q3 : Nat) (Q_side : Int32) (Q_height : Int32) (Q_cell : Nat → Int32) (Q_taken : Nat → Int32) (Q_ways : Nat → Int32) (a1 : Int32) (a2 : Int32) (out : Int32) (hf : FX5_waysFor Q_side Q_taken Q_ways a1 a2 = some out) : MI l yX5_waysFor (Cond.code yX5_waysFor cX5_waysFor 5 (some .int) :: GW) { frames := 1, cells := 0, slots := 0, locals := 21 } D cI cJ cZ [.ref q0, .int a1, .int a2] (wQ cI cJ cZ q0 q1 q2 q3 Q_side Q_height Q_cell Q_taken Q_ways) (fun r (_ : Unit) => r = out) (fun _ => (wQ cI cJ cZ q0 q1 q2 q3 Q_side Q_height Q_cell Q_taken Q_ways)) := by
  intro sz
  refine Met.ofW (cc := cX5_waysFor) (maxL := 5) (ret := (some .int)) (by decide +kernel) rfl ?_
  intro p e s m args below meth c s₁ B hml hv
  obtain ⟨rfl, hsz, hP, hK, hD0⟩ := hv
  have hx := B.exec
  have hb := B.bytes
  have hr := B.returns
  have hlocks := B.notSynchronized
  have hg : ∀ w ∈ GW, w.before _ s = true := fun w h => atoms_spec (ws := Cond.code yX5_waysFor cX5_waysFor 5 (some .int) :: GW) B.pre w (List.mem_cons_of_mem _ h)
  have hown : s.vm.findClass RX5 = some m.cls := findClass_of_methodNamed B.named
  subst hsz
  obtain ⟨A, hAe⟩ : ∃ A, A = va_A (wQ cI cJ cZ q0 q1 q2 q3 Q_side Q_height Q_cell Q_taken Q_ways) s.heap.size := ⟨_, rfl⟩
  have hA : ∀ q : Nat, s.heap.size ≤ q → A q := fun q h => by rw [hAe]; exact Or.inr h
  have hI : WI D A s.heap (wQ cI cJ cZ q0 q1 q2 q3 Q_side Q_height Q_cell Q_taken Q_ways) s.heap [] := ⟨hP, by rw [hAe]; exact hD0.self, va_S.rf⟩
  have hl := lv_entry [.ref q0, .int a1, .int a2] (n := 5) (Nat.le_of_ble_eq_true rfl)
  rw [lg_entry_eq]
  generalize (lg_sl [.ref q0, .int a1, .int a2] ++ List.replicate (5 - (lg_sl [.ref q0, .int a1, .int a2]).length) Slot.unset).toArray = ls at hl ⊢
  replace hl : lv_has ls 5 [(0, .ref q0), (1, .int a1), (2, .int a2)] := hl
  have L5 : ∀ (l1 : Int32) (l2 : Int32), ∀ (v : Int32 × Int32) (x : Int32), loopO (X5_waysFor_L5 Q_side Q_taken Q_ways l1 l2) v = some x → (fun z : Int32 => z = out) x → (fun (v : Int32 × Int32) => ∀ (H : Heap) (locs : List Loc) (ls : Array Slot), WI D A s.heap (wQ cI cJ cZ q0 q1 q2 q3 Q_side Q_height Q_cell Q_taken Q_ways) H locs → lv_has ls 5 [(0, .ref q0), (1, .int l1), (2, .int l2), (3, .int v.1), (4, .int v.2)] → GX5_waysFor p l e s m below meth c D cI cJ cZ q0 q1 q2 q3 Q_side Q_height Q_cell Q_taken Q_ways a1 a2 out H locs (F0 m 5 ls [])) v := by
    intro l1 l2
    refine loopO_ind (fun (v : Int32 × Int32) => ∀ (H : Heap) (locs : List Loc) (ls : Array Slot), WI D A s.heap (wQ cI cJ cZ q0 q1 q2 q3 Q_side Q_height Q_cell Q_taken Q_ways) H locs → lv_has ls 5 [(0, .ref q0), (1, .int l1), (2, .int l2), (3, .int v.1), (4, .int v.2)] → GX5_waysFor p l e s m below meth c D cI cJ cZ q0 q1 q2 q3 Q_side Q_height Q_cell Q_taken Q_ways a1 a2 out H locs (F0 m 5 ls [])) (fun z : Int32 => z = out) ?_
    intro v x hf hM H locs ls hI hl
    refine lv_iload hx hb dX5_waysFor_5 (lv_at hl 4 rfl) ?_
    refine lv_aload_n hx hb dX5_waysFor_7 rfl (lv_at hl 0 rfl) ?_
    refine w_get hx hb hg hown hK hI iX5 0 rfl rfl 0 (by decide) wF_RX5_21 rfl dX5_waysFor_8 ?_
    refine lv_icmp_ge (tgt := 52) hx hb dX5_waysFor_11 (by decide) (fun hc => ?_) (fun hc => ?_)
    · replace hf := ite_t hc hf
      refine lv_iload_n hx hb dX5_waysFor_52 rfl (lv_at hl 3 rfl) ?_
      replace hf := Option.some.inj hf
      subst hf
      replace hM : v.1 = out := hM
      subst hM
      exact rt_i (u := ()) hx hb hr hlocks rfl hI hAe rfl dX5_waysFor_53
    · replace hf := ite_f hc hf
      refine lv_iload_n hx hb dX5_waysFor_14 rfl (lv_at hl 1 rfl) ?_
      refine lv_aload_n hx hb dX5_waysFor_15 rfl (lv_at hl 0 rfl) ?_
      refine w_get hx hb hg hown hK hI iX5 0 rfl rfl 3 (by decide) wF_RX5_15 rfl dX5_waysFor_16 ?_
      refine lv_iload_n hx hb dX5_waysFor_19 rfl (lv_at hl 2 rfl) ?_
      obtain ⟨hin, hf⟩ := rd_e hf
      refine w_iald hx hb hK hI 2 rfl hin dX5_waysFor_20 (fun x1 ex1 => ?_)
      replace hf := hf x1 ex1
      refine lv_iconst (v := -1) hx hb dX5_waysFor_21 (by decide) ?_
      refine lv_ixor hx hb dX5_waysFor_22 ?_
      refine lv_iand hx hb dX5_waysFor_23 ?_
      refine lv_iload hx hb dX5_waysFor_24 (lv_at hl 4 rfl) ?_
      obtain ⟨x2, hx2, hf⟩ := bd_e hf
      refine w_N (rest := []) hx hb hml hg hown hK (kX7_isIn l D cI cJ cZ (l1 &&& (x1 ^^^ (-1 : Int32))) v.2 x2 hx2) ksX7_isIn (List.mem_of_getElem? (i := 6) rfl) ⟨Nat.le_of_ble_eq_true rfl, Nat.le_of_ble_eq_true rfl⟩ ⟨rfl, rfl⟩ rfl rfl hl.1 (Nat.le_of_ble_eq_true rfl) dX5_waysFor_26 ⟨Nat.zero_le _, Nat.zero_le _⟩ ?_
      refine lv_if_eq (tgt := 46) hx hb dX5_waysFor_29 (by decide) (fun hc => ?_) (fun hc => ?_)
      · replace hf := ite_t hc hf
        obtain ⟨x3, ex3⟩ : ∃ y : Int32, y = (v.2 + (1 : Int32)) := ⟨_, rfl⟩
        replace hf := bnd_e hf x3 ex3
        refine lv_iinc (v := x3) (lv' := [(4, .int x3), (0, .ref q0), (1, .int l1), (2, .int l2), (3, .int v.1)]) hx hb dX5_waysFor_46 hl (k := 4) rfl (by rw [ex3]; rfl) (by decide) rfl (fun ls hl => ?_)
        refine lv_goto (tgt := 5) hx hb dX5_waysFor_49 (by decide) ?_
        replace hf := Option.some.inj hf
        subst hf
        exact hM _ _ _ hI (lv_sub hl [1, 2, 3, 4, 0] rfl)
      · replace hf := ite_f hc hf
        refine lv_iload_n hx hb dX5_waysFor_32 rfl (lv_at hl 3 rfl) ?_
        refine lv_aload_n hx hb dX5_waysFor_33 rfl (lv_at hl 0 rfl) ?_
        refine w_get hx hb hg hown hK hI iX5 0 rfl rfl 4 (by decide) wF_RX5_18 rfl dX5_waysFor_34 ?_
        refine lv_iload_n hx hb dX5_waysFor_37 rfl (lv_at hl 1 rfl) ?_
        refine lv_iconst (v := 1) hx hb dX5_waysFor_38 (by decide) ?_
        refine lv_iload hx hb dX5_waysFor_39 (lv_at hl 4 rfl) ?_
        refine lv_ishl hx hb dX5_waysFor_41 ?_
        refine lv_ixor hx hb dX5_waysFor_42 ?_
        obtain ⟨hin, hf⟩ := rd_e hf
        refine w_iald hx hb hK hI 3 rfl hin dX5_waysFor_43 (fun x4 ex4 => ?_)
        replace hf := hf x4 ex4
        refine lv_iadd hx hb dX5_waysFor_44 ?_
        refine lv_topi (fun x5 ex5 => ?_)
        replace hf := bnd_e hf x5 ex5
        refine lv_istore_n (lv' := [(3, .int x5), (0, .ref q0), (1, .int l1), (2, .int l2), (4, .int v.2)]) hx hb dX5_waysFor_45 rfl hl (by decide) rfl (fun ls hl => ?_)
        obtain ⟨x6, ex6⟩ : ∃ y : Int32, y = (v.2 + (1 : Int32)) := ⟨_, rfl⟩
        replace hf := bnd_e hf x6 ex6
        refine lv_iinc (v := x6) (lv' := [(4, .int x6), (3, .int x5), (0, .ref q0), (1, .int l1), (2, .int l2)]) hx hb dX5_waysFor_46 hl (k := 4) rfl (by rw [ex6]; rfl) (by decide) rfl (fun ls hl => ?_)
        refine lv_goto (tgt := 5) hx hb dX5_waysFor_49 (by decide) ?_
        replace hf := Option.some.inj hf
        subst hf
        exact hM _ _ _ hI (lv_sub hl [2, 3, 4, 1, 0] rfl)
  obtain ⟨x, hf, hM⟩ : ∃ x, FX5_waysFor Q_side Q_taken Q_ways a1 a2 = some x ∧ x = out := ⟨out, hf, rfl⟩
  refine lv_iconst (v := 0) hx hb dX5_waysFor_0 (by decide) ?_
  refine lv_istore_n (lv' := [(3, .int (0 : Int32)), (0, .ref q0), (1, .int a1), (2, .int a2)]) hx hb dX5_waysFor_1 rfl hl (by decide) rfl (fun ls hl => ?_)
  refine lv_iconst (v := 0) hx hb dX5_waysFor_2 (by decide) ?_
  refine lv_istore (lv' := [(4, .int (0 : Int32)), (3, .int (0 : Int32)), (0, .ref q0), (1, .int a1), (2, .int a2)]) hx hb dX5_waysFor_3 hl (by decide) rfl (fun ls hl => ?_)
  exact L5 a1 a2 ((0 : Int32), (0 : Int32)) _ hf hM _ _ _ hI (lv_sub hl [2, 3, 4, 1, 0] rfl)
noncomputable def X5_fillWays_L9 (Q_side : Int32) (Q_taken : Nat → Int32) (v : (Nat → Int32) × Int32) : Option (((Nat → Int32) × Int32) ⊕ ((Nat → Int32))) :=
  (FX5_allNumbers Q_side).bind (fun o2 => if o2 < v.2 then (some (.inr v.1)) else ((FJ6_bitCount_0f7a4 v.2).bind (fun x3 => (FX5_waysFor Q_side Q_taken v.1 v.2 (Q_side - x3)).bind (fun o4 => wr v.1 512 v.2 o4 (fun g5 => bnd (v.2 + (1 : Int32)) (fun x6 => some (.inl (g5, x6))))))))
noncomputable def FX5_fillWays (Q_side : Int32) (Q_taken : Nat → Int32) (Q_ways_0 : Nat → Int32)  : Option ((Nat → Int32)) :=
  wr Q_ways_0 512 (0 : Int32) (1 : Int32) (fun g1 => loopO (X5_fillWays_L9 Q_side Q_taken) (g1, (1 : Int32)))
abbrev GX5_fillWays (p : Program) (l : Launch) (e : Env) (s : State) (m : MethodId) (below : List Frame) (meth : Method) (c : Code) (D : va_G) (cI cJ cZ : ClassId) (q0 q1 q2 q3 : Nat) (Q_side : Int32) (Q_height : Int32) (Q_cell : Nat → Int32) (Q_taken : Nat → Int32) (Q_ways_0 : Nat → Int32)  (out : (Nat → Int32)) (H : Heap) (locs : List Loc) (g : JFrame) : Prop := W p l e (headSpec (Cond.code yX5_fillWays cX5_fillWays 2 none :: GW) { frames := 2, cells := 0, slots := 0, locals := 45 }).room s m ([.ref q0] : List Value).toArray below meth c H locs 0 0 (MQ below (va_Qv (fun (_ : Unit) => True) (BW D (wQ cI cJ cZ q0 q1 q2 q3 Q_side Q_height Q_cell Q_taken Q_ways_0) s.heap.size (fun _ => (wQ cI cJ cZ q0 q1 q2 q3 Q_side Q_height Q_cell Q_taken out))) (va_A (wQ cI cJ cZ q0 q1 q2 q3 Q_side Q_height Q_cell Q_taken Q_ways_0) s.heap.size)) ([.ref q0] : List Value).toArray s 0 0 (va_A (wQ cI cJ cZ q0 q1 q2 q3 Q_side Q_height Q_cell Q_taken Q_ways_0) s.heap.size)) g
theorem kvX5_fillWays : CalV RX5 yX5_fillWays cX5_fillWays 2 none 0 := ⟨wC_yX5_fillWays, wM_yX5_fillWays, wS_yX5_fillWays, wI_RX5, by decide +kernel⟩
set_option maxHeartbeats 4000000 in
set_option maxRecDepth 100000 in
theorem kX5_fillWays (l : Launch) (D : va_G) (cI cJ cZ : ClassId) (q0 q1 q2 q3 : Nat) (Q_side : Int32) (Q_height : Int32) (Q_cell : Nat → Int32) (Q_taken : Nat → Int32) (Q_ways_0 : Nat → Int32)  (out : (Nat → Int32)) (hf : FX5_fillWays Q_side Q_taken Q_ways_0 = some out) : MV l yX5_fillWays (Cond.code yX5_fillWays cX5_fillWays 2 none :: GW) { frames := 2, cells := 0, slots := 0, locals := 45 } D cI cJ cZ [.ref q0] (wQ cI cJ cZ q0 q1 q2 q3 Q_side Q_height Q_cell Q_taken Q_ways_0) (fun (_ : Unit) => True) (fun _ => (wQ cI cJ cZ q0 q1 q2 q3 Q_side Q_height Q_cell Q_taken out)) := by
  intro sz
  refine Met.ofW (cc := cX5_fillWays) (maxL := 2) (ret := none) (by decide +kernel) rfl ?_
  intro p e s m args below meth c s₁ B hml hv
  obtain ⟨rfl, hsz, hP, hK, hD0⟩ := hv
  have hx := B.exec
  have hb := B.bytes
  have hr := B.returns
  have hlocks := B.notSynchronized
  have hg : ∀ w ∈ GW, w.before _ s = true := fun w h => atoms_spec (ws := Cond.code yX5_fillWays cX5_fillWays 2 none :: GW) B.pre w (List.mem_cons_of_mem _ h)
  have hown : s.vm.findClass RX5 = some m.cls := findClass_of_methodNamed B.named
  subst hsz
  obtain ⟨A, hAe⟩ : ∃ A, A = va_A (wQ cI cJ cZ q0 q1 q2 q3 Q_side Q_height Q_cell Q_taken Q_ways_0) s.heap.size := ⟨_, rfl⟩
  have hA : ∀ q : Nat, s.heap.size ≤ q → A q := fun q h => by rw [hAe]; exact Or.inr h
  have hI : WI D A s.heap (wQ cI cJ cZ q0 q1 q2 q3 Q_side Q_height Q_cell Q_taken Q_ways_0) s.heap [] := ⟨hP, by rw [hAe]; exact hD0.self, va_S.rf⟩
  have hl := lv_entry [.ref q0] (n := 2) (Nat.le_of_ble_eq_true rfl)
  rw [lg_entry_eq]
  generalize (lg_sl [.ref q0] ++ List.replicate (2 - (lg_sl [.ref q0]).length) Slot.unset).toArray = ls at hl ⊢
  replace hl : lv_has ls 2 [(0, .ref q0)] := hl
  have L9 : ∀ (v : (Nat → Int32) × Int32) (x : (Nat → Int32)), loopO (X5_fillWays_L9 Q_side Q_taken) v = some x → (fun z : (Nat → Int32) => z = out) x → (fun (v : (Nat → Int32) × Int32) => ∀ (H : Heap) (locs : List Loc) (ls : Array Slot), WI D A s.heap (wQ cI cJ cZ q0 q1 q2 q3 Q_side Q_height Q_cell Q_taken v.1) H locs → lv_has ls 2 [(0, .ref q0), (1, .int v.2)] → GX5_fillWays p l e s m below meth c D cI cJ cZ q0 q1 q2 q3 Q_side Q_height Q_cell Q_taken Q_ways_0  out H locs (F0 m 9 ls [])) v := by
    refine loopO_ind (fun (v : (Nat → Int32) × Int32) => ∀ (H : Heap) (locs : List Loc) (ls : Array Slot), WI D A s.heap (wQ cI cJ cZ q0 q1 q2 q3 Q_side Q_height Q_cell Q_taken v.1) H locs → lv_has ls 2 [(0, .ref q0), (1, .int v.2)] → GX5_fillWays p l e s m below meth c D cI cJ cZ q0 q1 q2 q3 Q_side Q_height Q_cell Q_taken Q_ways_0  out H locs (F0 m 9 ls [])) (fun z : (Nat → Int32) => z = out) ?_
    intro v x hf hM H locs ls hI hl
    refine lv_iload_n hx hb dX5_fillWays_9 rfl (lv_at hl 1 rfl) ?_
    refine lv_aload_n hx hb dX5_fillWays_10 rfl (lv_at hl 0 rfl) ?_
    obtain ⟨o2, ho2, hf⟩ := bd_e hf
    refine w_Vi0 (wc := (wQ cI cJ cZ q0 q1 q2 q3 Q_side Q_height Q_cell Q_taken v.1)) (wr := []) (rest := [.int v.2]) hx hb hml hg hown hK hA hI (kX5_allNumbers l D cI cJ cZ q0 q1 q2 q3 Q_side Q_height Q_cell Q_taken v.1  o2 ho2) kvX5_allNumbers wL_RX5_28 ⟨Nat.le_of_ble_eq_true rfl, Nat.le_of_ble_eq_true rfl⟩ rfl rfl [0, 1, 2, 3] [] rfl rfl rfl rfl (by decide) rfl rfl hl.1 (Nat.le_of_ble_eq_true rfl) dX5_fillWays_11 ⟨Nat.zero_le _, Nat.zero_le _⟩ ⟨rfl, rfl⟩ (fun r u H locs hp hI => ?_)
    replace hp : r = o2 := hp
    rw [hp]
    clear hp
    replace hI : WI D A s.heap (wQ cI cJ cZ q0 q1 q2 q3 Q_side Q_height Q_cell Q_taken v.1) H locs := hI
    refine lv_icmp_gt (tgt := 43) hx hb dX5_fillWays_14 (by decide) (fun hc => ?_) (fun hc => ?_)
    · replace hf := ite_t hc hf
      replace hf := Option.some.inj hf
      subst hf
      replace hM : v.1 = out := hM
      subst hM
      exact rt_v (u := ()) hx hb hr hlocks hI hAe trivial dX5_fillWays_43
    · replace hf := ite_f hc hf
      refine lv_aload_n hx hb dX5_fillWays_17 rfl (lv_at hl 0 rfl) ?_
      refine w_get hx hb hg hown hK hI iX5 0 rfl rfl 4 (by decide) wF_RX5_18 rfl dX5_fillWays_18 ?_
      refine lv_iload_n hx hb dX5_fillWays_21 rfl (lv_at hl 1 rfl) ?_
      refine lv_aload_n hx hb dX5_fillWays_22 rfl (lv_at hl 0 rfl) ?_
      refine lv_iload_n hx hb dX5_fillWays_23 rfl (lv_at hl 1 rfl) ?_
      refine lv_aload_n hx hb dX5_fillWays_24 rfl (lv_at hl 0 rfl) ?_
      refine w_get hx hb hg hown hK hI iX5 0 rfl rfl 0 (by decide) wF_RX5_21 rfl dX5_fillWays_25 ?_
      refine lv_iload_n hx hb dX5_fillWays_28 rfl (lv_at hl 1 rfl) ?_
      obtain ⟨x3, hx3, hf⟩ := bd_e hf
      refine w_S (rest := [.int Q_side, .int v.2, .ref q0, .int v.2, .ref q3]) hx hb hml hg hown hK (kJ6_bitCount_0f7a4 l D cI cJ cZ v.2 x3 hx3) ksJ6_bitCount_0f7a4 wL_RX5_43 ⟨Nat.le_of_ble_eq_true rfl, Nat.le_of_ble_eq_true rfl⟩ ⟨rfl, rfl⟩ rfl rfl hl.1 (Nat.le_of_ble_eq_true rfl) dX5_fillWays_29 ⟨Nat.zero_le _, Nat.zero_le _⟩ ?_
      refine lv_isub hx hb dX5_fillWays_32 ?_
      obtain ⟨o4, ho4, hf⟩ := bd_e hf
      refine w_Vi0 (wc := (wQ cI cJ cZ q0 q1 q2 q3 Q_side Q_height Q_cell Q_taken v.1)) (wr := []) (rest := [.int v.2, .ref q3]) hx hb hml hg hown hK hA hI (kX5_waysFor l D cI cJ cZ q0 q1 q2 q3 Q_side Q_height Q_cell Q_taken v.1 v.2 (Q_side - x3) o4 ho4) kvX5_waysFor wL_RX5_49 ⟨Nat.le_of_ble_eq_true rfl, Nat.le_of_ble_eq_true rfl⟩ rfl rfl [0, 1, 2, 3] [] rfl rfl rfl rfl (by decide) rfl rfl hl.1 (Nat.le_of_ble_eq_true rfl) dX5_fillWays_33 ⟨Nat.zero_le _, Nat.zero_le _⟩ ⟨rfl, rfl⟩ (fun r u H locs hp hI => ?_)
      replace hp : r = o4 := hp
      rw [hp]
      clear hp
      replace hI : WI D A s.heap (wQ cI cJ cZ q0 q1 q2 q3 Q_side Q_height Q_cell Q_taken v.1) H locs := hI
      obtain ⟨hin, hf⟩ := wr_e hf
      obtain ⟨g5, eg5⟩ : ∃ g : Nat → Int32, g = upd v.1 (v.2).toNatClampNeg o4 := ⟨_, rfl⟩
      replace hf := hf g5 eg5
      refine w_iast (g := g5) (W1 := (wQ cI cJ cZ q0 q1 q2 q3 Q_side Q_height Q_cell Q_taken g5)) hx hb hK hI 3 rfl hin eg5 dX5_fillWays_36 rfl (fun H locs hI => ?_)
      obtain ⟨x6, ex6⟩ : ∃ y : Int32, y = (v.2 + (1 : Int32)) := ⟨_, rfl⟩
      replace hf := bnd_e hf x6 ex6
      refine lv_iinc (v := x6) (lv' := [(1, .int x6), (0, .ref q0)]) hx hb dX5_fillWays_37 hl (k := 1) rfl (by rw [ex6]; rfl) (by decide) rfl (fun ls hl => ?_)
      refine lv_goto (tgt := 9) hx hb dX5_fillWays_40 (by decide) ?_
      replace hf := Option.some.inj hf
      subst hf
      exact hM _ _ _ hI (lv_sub hl [1, 0] rfl)
  obtain ⟨x, hf, hM⟩ : ∃ x, FX5_fillWays Q_side Q_taken Q_ways_0 = some x ∧ x = out := ⟨out, hf, rfl⟩
  refine lv_aload_n hx hb dX5_fillWays_0 rfl (lv_at hl 0 rfl) ?_
  refine w_get hx hb hg hown hK hI iX5 0 rfl rfl 4 (by decide) wF_RX5_18 rfl dX5_fillWays_1 ?_
  refine lv_iconst (v := 0) hx hb dX5_fillWays_4 (by decide) ?_
  refine lv_iconst (v := 1) hx hb dX5_fillWays_5 (by decide) ?_
  obtain ⟨hin, hf⟩ := wr_e hf
  obtain ⟨g1, eg1⟩ : ∃ g : Nat → Int32, g = upd Q_ways_0 ((0 : Int32)).toNatClampNeg (1 : Int32) := ⟨_, rfl⟩
  replace hf := hf g1 eg1
  refine w_iast (g := g1) (W1 := (wQ cI cJ cZ q0 q1 q2 q3 Q_side Q_height Q_cell Q_taken g1)) hx hb hK hI 3 rfl hin eg1 dX5_fillWays_6 rfl (fun H locs hI => ?_)
  refine lv_iconst (v := 1) hx hb dX5_fillWays_7 (by decide) ?_
  refine lv_istore_n (lv' := [(1, .int (1 : Int32)), (0, .ref q0)]) hx hb dX5_fillWays_8 rfl hl (by decide) rfl (fun ls hl => ?_)
  exact L9  (g1, (1 : Int32)) _ hf hM _ _ _ hI (lv_sub hl [1, 0] rfl)
noncomputable def FX5_waysNext (Q_side : Int32) (Q_taken : Nat → Int32) (Q_ways_0 : Nat → Int32)  : Option (Int32 × (Nat → Int32)) :=
  (FX5_fillWays Q_side Q_taken Q_ways_0).bind (fun o1 => (FX5_allNumbers Q_side).bind (fun o2 => rd o1 512 o2 (fun x3 => some (x3, o1))))
abbrev GX5_waysNext (p : Program) (l : Launch) (e : Env) (s : State) (m : MethodId) (below : List Frame) (meth : Method) (c : Code) (D : va_G) (cI cJ cZ : ClassId) (q0 q1 q2 q3 : Nat) (Q_side : Int32) (Q_height : Int32) (Q_cell : Nat → Int32) (Q_taken : Nat → Int32) (Q_ways_0 : Nat → Int32)  (out : Int32 × (Nat → Int32)) (H : Heap) (locs : List Loc) (g : JFrame) : Prop := W p l e (headSpec (Cond.code yX5_waysNext cX5_waysNext 1 (some .int) :: GW) { frames := 3, cells := 0, slots := 0, locals := 66 }).room s m ([.ref q0] : List Value).toArray below meth c H locs 0 0 (MQ below (va_Qi (fun r (_ : Unit) => r = out.1) (BW D (wQ cI cJ cZ q0 q1 q2 q3 Q_side Q_height Q_cell Q_taken Q_ways_0) s.heap.size (fun _ => (wQ cI cJ cZ q0 q1 q2 q3 Q_side Q_height Q_cell Q_taken out.2))) (va_A (wQ cI cJ cZ q0 q1 q2 q3 Q_side Q_height Q_cell Q_taken Q_ways_0) s.heap.size)) ([.ref q0] : List Value).toArray s 0 0 (va_A (wQ cI cJ cZ q0 q1 q2 q3 Q_side Q_height Q_cell Q_taken Q_ways_0) s.heap.size)) g
theorem kvX5_waysNext : CalV RX5 yX5_waysNext cX5_waysNext 1 (some .int) 0 := ⟨wC_yX5_waysNext, wM_yX5_waysNext, wS_yX5_waysNext, wI_RX5, by decide +kernel⟩
set_option maxHeartbeats 4000000 in
set_option maxRecDepth 100000 in
theorem kX5_waysNext (l : Launch) (D : va_G) (cI cJ cZ : ClassId) (q0 q1 q2 q3 : Nat) (Q_side : Int32) (Q_height : Int32) (Q_cell : Nat → Int32) (Q_taken : Nat → Int32) (Q_ways_0 : Nat → Int32)  (out : Int32 × (Nat → Int32)) (hf : FX5_waysNext Q_side Q_taken Q_ways_0 = some out) : MI l yX5_waysNext (Cond.code yX5_waysNext cX5_waysNext 1 (some .int) :: GW) { frames := 3, cells := 0, slots := 0, locals := 66 } D cI cJ cZ [.ref q0] (wQ cI cJ cZ q0 q1 q2 q3 Q_side Q_height Q_cell Q_taken Q_ways_0) (fun r (_ : Unit) => r = out.1) (fun _ => (wQ cI cJ cZ q0 q1 q2 q3 Q_side Q_height Q_cell Q_taken out.2)) := by
  intro sz
  refine Met.ofW (cc := cX5_waysNext) (maxL := 1) (ret := (some .int)) (by decide +kernel) rfl ?_
  intro p e s m args below meth c s₁ B hml hv
  obtain ⟨rfl, hsz, hP, hK, hD0⟩ := hv
  have hx := B.exec
  have hb := B.bytes
  have hr := B.returns
  have hlocks := B.notSynchronized
  have hg : ∀ w ∈ GW, w.before _ s = true := fun w h => atoms_spec (ws := Cond.code yX5_waysNext cX5_waysNext 1 (some .int) :: GW) B.pre w (List.mem_cons_of_mem _ h)
  have hown : s.vm.findClass RX5 = some m.cls := findClass_of_methodNamed B.named
  subst hsz
  obtain ⟨A, hAe⟩ : ∃ A, A = va_A (wQ cI cJ cZ q0 q1 q2 q3 Q_side Q_height Q_cell Q_taken Q_ways_0) s.heap.size := ⟨_, rfl⟩
  have hA : ∀ q : Nat, s.heap.size ≤ q → A q := fun q h => by rw [hAe]; exact Or.inr h
  have hI : WI D A s.heap (wQ cI cJ cZ q0 q1 q2 q3 Q_side Q_height Q_cell Q_taken Q_ways_0) s.heap [] := ⟨hP, by rw [hAe]; exact hD0.self, va_S.rf⟩
  have hl := lv_entry [.ref q0] (n := 1) (Nat.le_of_ble_eq_true rfl)
  rw [lg_entry_eq]
  generalize (lg_sl [.ref q0] ++ List.replicate (1 - (lg_sl [.ref q0]).length) Slot.unset).toArray = ls at hl ⊢
  replace hl : lv_has ls 1 [(0, .ref q0)] := hl
  obtain ⟨x, hf, hM⟩ : ∃ x, FX5_waysNext Q_side Q_taken Q_ways_0 = some x ∧ x = out := ⟨out, hf, rfl⟩
  refine lv_aload_n hx hb dX5_waysNext_0 rfl (lv_at hl 0 rfl) ?_
  obtain ⟨o1, ho1, hf⟩ := bd_e hf
  refine w_Vv0 (wc := (wQ cI cJ cZ q0 q1 q2 q3 Q_side Q_height Q_cell Q_taken Q_ways_0)) (wr := []) (rest := []) hx hb hml hg hown hK hA hI (kX5_fillWays l D cI cJ cZ q0 q1 q2 q3 Q_side Q_height Q_cell Q_taken Q_ways_0  o1 ho1) kvX5_fillWays wL_RX5_36 ⟨Nat.le_of_ble_eq_true rfl, Nat.le_of_ble_eq_true rfl⟩ rfl rfl [0, 1, 2, 3] [] rfl rfl rfl rfl (by decide) rfl rfl hl.1 (Nat.le_of_ble_eq_true rfl) dX5_waysNext_1 ⟨Nat.zero_le _, Nat.zero_le _⟩ ⟨rfl, rfl⟩ (fun  u H locs hp hI => ?_)
  replace hI : WI D A s.heap (wQ cI cJ cZ q0 q1 q2 q3 Q_side Q_height Q_cell Q_taken o1) H locs := hI
  refine lv_aload_n hx hb dX5_waysNext_4 rfl (lv_at hl 0 rfl) ?_
  refine w_get hx hb hg hown hK hI iX5 0 rfl rfl 4 (by decide) wF_RX5_18 rfl dX5_waysNext_5 ?_
  refine lv_aload_n hx hb dX5_waysNext_8 rfl (lv_at hl 0 rfl) ?_
  obtain ⟨o2, ho2, hf⟩ := bd_e hf
  refine w_Vi0 (wc := (wQ cI cJ cZ q0 q1 q2 q3 Q_side Q_height Q_cell Q_taken o1)) (wr := []) (rest := [.ref q3]) hx hb hml hg hown hK hA hI (kX5_allNumbers l D cI cJ cZ q0 q1 q2 q3 Q_side Q_height Q_cell Q_taken o1  o2 ho2) kvX5_allNumbers wL_RX5_28 ⟨Nat.le_of_ble_eq_true rfl, Nat.le_of_ble_eq_true rfl⟩ rfl rfl [0, 1, 2, 3] [] rfl rfl rfl rfl (by decide) rfl rfl hl.1 (Nat.le_of_ble_eq_true rfl) dX5_waysNext_9 ⟨Nat.zero_le _, Nat.zero_le _⟩ ⟨rfl, rfl⟩ (fun r u H locs hp hI => ?_)
  replace hp : r = o2 := hp
  rw [hp]
  clear hp
  replace hI : WI D A s.heap (wQ cI cJ cZ q0 q1 q2 q3 Q_side Q_height Q_cell Q_taken o1) H locs := hI
  obtain ⟨hin, hf⟩ := rd_e hf
  refine w_iald hx hb hK hI 3 rfl hin dX5_waysNext_12 (fun x3 ex3 => ?_)
  replace hf := hf x3 ex3
  replace hf := Option.some.inj hf
  subst hf
  replace hM : (x3, o1) = out := hM
  subst hM
  exact rt_i (u := ()) hx hb hr hlocks rfl hI hAe rfl dX5_waysNext_13
noncomputable def X5_leastDigit_L10 (Q_taken : Nat → Int32) (Q_ways : Nat → Int32) (l1 : Int32) (l2 : Int32) (v : Int32 × Int32) : Option ((Int32 × Int32) ⊕ (Int32)) :=
  if v.2 < (0 : Int32) then (some (.inr v.1)) else (rd Q_taken 9 l1 (fun x2 => (FX7_isIn (l2 &&& (x2 ^^^ (-1 : Int32))) v.2).bind (fun x3 => if x3 = (0 : Int32) then (bnd (v.2 + (-1 : Int32)) (fun x4 => some (.inl (v.1, x4)))) else (rd Q_ways 512 (l2 ^^^ ((1 : Int32) <<< (v.2 &&& (31 : Int32)))) (fun x5 => if x5 ≤ (0 : Int32) then (bnd (v.2 + (-1 : Int32)) (fun x6 => some (.inl (v.1, x6)))) else (bnd (v.2 + (-1 : Int32)) (fun x7 => some (.inl (v.2, x7)))))))))
noncomputable def FX5_leastDigit (Q_side : Int32) (Q_taken : Nat → Int32) (Q_ways : Nat → Int32) (a1 : Int32) (a2 : Int32) : Option (Int32) :=
  bnd (Q_side - (1 : Int32)) (fun x1 => loopO (X5_leastDigit_L10 Q_taken Q_ways a1 a2) ((0 : Int32), x1))
abbrev GX5_leastDigit (p : Program) (l : Launch) (e : Env) (s : State) (m : MethodId) (below : List Frame) (meth : Method) (c : Code) (D : va_G) (cI cJ cZ : ClassId) (q0 q1 q2 q3 : Nat) (Q_side : Int32) (Q_height : Int32) (Q_cell : Nat → Int32) (Q_taken : Nat → Int32) (Q_ways : Nat → Int32) (a1 : Int32) (a2 : Int32) (out : Int32) (H : Heap) (locs : List Loc) (g : JFrame) : Prop := W p l e (headSpec (Cond.code yX5_leastDigit cX5_leastDigit 5 (some .int) :: GW) { frames := 1, cells := 0, slots := 0, locals := 21 }).room s m ([.ref q0, .int a1, .int a2] : List Value).toArray below meth c H locs 0 0 (MQ below (va_Qi (fun r (_ : Unit) => r = out) (BW D (wQ cI cJ cZ q0 q1 q2 q3 Q_side Q_height Q_cell Q_taken Q_ways) s.heap.size (fun _ => (wQ cI cJ cZ q0 q1 q2 q3 Q_side Q_height Q_cell Q_taken Q_ways))) (va_A (wQ cI cJ cZ q0 q1 q2 q3 Q_side Q_height Q_cell Q_taken Q_ways) s.heap.size)) ([.ref q0, .int a1, .int a2] : List Value).toArray s 0 0 (va_A (wQ cI cJ cZ q0 q1 q2 q3 Q_side Q_height Q_cell Q_taken Q_ways) s.heap.size)) g
theorem kvX5_leastDigit : CalV RX5 yX5_leastDigit cX5_leastDigit 5 (some .int) 2 := ⟨wC_yX5_leastDigit, wM_yX5_leastDigit, wS_yX5_leastDigit, wI_RX5, by decide +kernel⟩
set_option maxHeartbeats 4000000 in
set_option maxRecDepth 100000 in
theorem kX5_leastDigit (l : Launch) (D : va_G) (cI cJ cZ : ClassId) (q0 q1 q2 q3 : Nat) (Q_side : Int32) (Q_height : Int32) (Q_cell : Nat → Int32) (Q_taken : Nat → Int32) (Q_ways : Nat → Int32) (a1 : Int32) (a2 : Int32) (out : Int32) (hf : FX5_leastDigit Q_side Q_taken Q_ways a1 a2 = some out) : MI l yX5_leastDigit (Cond.code yX5_leastDigit cX5_leastDigit 5 (some .int) :: GW) { frames := 1, cells := 0, slots := 0, locals := 21 } D cI cJ cZ [.ref q0, .int a1, .int a2] (wQ cI cJ cZ q0 q1 q2 q3 Q_side Q_height Q_cell Q_taken Q_ways) (fun r (_ : Unit) => r = out) (fun _ => (wQ cI cJ cZ q0 q1 q2 q3 Q_side Q_height Q_cell Q_taken Q_ways)) := by
  intro sz
  refine Met.ofW (cc := cX5_leastDigit) (maxL := 5) (ret := (some .int)) (by decide +kernel) rfl ?_
  intro p e s m args below meth c s₁ B hml hv
  obtain ⟨rfl, hsz, hP, hK, hD0⟩ := hv
  have hx := B.exec
  have hb := B.bytes
  have hr := B.returns
  have hlocks := B.notSynchronized
  have hg : ∀ w ∈ GW, w.before _ s = true := fun w h => atoms_spec (ws := Cond.code yX5_leastDigit cX5_leastDigit 5 (some .int) :: GW) B.pre w (List.mem_cons_of_mem _ h)
  have hown : s.vm.findClass RX5 = some m.cls := findClass_of_methodNamed B.named
  subst hsz
  obtain ⟨A, hAe⟩ : ∃ A, A = va_A (wQ cI cJ cZ q0 q1 q2 q3 Q_side Q_height Q_cell Q_taken Q_ways) s.heap.size := ⟨_, rfl⟩
  have hA : ∀ q : Nat, s.heap.size ≤ q → A q := fun q h => by rw [hAe]; exact Or.inr h
  have hI : WI D A s.heap (wQ cI cJ cZ q0 q1 q2 q3 Q_side Q_height Q_cell Q_taken Q_ways) s.heap [] := ⟨hP, by rw [hAe]; exact hD0.self, va_S.rf⟩
  have hl := lv_entry [.ref q0, .int a1, .int a2] (n := 5) (Nat.le_of_ble_eq_true rfl)
  rw [lg_entry_eq]
  generalize (lg_sl [.ref q0, .int a1, .int a2] ++ List.replicate (5 - (lg_sl [.ref q0, .int a1, .int a2]).length) Slot.unset).toArray = ls at hl ⊢
  replace hl : lv_has ls 5 [(0, .ref q0), (1, .int a1), (2, .int a2)] := hl
  have L10 : ∀ (l1 : Int32) (l2 : Int32), ∀ (v : Int32 × Int32) (x : Int32), loopO (X5_leastDigit_L10 Q_taken Q_ways l1 l2) v = some x → (fun z : Int32 => z = out) x → (fun (v : Int32 × Int32) => ∀ (H : Heap) (locs : List Loc) (ls : Array Slot), WI D A s.heap (wQ cI cJ cZ q0 q1 q2 q3 Q_side Q_height Q_cell Q_taken Q_ways) H locs → lv_has ls 5 [(0, .ref q0), (1, .int l1), (2, .int l2), (3, .int v.1), (4, .int v.2)] → GX5_leastDigit p l e s m below meth c D cI cJ cZ q0 q1 q2 q3 Q_side Q_height Q_cell Q_taken Q_ways a1 a2 out H locs (F0 m 10 ls [])) v := by
    intro l1 l2
    refine loopO_ind (fun (v : Int32 × Int32) => ∀ (H : Heap) (locs : List Loc) (ls : Array Slot), WI D A s.heap (wQ cI cJ cZ q0 q1 q2 q3 Q_side Q_height Q_cell Q_taken Q_ways) H locs → lv_has ls 5 [(0, .ref q0), (1, .int l1), (2, .int l2), (3, .int v.1), (4, .int v.2)] → GX5_leastDigit p l e s m below meth c D cI cJ cZ q0 q1 q2 q3 Q_side Q_height Q_cell Q_taken Q_ways a1 a2 out H locs (F0 m 10 ls [])) (fun z : Int32 => z = out) ?_
    intro v x hf hM H locs ls hI hl
    refine lv_iload hx hb dX5_leastDigit_10 (lv_at hl 4 rfl) ?_
    refine lv_if_lt (tgt := 56) hx hb dX5_leastDigit_12 (by decide) (fun hc => ?_) (fun hc => ?_)
    · replace hf := ite_t hc hf
      refine lv_iload_n hx hb dX5_leastDigit_56 rfl (lv_at hl 3 rfl) ?_
      replace hf := Option.some.inj hf
      subst hf
      replace hM : v.1 = out := hM
      subst hM
      exact rt_i (u := ()) hx hb hr hlocks rfl hI hAe rfl dX5_leastDigit_57
    · replace hf := ite_f hc hf
      refine lv_iload_n hx hb dX5_leastDigit_15 rfl (lv_at hl 2 rfl) ?_
      refine lv_aload_n hx hb dX5_leastDigit_16 rfl (lv_at hl 0 rfl) ?_
      refine w_get hx hb hg hown hK hI iX5 0 rfl rfl 3 (by decide) wF_RX5_15 rfl dX5_leastDigit_17 ?_
      refine lv_iload_n hx hb dX5_leastDigit_20 rfl (lv_at hl 1 rfl) ?_
      obtain ⟨hin, hf⟩ := rd_e hf
      refine w_iald hx hb hK hI 2 rfl hin dX5_leastDigit_21 (fun x2 ex2 => ?_)
      replace hf := hf x2 ex2
      refine lv_iconst (v := -1) hx hb dX5_leastDigit_22 (by decide) ?_
      refine lv_ixor hx hb dX5_leastDigit_23 ?_
      refine lv_iand hx hb dX5_leastDigit_24 ?_
      refine lv_iload hx hb dX5_leastDigit_25 (lv_at hl 4 rfl) ?_
      obtain ⟨x3, hx3, hf⟩ := bd_e hf
      refine w_N (rest := []) hx hb hml hg hown hK (kX7_isIn l D cI cJ cZ (l2 &&& (x2 ^^^ (-1 : Int32))) v.2 x3 hx3) ksX7_isIn (List.mem_of_getElem? (i := 6) rfl) ⟨Nat.le_of_ble_eq_true rfl, Nat.le_of_ble_eq_true rfl⟩ ⟨rfl, rfl⟩ rfl rfl hl.1 (Nat.le_of_ble_eq_true rfl) dX5_leastDigit_27 ⟨Nat.zero_le _, Nat.zero_le _⟩ ?_
      refine lv_if_eq (tgt := 50) hx hb dX5_leastDigit_30 (by decide) (fun hc => ?_) (fun hc => ?_)
      · replace hf := ite_t hc hf
        obtain ⟨x4, ex4⟩ : ∃ y : Int32, y = (v.2 + (-1 : Int32)) := ⟨_, rfl⟩
        replace hf := bnd_e hf x4 ex4
        refine lv_iinc (v := x4) (lv' := [(4, .int x4), (0, .ref q0), (1, .int l1), (2, .int l2), (3, .int v.1)]) hx hb dX5_leastDigit_50 hl (k := 4) rfl (by rw [ex4]; rfl) (by decide) rfl (fun ls hl => ?_)
        refine lv_goto (tgt := 10) hx hb dX5_leastDigit_53 (by decide) ?_
        replace hf := Option.some.inj hf
        subst hf
        exact hM _ _ _ hI (lv_sub hl [1, 2, 3, 4, 0] rfl)
      · replace hf := ite_f hc hf
        refine lv_aload_n hx hb dX5_leastDigit_33 rfl (lv_at hl 0 rfl) ?_
        refine w_get hx hb hg hown hK hI iX5 0 rfl rfl 4 (by decide) wF_RX5_18 rfl dX5_leastDigit_34 ?_
        refine lv_iload_n hx hb dX5_leastDigit_37 rfl (lv_at hl 2 rfl) ?_
        refine lv_iconst (v := 1) hx hb dX5_leastDigit_38 (by decide) ?_
        refine lv_iload hx hb dX5_leastDigit_39 (lv_at hl 4 rfl) ?_
        refine lv_ishl hx hb dX5_leastDigit_41 ?_
        refine lv_ixor hx hb dX5_leastDigit_42 ?_
        obtain ⟨hin, hf⟩ := rd_e hf
        refine w_iald hx hb hK hI 3 rfl hin dX5_leastDigit_43 (fun x5 ex5 => ?_)
        replace hf := hf x5 ex5
        refine lv_if_le (tgt := 50) hx hb dX5_leastDigit_44 (by decide) (fun hc => ?_) (fun hc => ?_)
        · replace hf := ite_t hc hf
          obtain ⟨x6, ex6⟩ : ∃ y : Int32, y = (v.2 + (-1 : Int32)) := ⟨_, rfl⟩
          replace hf := bnd_e hf x6 ex6
          refine lv_iinc (v := x6) (lv' := [(4, .int x6), (0, .ref q0), (1, .int l1), (2, .int l2), (3, .int v.1)]) hx hb dX5_leastDigit_50 hl (k := 4) rfl (by rw [ex6]; rfl) (by decide) rfl (fun ls hl => ?_)
          refine lv_goto (tgt := 10) hx hb dX5_leastDigit_53 (by decide) ?_
          replace hf := Option.some.inj hf
          subst hf
          exact hM _ _ _ hI (lv_sub hl [1, 2, 3, 4, 0] rfl)
        · replace hf := ite_f hc hf
          refine lv_iload hx hb dX5_leastDigit_47 (lv_at hl 4 rfl) ?_
          refine lv_istore_n (lv' := [(3, .int v.2), (0, .ref q0), (1, .int l1), (2, .int l2), (4, .int v.2)]) hx hb dX5_leastDigit_49 rfl hl (by decide) rfl (fun ls hl => ?_)
          obtain ⟨x7, ex7⟩ : ∃ y : Int32, y = (v.2 + (-1 : Int32)) := ⟨_, rfl⟩
          replace hf := bnd_e hf x7 ex7
          refine lv_iinc (v := x7) (lv' := [(4, .int x7), (3, .int v.2), (0, .ref q0), (1, .int l1), (2, .int l2)]) hx hb dX5_leastDigit_50 hl (k := 4) rfl (by rw [ex7]; rfl) (by decide) rfl (fun ls hl => ?_)
          refine lv_goto (tgt := 10) hx hb dX5_leastDigit_53 (by decide) ?_
          replace hf := Option.some.inj hf
          subst hf
          exact hM _ _ _ hI (lv_sub hl [2, 3, 4, 1, 0] rfl)
  obtain ⟨x, hf, hM⟩ : ∃ x, FX5_leastDigit Q_side Q_taken Q_ways a1 a2 = some x ∧ x = out := ⟨out, hf, rfl⟩
  refine lv_iconst (v := 0) hx hb dX5_leastDigit_0 (by decide) ?_
  refine lv_istore_n (lv' := [(3, .int (0 : Int32)), (0, .ref q0), (1, .int a1), (2, .int a2)]) hx hb dX5_leastDigit_1 rfl hl (by decide) rfl (fun ls hl => ?_)
  refine lv_aload_n hx hb dX5_leastDigit_2 rfl (lv_at hl 1 rfl) ?_
  refine w_get hx hb hg hown hK hI iX5 0 rfl rfl 0 (by decide) wF_RX5_21 rfl dX5_leastDigit_3 ?_
  refine lv_iconst (v := 1) hx hb dX5_leastDigit_6 (by decide) ?_
  refine lv_isub hx hb dX5_leastDigit_7 ?_
  refine lv_topi (fun x1 ex1 => ?_)
  replace hf := bnd_e hf x1 ex1
  refine lv_istore (lv' := [(4, .int x1), (3, .int (0 : Int32)), (0, .ref q0), (1, .int a1), (2, .int a2)]) hx hb dX5_leastDigit_8 hl (by decide) rfl (fun ls hl => ?_)
  exact L10 a1 a2 ((0 : Int32), x1) _ hf hM _ _ _ hI (lv_sub hl [2, 3, 4, 1, 0] rfl)
noncomputable def X5_leastNext_L13 (Q_side : Int32) (Q_taken : Nat → Int32) (Q_ways : Nat → Int32) (v : Int32 × Int32 × Int32) : Option ((Int32 × Int32 × Int32) ⊕ (Int32 × (Nat → Int32))) :=
  if Q_side ≤ v.2.2 then (some (.inr (v.2.1, Q_ways))) else ((FX5_leastDigit Q_side Q_taken Q_ways v.2.2 v.1).bind (fun o3 => bnd (v.1 ^^^ ((1 : Int32) <<< (o3 &&& (31 : Int32)))) (fun x4 => bnd ((v.2.1 * (10 : Int32)) + o3) (fun x5 => bnd (v.2.2 + (1 : Int32)) (fun x6 => some (.inl (x4, x5, x6)))))))
noncomputable def FX5_leastNext (Q_side : Int32) (Q_taken : Nat → Int32) (Q_ways_0 : Nat → Int32)  : Option (Int32 × (Nat → Int32)) :=
  (FX5_fillWays Q_side Q_taken Q_ways_0).bind (fun o1 => (FX5_allNumbers Q_side).bind (fun o2 => loopO (X5_leastNext_L13 Q_side Q_taken o1) (o2, (0 : Int32), (0 : Int32))))
abbrev GX5_leastNext (p : Program) (l : Launch) (e : Env) (s : State) (m : MethodId) (below : List Frame) (meth : Method) (c : Code) (D : va_G) (cI cJ cZ : ClassId) (q0 q1 q2 q3 : Nat) (Q_side : Int32) (Q_height : Int32) (Q_cell : Nat → Int32) (Q_taken : Nat → Int32) (Q_ways_0 : Nat → Int32)  (out : Int32 × (Nat → Int32)) (H : Heap) (locs : List Loc) (g : JFrame) : Prop := W p l e (headSpec (Cond.code yX5_leastNext cX5_leastNext 5 (some .int) :: GW) { frames := 3, cells := 0, slots := 0, locals := 66 }).room s m ([.ref q0] : List Value).toArray below meth c H locs 0 0 (MQ below (va_Qi (fun r (_ : Unit) => r = out.1) (BW D (wQ cI cJ cZ q0 q1 q2 q3 Q_side Q_height Q_cell Q_taken Q_ways_0) s.heap.size (fun _ => (wQ cI cJ cZ q0 q1 q2 q3 Q_side Q_height Q_cell Q_taken out.2))) (va_A (wQ cI cJ cZ q0 q1 q2 q3 Q_side Q_height Q_cell Q_taken Q_ways_0) s.heap.size)) ([.ref q0] : List Value).toArray s 0 0 (va_A (wQ cI cJ cZ q0 q1 q2 q3 Q_side Q_height Q_cell Q_taken Q_ways_0) s.heap.size)) g
theorem kvX5_leastNext : CalV RX5 yX5_leastNext cX5_leastNext 5 (some .int) 0 := ⟨wC_yX5_leastNext, wM_yX5_leastNext, wS_yX5_leastNext, wI_RX5, by decide +kernel⟩
set_option maxHeartbeats 4000000 in
set_option maxRecDepth 100000 in
theorem kX5_leastNext (l : Launch) (D : va_G) (cI cJ cZ : ClassId) (q0 q1 q2 q3 : Nat) (Q_side : Int32) (Q_height : Int32) (Q_cell : Nat → Int32) (Q_taken : Nat → Int32) (Q_ways_0 : Nat → Int32)  (out : Int32 × (Nat → Int32)) (hf : FX5_leastNext Q_side Q_taken Q_ways_0 = some out) : MI l yX5_leastNext (Cond.code yX5_leastNext cX5_leastNext 5 (some .int) :: GW) { frames := 3, cells := 0, slots := 0, locals := 66 } D cI cJ cZ [.ref q0] (wQ cI cJ cZ q0 q1 q2 q3 Q_side Q_height Q_cell Q_taken Q_ways_0) (fun r (_ : Unit) => r = out.1) (fun _ => (wQ cI cJ cZ q0 q1 q2 q3 Q_side Q_height Q_cell Q_taken out.2)) := by
  intro sz
  refine Met.ofW (cc := cX5_leastNext) (maxL := 5) (ret := (some .int)) (by decide +kernel) rfl ?_
  intro p e s m args below meth c s₁ B hml hv
  obtain ⟨rfl, hsz, hP, hK, hD0⟩ := hv
  have hx := B.exec
  have hb := B.bytes
  have hr := B.returns
  have hlocks := B.notSynchronized
  have hg : ∀ w ∈ GW, w.before _ s = true := fun w h => atoms_spec (ws := Cond.code yX5_leastNext cX5_leastNext 5 (some .int) :: GW) B.pre w (List.mem_cons_of_mem _ h)
  have hown : s.vm.findClass RX5 = some m.cls := findClass_of_methodNamed B.named
  subst hsz
  obtain ⟨A, hAe⟩ : ∃ A, A = va_A (wQ cI cJ cZ q0 q1 q2 q3 Q_side Q_height Q_cell Q_taken Q_ways_0) s.heap.size := ⟨_, rfl⟩
  have hA : ∀ q : Nat, s.heap.size ≤ q → A q := fun q h => by rw [hAe]; exact Or.inr h
  have hI : WI D A s.heap (wQ cI cJ cZ q0 q1 q2 q3 Q_side Q_height Q_cell Q_taken Q_ways_0) s.heap [] := ⟨hP, by rw [hAe]; exact hD0.self, va_S.rf⟩
  have hl := lv_entry [.ref q0] (n := 5) (Nat.le_of_ble_eq_true rfl)
  rw [lg_entry_eq]
  generalize (lg_sl [.ref q0] ++ List.replicate (5 - (lg_sl [.ref q0]).length) Slot.unset).toArray = ls at hl ⊢
  replace hl : lv_has ls 5 [(0, .ref q0)] := hl
  have L13 : ∀ (Q_ways : Nat → Int32), ∀ (v : Int32 × Int32 × Int32) (x : Int32 × (Nat → Int32)), loopO (X5_leastNext_L13 Q_side Q_taken Q_ways) v = some x → (fun z : Int32 × (Nat → Int32) => z = out) x → (fun (v : Int32 × Int32 × Int32) => ∀ (H : Heap) (locs : List Loc) (ls : Array Slot), WI D A s.heap (wQ cI cJ cZ q0 q1 q2 q3 Q_side Q_height Q_cell Q_taken Q_ways) H locs → lv_has ls 5 [(0, .ref q0), (1, .int v.1), (2, .int v.2.1), (3, .int v.2.2)] → GX5_leastNext p l e s m below meth c D cI cJ cZ q0 q1 q2 q3 Q_side Q_height Q_cell Q_taken Q_ways_0  out H locs (F0 m 13 ls [])) v := by
    intro Q_ways
    refine loopO_ind (fun (v : Int32 × Int32 × Int32) => ∀ (H : Heap) (locs : List Loc) (ls : Array Slot), WI D A s.heap (wQ cI cJ cZ q0 q1 q2 q3 Q_side Q_height Q_cell Q_taken Q_ways) H locs → lv_has ls 5 [(0, .ref q0), (1, .int v.1), (2, .int v.2.1), (3, .int v.2.2)] → GX5_leastNext p l e s m below meth c D cI cJ cZ q0 q1 q2 q3 Q_side Q_height Q_cell Q_taken Q_ways_0  out H locs (F0 m 13 ls [])) (fun z : Int32 × (Nat → Int32) => z = out) ?_
    intro v x hf hM H locs ls hI hl
    refine lv_iload_n hx hb dX5_leastNext_13 rfl (lv_at hl 3 rfl) ?_
    refine lv_aload_n hx hb dX5_leastNext_14 rfl (lv_at hl 0 rfl) ?_
    refine w_get hx hb hg hown hK hI iX5 0 rfl rfl 0 (by decide) wF_RX5_21 rfl dX5_leastNext_15 ?_
    refine lv_icmp_ge (tgt := 50) hx hb dX5_leastNext_18 (by decide) (fun hc => ?_) (fun hc => ?_)
    · replace hf := ite_t hc hf
      refine lv_iload_n hx hb dX5_leastNext_50 rfl (lv_at hl 2 rfl) ?_
      replace hf := Option.some.inj hf
      subst hf
      replace hM : (v.2.1, Q_ways) = out := hM
      subst hM
      exact rt_i (u := ()) hx hb hr hlocks rfl hI hAe rfl dX5_leastNext_51
    · replace hf := ite_f hc hf
      refine lv_aload_n hx hb dX5_leastNext_21 rfl (lv_at hl 0 rfl) ?_
      refine lv_iload_n hx hb dX5_leastNext_22 rfl (lv_at hl 3 rfl) ?_
      refine lv_iload_n hx hb dX5_leastNext_23 rfl (lv_at hl 1 rfl) ?_
      obtain ⟨o3, ho3, hf⟩ := bd_e hf
      refine w_Vi0 (wc := (wQ cI cJ cZ q0 q1 q2 q3 Q_side Q_height Q_cell Q_taken Q_ways)) (wr := []) (rest := []) hx hb hml hg hown hK hA hI (kX5_leastDigit l D cI cJ cZ q0 q1 q2 q3 Q_side Q_height Q_cell Q_taken Q_ways v.2.2 v.1 o3 ho3) kvX5_leastDigit wL_RX5_39 ⟨Nat.le_of_ble_eq_true rfl, Nat.le_of_ble_eq_true rfl⟩ rfl rfl [0, 1, 2, 3] [] rfl rfl rfl rfl (by decide) rfl rfl hl.1 (Nat.le_of_ble_eq_true rfl) dX5_leastNext_24 ⟨Nat.zero_le _, Nat.zero_le _⟩ ⟨rfl, rfl⟩ (fun r u H locs hp hI => ?_)
      replace hp : r = o3 := hp
      rw [hp]
      clear hp
      replace hI : WI D A s.heap (wQ cI cJ cZ q0 q1 q2 q3 Q_side Q_height Q_cell Q_taken Q_ways) H locs := hI
      refine lv_istore (lv' := [(4, .int o3), (0, .ref q0), (1, .int v.1), (2, .int v.2.1), (3, .int v.2.2)]) hx hb dX5_leastNext_27 hl (by decide) rfl (fun ls hl => ?_)
      refine lv_iload_n hx hb dX5_leastNext_29 rfl (lv_at hl 2 rfl) ?_
      refine lv_iconst (v := 1) hx hb dX5_leastNext_30 (by decide) ?_
      refine lv_iload hx hb dX5_leastNext_31 (lv_at hl 0 rfl) ?_
      refine lv_ishl hx hb dX5_leastNext_33 ?_
      refine lv_ixor hx hb dX5_leastNext_34 ?_
      refine lv_topi (fun x4 ex4 => ?_)
      replace hf := bnd_e hf x4 ex4
      refine lv_istore_n (lv' := [(1, .int x4), (4, .int o3), (0, .ref q0), (2, .int v.2.1), (3, .int v.2.2)]) hx hb dX5_leastNext_35 rfl hl (by decide) rfl (fun ls hl => ?_)
      refine lv_iload_n hx hb dX5_leastNext_36 rfl (lv_at hl 3 rfl) ?_
      refine lv_bipush (v := 10) hx hb dX5_leastNext_37 (by decide) ?_
      refine lv_imul hx hb dX5_leastNext_39 ?_
      refine lv_iload hx hb dX5_leastNext_40 (lv_at hl 1 rfl) ?_
      refine lv_iadd hx hb dX5_leastNext_42 ?_
      refine lv_topi (fun x5 ex5 => ?_)
      replace hf := bnd_e hf x5 ex5
      refine lv_istore_n (lv' := [(2, .int x5), (1, .int x4), (4, .int o3), (0, .ref q0), (3, .int v.2.2)]) hx hb dX5_leastNext_43 rfl hl (by decide) rfl (fun ls hl => ?_)
      obtain ⟨x6, ex6⟩ : ∃ y : Int32, y = (v.2.2 + (1 : Int32)) := ⟨_, rfl⟩
      replace hf := bnd_e hf x6 ex6
      refine lv_iinc (v := x6) (lv' := [(3, .int x6), (2, .int x5), (1, .int x4), (4, .int o3), (0, .ref q0)]) hx hb dX5_leastNext_44 hl (k := 4) rfl (by rw [ex6]; rfl) (by decide) rfl (fun ls hl => ?_)
      refine lv_goto (tgt := 13) hx hb dX5_leastNext_47 (by decide) ?_
      replace hf := Option.some.inj hf
      subst hf
      exact hM _ _ _ hI (lv_sub hl [4, 2, 1, 0] rfl)
  obtain ⟨x, hf, hM⟩ : ∃ x, FX5_leastNext Q_side Q_taken Q_ways_0 = some x ∧ x = out := ⟨out, hf, rfl⟩
  refine lv_aload_n hx hb dX5_leastNext_0 rfl (lv_at hl 0 rfl) ?_
  obtain ⟨o1, ho1, hf⟩ := bd_e hf
  refine w_Vv0 (wc := (wQ cI cJ cZ q0 q1 q2 q3 Q_side Q_height Q_cell Q_taken Q_ways_0)) (wr := []) (rest := []) hx hb hml hg hown hK hA hI (kX5_fillWays l D cI cJ cZ q0 q1 q2 q3 Q_side Q_height Q_cell Q_taken Q_ways_0  o1 ho1) kvX5_fillWays wL_RX5_36 ⟨Nat.le_of_ble_eq_true rfl, Nat.le_of_ble_eq_true rfl⟩ rfl rfl [0, 1, 2, 3] [] rfl rfl rfl rfl (by decide) rfl rfl hl.1 (Nat.le_of_ble_eq_true rfl) dX5_leastNext_1 ⟨Nat.zero_le _, Nat.zero_le _⟩ ⟨rfl, rfl⟩ (fun  u H locs hp hI => ?_)
  replace hI : WI D A s.heap (wQ cI cJ cZ q0 q1 q2 q3 Q_side Q_height Q_cell Q_taken o1) H locs := hI
  refine lv_aload_n hx hb dX5_leastNext_4 rfl (lv_at hl 0 rfl) ?_
  obtain ⟨o2, ho2, hf⟩ := bd_e hf
  refine w_Vi0 (wc := (wQ cI cJ cZ q0 q1 q2 q3 Q_side Q_height Q_cell Q_taken o1)) (wr := []) (rest := []) hx hb hml hg hown hK hA hI (kX5_allNumbers l D cI cJ cZ q0 q1 q2 q3 Q_side Q_height Q_cell Q_taken o1  o2 ho2) kvX5_allNumbers wL_RX5_28 ⟨Nat.le_of_ble_eq_true rfl, Nat.le_of_ble_eq_true rfl⟩ rfl rfl [0, 1, 2, 3] [] rfl rfl rfl rfl (by decide) rfl rfl hl.1 (Nat.le_of_ble_eq_true rfl) dX5_leastNext_5 ⟨Nat.zero_le _, Nat.zero_le _⟩ ⟨rfl, rfl⟩ (fun r u H locs hp hI => ?_)
  replace hp : r = o2 := hp
  rw [hp]
  clear hp
  replace hI : WI D A s.heap (wQ cI cJ cZ q0 q1 q2 q3 Q_side Q_height Q_cell Q_taken o1) H locs := hI
  refine lv_istore_n (lv' := [(1, .int o2), (0, .ref q0)]) hx hb dX5_leastNext_8 rfl hl (by decide) rfl (fun ls hl => ?_)
  refine lv_iconst (v := 0) hx hb dX5_leastNext_9 (by decide) ?_
  refine lv_istore_n (lv' := [(2, .int (0 : Int32)), (1, .int o2), (0, .ref q0)]) hx hb dX5_leastNext_10 rfl hl (by decide) rfl (fun ls hl => ?_)
  refine lv_iconst (v := 0) hx hb dX5_leastNext_11 (by decide) ?_
  refine lv_istore_n (lv' := [(3, .int (0 : Int32)), (2, .int (0 : Int32)), (1, .int o2), (0, .ref q0)]) hx hb dX5_leastNext_12 rfl hl (by decide) rfl (fun ls hl => ?_)
  exact L13 o1 (o2, (0 : Int32), (0 : Int32)) _ hf hM _ _ _ hI (lv_sub hl [3, 2, 1, 0] rfl)
