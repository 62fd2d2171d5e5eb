noncomputable def X3_roadsNumbered_L4 (N_roadCount : Int32) (N_number : Nat → Int32) (l1 : Int32) (v : Int32 × Int32) : Option ((Int32 × Int32) ⊕ (Int32)) :=
  if N_roadCount ≤ v.2 then (some (.inr v.1)) else (rd N_number 24 v.2 (fun x1 => if x1 = l1 then (bnd (v.1 ||| ((1 : Int32) <<< (v.2 &&& (31 : Int32)))) (fun x3 => bnd (v.2 + (1 : Int32)) (fun x4 => some (.inl (x3, x4))))) else (bnd (v.2 + (1 : Int32)) (fun x2 => some (.inl (v.1, x2))))))
noncomputable def FX3_roadsNumbered (N_roadCount : Int32) (N_number : Nat → Int32) (a1 : Int32) : Option (Int32) :=
  loopO (X3_roadsNumbered_L4 N_roadCount N_number a1) ((0 : Int32), (0 : Int32))
abbrev GX3_roadsNumbered (p : Program) (l : Launch) (e : Env) (s : State) (m : MethodId) (below : List Frame) (meth : Method) (c : Code) (D : va_G) (cI cJ cZ : ClassId) (n0 n1 n2 n3 n4 n5 n6 : Nat) (N_postCount : Int32) (N_roadCount : Int32) (N_first : Nat → Int32) (N_second : Nat → Int32) (N_number : Nat → Int32) (N_allowed : Nat → Int32) (N_at : Nat → Int32) (N_beside : Nat → Int32) (a1 : Int32) (out : Int32) (H : Heap) (locs : List Loc) (g : JFrame) : Prop := W p l e (headSpec (Cond.code yX3_roadsNumbered cX3_roadsNumbered 4 (some .int) :: GW) { frames := 0, cells := 0, slots := 0, locals := 0 }).room s m ([.ref n0, .int a1] : List Value).toArray below meth c H locs 0 0 (MQ below (va_Qi (fun r (_ : Unit) => r = out) (BW D (wN cI cJ cZ n0 n1 n2 n3 n4 n5 n6 N_postCount N_roadCount N_first N_second N_number N_allowed N_at N_beside) s.heap.size (fun _ => (wN cI cJ cZ n0 n1 n2 n3 n4 n5 n6 N_postCount N_roadCount N_first N_second N_number N_allowed N_at N_beside))) (va_A (wN cI cJ cZ n0 n1 n2 n3 n4 n5 n6 N_postCount N_roadCount N_first N_second N_number N_allowed N_at N_beside) s.heap.size)) ([.ref n0, .int a1] : List Value).toArray s 0 0 (va_A (wN cI cJ cZ n0 n1 n2 n3 n4 n5 n6 N_postCount N_roadCount N_first N_second N_number N_allowed N_at N_beside) s.heap.size)) g
theorem kvX3_roadsNumbered : CalV RX3 yX3_roadsNumbered cX3_roadsNumbered 4 (some .int) 1 := ⟨wC_yX3_roadsNumbered, wM_yX3_roadsNumbered, wS_yX3_roadsNumbered, wI_RX3, by decide +kernel⟩
set_option maxHeartbeats 4000000 in
set_option maxRecDepth 100000 in
theorem kX3_roadsNumbered (l : Launch) (D : va_G) (cI cJ cZ : ClassId) (n0 n1 n2 n3 n4 n5 n6 : Nat) (N_postCount : Int32) (N_roadCount : Int32) (N_first : Nat → Int32) (N_second : Nat → Int32) (N_number : Nat → Int32) (N_allowed : Nat → Int32) (N_at : Nat → Int32) (N_beside : Nat → Int32) (a1 : Int32) (out : Int32) (hf : FX3_roadsNumbered N_roadCount N_number a1 = some out) : MI l yX3_roadsNumbered (Cond.code yX3_roadsNumbered cX3_roadsNumbered 4 (some .int) :: GW) { frames := 0, cells := 0, slots := 0, locals := 0 } D cI cJ cZ [.ref n0, .int a1] (wN cI cJ cZ n0 n1 n2 n3 n4 n5 n6 N_postCount N_roadCount N_first N_second N_number N_allowed N_at N_beside) (fun r (_ : Unit) => r = out) (fun _ => (wN cI cJ cZ n0 n1 n2 n3 n4 n5 n6 N_postCount N_roadCount N_first N_second N_number N_allowed N_at N_beside)) := by
  intro sz
  refine Met.ofW (cc := cX3_roadsNumbered) (maxL := 4) (ret := (some .int)) (by decide +kernel) rfl ?_
  intro p e s m args below meth c s₁ B hml hv
  obtain ⟨rfl, hsz, hP, hK, hD0⟩ := hv
  have hx := B.exec
  have hb := B.bytes
  have hr := B.returns
  have hlocks := B.notSynchronized
  have hg : ∀ w ∈ GW, w.before _ s = true := fun w h => atoms_spec (ws := Cond.code yX3_roadsNumbered cX3_roadsNumbered 4 (some .int) :: GW) B.pre w (List.mem_cons_of_mem _ h)
  have hown : s.vm.findClass RX3 = some m.cls := findClass_of_methodNamed B.named
  subst hsz
  obtain ⟨A, hAe⟩ : ∃ A, A = va_A (wN cI cJ cZ n0 n1 n2 n3 n4 n5 n6 N_postCount N_roadCount N_first N_second N_number N_allowed N_at N_beside) s.heap.size := ⟨_, rfl⟩
  have hA : ∀ q : Nat, s.heap.size ≤ q → A q := fun q h => by rw [hAe]; exact Or.inr h
  have hI : WI D A s.heap (wN cI cJ cZ n0 n1 n2 n3 n4 n5 n6 N_postCount N_roadCount N_first N_second N_number N_allowed N_at N_beside) s.heap [] := ⟨hP, by rw [hAe]; exact hD0.self, va_S.rf⟩
  have hl := lv_entry [.ref n0, .int a1] (n := 4) (Nat.le_of_ble_eq_true rfl)
  rw [lg_entry_eq]
  generalize (lg_sl [.ref n0, .int a1] ++ List.replicate (4 - (lg_sl [.ref n0, .int a1]).length) Slot.unset).toArray = ls at hl ⊢
  replace hl : lv_has ls 4 [(0, .ref n0), (1, .int a1)] := hl
  have L4 : ∀ (l1 : Int32), ∀ (v : Int32 × Int32) (x : Int32), loopO (X3_roadsNumbered_L4 N_roadCount N_number l1) v = some x → (fun z : Int32 => z = out) x → (fun (v : Int32 × Int32) => ∀ (H : Heap) (locs : List Loc) (ls : Array Slot), WI D A s.heap (wN cI cJ cZ n0 n1 n2 n3 n4 n5 n6 N_postCount N_roadCount N_first N_second N_number N_allowed N_at N_beside) H locs → lv_has ls 4 [(0, .ref n0), (1, .int l1), (2, .int v.1), (3, .int v.2)] → GX3_roadsNumbered p l e s m below meth c D cI cJ cZ n0 n1 n2 n3 n4 n5 n6 N_postCount N_roadCount N_first N_second N_number N_allowed N_at N_beside a1 out H locs (F0 m 4 ls [])) v := by
    intro l1
    refine loopO_ind (fun (v : Int32 × Int32) => ∀ (H : Heap) (locs : List Loc) (ls : Array Slot), WI D A s.heap (wN cI cJ cZ n0 n1 n2 n3 n4 n5 n6 N_postCount N_roadCount N_first N_second N_number N_allowed N_at N_beside) H locs → lv_has ls 4 [(0, .ref n0), (1, .int l1), (2, .int v.1), (3, .int v.2)] → GX3_roadsNumbered p l e s m below meth c D cI cJ cZ n0 n1 n2 n3 n4 n5 n6 N_postCount N_roadCount N_first N_second N_number N_allowed N_at N_beside a1 out H locs (F0 m 4 ls [])) (fun z : Int32 => z = out) ?_
    intro v x hf hM H locs ls hI hl
    refine lv_iload_n hx hb dX3_roadsNumbered_4 rfl (lv_at hl 3 rfl) ?_
    refine lv_aload_n hx hb dX3_roadsNumbered_5 rfl (lv_at hl 0 rfl) ?_
    refine w_get hx hb hg hown hK hI iX3 0 rfl rfl 1 (by decide) wF_RX3_34 rfl dX3_roadsNumbered_6 ?_
    refine lv_icmp_ge (tgt := 34) hx hb dX3_roadsNumbered_9 (by decide) (fun hc => ?_) (fun hc => ?_)
    · replace hf := ite_t hc hf
      refine lv_iload_n hx hb dX3_roadsNumbered_34 rfl (lv_at hl 2 rfl) ?_
      replace hf := Option.some.inj hf
      subst hf
      replace hM : v.1 = out := hM
      subst hM
      exact rt_i (u := ()) hx hb hr hlocks rfl hI hAe rfl dX3_roadsNumbered_35
    · replace hf := ite_f hc hf
      refine lv_aload_n hx hb dX3_roadsNumbered_12 rfl (lv_at hl 0 rfl) ?_
      refine w_get hx hb hg hown hK hI iX3 0 rfl rfl 4 (by decide) wF_RX3_18 rfl dX3_roadsNumbered_13 ?_
      refine lv_iload_n hx hb dX3_roadsNumbered_16 rfl (lv_at hl 3 rfl) ?_
      obtain ⟨hin, hf⟩ := rd_e hf
      refine w_iald hx hb hK hI 3 rfl hin dX3_roadsNumbered_17 (fun x1 ex1 => ?_)
      replace hf := hf x1 ex1
      refine lv_iload_n hx hb dX3_roadsNumbered_18 rfl (lv_at hl 1 rfl) ?_
      refine lv_icmp_ne (tgt := 28) hx hb dX3_roadsNumbered_19 (by decide) (fun hc => ?_) (fun hc => ?_)
      · replace hf := ite_f hc hf
        obtain ⟨x2, ex2⟩ : ∃ y : Int32, y = (v.2 + (1 : Int32)) := ⟨_, rfl⟩
        replace hf := bnd_e hf x2 ex2
        refine lv_iinc (v := x2) (lv' := [(3, .int x2), (0, .ref n0), (1, .int l1), (2, .int v.1)]) hx hb dX3_roadsNumbered_28 hl (k := 3) rfl (by rw [ex2]; rfl) (by decide) rfl (fun ls hl => ?_)
        refine lv_goto (tgt := 4) hx hb dX3_roadsNumbered_31 (by decide) ?_
        replace hf := Option.some.inj hf
        subst hf
        exact hM _ _ _ hI (lv_sub hl [1, 2, 3, 0] rfl)
      · replace hf := ite_t hc hf
        refine lv_iload_n hx hb dX3_roadsNumbered_22 rfl (lv_at hl 2 rfl) ?_
        refine lv_iconst (v := 1) hx hb dX3_roadsNumbered_23 (by decide) ?_
        refine lv_iload_n hx hb dX3_roadsNumbered_24 rfl (lv_at hl 3 rfl) ?_
        refine lv_ishl hx hb dX3_roadsNumbered_25 ?_
        refine lv_ior hx hb dX3_roadsNumbered_26 ?_
        refine lv_topi (fun x3 ex3 => ?_)
        replace hf := bnd_e hf x3 ex3
        refine lv_istore_n (lv' := [(2, .int x3), (0, .ref n0), (1, .int l1), (3, .int v.2)]) hx hb dX3_roadsNumbered_27 rfl hl (by decide) rfl (fun ls hl => ?_)
        obtain ⟨x4, ex4⟩ : ∃ y : Int32, y = (v.2 + (1 : Int32)) := ⟨_, rfl⟩
        replace hf := bnd_e hf x4 ex4
        refine lv_iinc (v := x4) (lv' := [(3, .int x4), (2, .int x3), (0, .ref n0), (1, .int l1)]) hx hb dX3_roadsNumbered_28 hl (k := 3) rfl (by rw [ex4]; rfl) (by decide) rfl (fun ls hl => ?_)
        refine lv_goto (tgt := 4) hx hb dX3_roadsNumbered_31 (by decide) ?_
        replace hf := Option.some.inj hf
        subst hf
        exact hM _ _ _ hI (lv_sub hl [2, 3, 1, 0] rfl)
  obtain ⟨x, hf, hM⟩ : ∃ x, FX3_roadsNumbered N_roadCount N_number a1 = some x ∧ x = out := ⟨out, hf, rfl⟩
  refine lv_iconst (v := 0) hx hb dX3_roadsNumbered_0 (by decide) ?_
  refine lv_istore_n (lv' := [(2, .int (0 : Int32)), (0, .ref n0), (1, .int a1)]) hx hb dX3_roadsNumbered_1 rfl hl (by decide) rfl (fun ls hl => ?_)
  refine lv_iconst (v := 0) hx hb dX3_roadsNumbered_2 (by decide) ?_
  refine lv_istore_n (lv' := [(3, .int (0 : Int32)), (2, .int (0 : Int32)), (0, .ref n0), (1, .int a1)]) hx hb dX3_roadsNumbered_3 rfl hl (by decide) rfl (fun ls hl => ?_)
  exact L4 a1 ((0 : Int32), (0 : Int32)) _ hf hM _ _ _ hI (lv_sub hl [2, 3, 1, 0] rfl)
noncomputable def X3_besideAny_L4 (N_roadCount : Int32) (N_beside : Nat → Int32) (l1 : Int32) (v : Int32 × Int32) : Option ((Int32 × Int32) ⊕ (Int32)) :=
  if N_roadCount ≤ v.2 then (some (.inr v.1)) else ((FX7_isIn l1 v.2).bind (fun x1 => if x1 = (0 : Int32) then (bnd (v.2 + (1 : Int32)) (fun x2 => some (.inl (v.1, x2)))) else (rd N_beside 24 v.2 (fun x3 => bnd (v.1 ||| x3) (fun x4 => bnd (v.2 + (1 : Int32)) (fun x5 => some (.inl (x4, x5))))))))
noncomputable def FX3_besideAny (N_roadCount : Int32) (N_beside : Nat → Int32) (a1 : Int32) : Option (Int32) :=
  loopO (X3_besideAny_L4 N_roadCount N_beside a1) ((0 : Int32), (0 : Int32))
abbrev GX3_besideAny (p : Program) (l : Launch) (e : Env) (s : State) (m : MethodId) (below : List Frame) (meth : Method) (c : Code) (D : va_G) (cI cJ cZ : ClassId) (n0 n1 n2 n3 n4 n5 n6 : Nat) (N_postCount : Int32) (N_roadCount : Int32) (N_first : Nat → Int32) (N_second : Nat → Int32) (N_number : Nat → Int32) (N_allowed : Nat → Int32) (N_at : Nat → Int32) (N_beside : Nat → Int32) (a1 : Int32) (out : Int32) (H : Heap) (locs : List Loc) (g : JFrame) : Prop := W p l e (headSpec (Cond.code yX3_besideAny cX3_besideAny 4 (some .int) :: GW) { frames := 1, cells := 0, slots := 0, locals := 21 }).room s m ([.ref n0, .int a1] : List Value).toArray below meth c H locs 0 0 (MQ below (va_Qi (fun r (_ : Unit) => r = out) (BW D (wN cI cJ cZ n0 n1 n2 n3 n4 n5 n6 N_postCount N_roadCount N_first N_second N_number N_allowed N_at N_beside) s.heap.size (fun _ => (wN cI cJ cZ n0 n1 n2 n3 n4 n5 n6 N_postCount N_roadCount N_first N_second N_number N_allowed N_at N_beside))) (va_A (wN cI cJ cZ n0 n1 n2 n3 n4 n5 n6 N_postCount N_roadCount N_first N_second N_number N_allowed N_at N_beside) s.heap.size)) ([.ref n0, .int a1] : List Value).toArray s 0 0 (va_A (wN cI cJ cZ n0 n1 n2 n3 n4 n5 n6 N_postCount N_roadCount N_first N_second N_number N_allowed N_at N_beside) s.heap.size)) g
theorem kvX3_besideAny : CalV RX3 yX3_besideAny cX3_besideAny 4 (some .int) 1 := ⟨wC_yX3_besideAny, wM_yX3_besideAny, wS_yX3_besideAny, wI_RX3, by decide +kernel⟩
set_option maxHeartbeats 4000000 in
set_option maxRecDepth 100000 in
theorem kX3_besideAny (l : Launch) (D : va_G) (cI cJ cZ : ClassId) (n0 n1 n2 n3 n4 n5 n6 : Nat) (N_postCount : Int32) (N_roadCount : Int32) (N_first : Nat → Int32) (N_second : Nat → Int32) (N_number : Nat → Int32) (N_allowed : Nat → Int32) (N_at : Nat → Int32) (N_beside : Nat → Int32) (a1 : Int32) (out : Int32) (hf : FX3_besideAny N_roadCount N_beside a1 = some out) : MI l yX3_besideAny (Cond.code yX3_besideAny cX3_besideAny 4 (some .int) :: GW) { frames := 1, cells := 0, slots := 0, locals := 21 } D cI cJ cZ [.ref n0, .int a1] (wN cI cJ cZ n0 n1 n2 n3 n4 n5 n6 N_postCount N_roadCount N_first N_second N_number N_allowed N_at N_beside) (fun r (_ : Unit) => r = out) (fun _ => (wN cI cJ cZ n0 n1 n2 n3 n4 n5 n6 N_postCount N_roadCount N_first N_second N_number N_allowed N_at N_beside)) := by
  intro sz
  refine Met.ofW (cc := cX3_besideAny) (maxL := 4) (ret := (some .int)) (by decide +kernel) rfl ?_
  intro p e s m args below meth c s₁ B hml hv
  obtain ⟨rfl, hsz, hP, hK, hD0⟩ := hv
  have hx := B.exec
  have hb := B.bytes
  have hr := B.returns
  have hlocks := B.notSynchronized
  have hg : ∀ w ∈ GW, w.before _ s = true := fun w h => atoms_spec (ws := Cond.code yX3_besideAny cX3_besideAny 4 (some .int) :: GW) B.pre w (List.mem_cons_of_mem _ h)
  have hown : s.vm.findClass RX3 = some m.cls := findClass_of_methodNamed B.named
  subst hsz
  obtain ⟨A, hAe⟩ : ∃ A, A = va_A (wN cI cJ cZ n0 n1 n2 n3 n4 n5 n6 N_postCount N_roadCount N_first N_second N_number N_allowed N_at N_beside) s.heap.size := ⟨_, rfl⟩
  have hA : ∀ q : Nat, s.heap.size ≤ q → A q := fun q h => by rw [hAe]; exact Or.inr h
  have hI : WI D A s.heap (wN cI cJ cZ n0 n1 n2 n3 n4 n5 n6 N_postCount N_roadCount N_first N_second N_number N_allowed N_at N_beside) s.heap [] := ⟨hP, by rw [hAe]; exact hD0.self, va_S.rf⟩
  have hl := lv_entry [.ref n0, .int a1] (n := 4) (Nat.le_of_ble_eq_true rfl)
  rw [lg_entry_eq]
  generalize (lg_sl [.ref n0, .int a1] ++ List.replicate (4 - (lg_sl [.ref n0, .int a1]).length) Slot.unset).toArray = ls at hl ⊢
  replace hl : lv_has ls 4 [(0, .ref n0), (1, .int a1)] := hl
  have L4 : ∀ (l1 : Int32), ∀ (v : Int32 × Int32) (x : Int32), loopO (X3_besideAny_L4 N_roadCount N_beside l1) v = some x → (fun z : Int32 => z = out) x → (fun (v : Int32 × Int32) => ∀ (H : Heap) (locs : List Loc) (ls : Array Slot), WI D A s.heap (wN cI cJ cZ n0 n1 n2 n3 n4 n5 n6 N_postCount N_roadCount N_first N_second N_number N_allowed N_at N_beside) H locs → lv_has ls 4 [(0, .ref n0), (1, .int l1), (2, .int v.1), (3, .int v.2)] → GX3_besideAny p l e s m below meth c D cI cJ cZ n0 n1 n2 n3 n4 n5 n6 N_postCount N_roadCount N_first N_second N_number N_allowed N_at N_beside a1 out H locs (F0 m 4 ls [])) v := by
    intro l1
    refine loopO_ind (fun (v : Int32 × Int32) => ∀ (H : Heap) (locs : List Loc) (ls : Array Slot), WI D A s.heap (wN cI cJ cZ n0 n1 n2 n3 n4 n5 n6 N_postCount N_roadCount N_first N_second N_number N_allowed N_at N_beside) H locs → lv_has ls 4 [(0, .ref n0), (1, .int l1), (2, .int v.1), (3, .int v.2)] → GX3_besideAny p l e s m below meth c D cI cJ cZ n0 n1 n2 n3 n4 n5 n6 N_postCount N_roadCount N_first N_second N_number N_allowed N_at N_beside a1 out H locs (F0 m 4 ls [])) (fun z : Int32 => z = out) ?_
    intro v x hf hM H locs ls hI hl
    refine lv_iload_n hx hb dX3_besideAny_4 rfl (lv_at hl 3 rfl) ?_
    refine lv_aload_n hx hb dX3_besideAny_5 rfl (lv_at hl 0 rfl) ?_
    refine w_get hx hb hg hown hK hI iX3 0 rfl rfl 1 (by decide) wF_RX3_34 rfl dX3_besideAny_6 ?_
    refine lv_icmp_ge (tgt := 35) hx hb dX3_besideAny_9 (by decide) (fun hc => ?_) (fun hc => ?_)
    · replace hf := ite_t hc hf
      refine lv_iload_n hx hb dX3_besideAny_35 rfl (lv_at hl 2 rfl) ?_
      replace hf := Option.some.inj hf
      subst hf
      replace hM : v.1 = out := hM
      subst hM
      exact rt_i (u := ()) hx hb hr hlocks rfl hI hAe rfl dX3_besideAny_36
    · replace hf := ite_f hc hf
      refine lv_iload_n hx hb dX3_besideAny_12 rfl (lv_at hl 1 rfl) ?_
      refine lv_iload_n hx hb dX3_besideAny_13 rfl (lv_at hl 3 rfl) ?_
      obtain ⟨x1, hx1, hf⟩ := bd_e hf
      refine w_N (rest := []) hx hb hml hg hown hK (kX7_isIn l D cI cJ cZ l1 v.2 x1 hx1) ksX7_isIn (List.mem_of_getElem? (i := 3) rfl) ⟨Nat.le_of_ble_eq_true rfl, Nat.le_of_ble_eq_true rfl⟩ ⟨rfl, rfl⟩ rfl rfl hl.1 (Nat.le_of_ble_eq_true rfl) dX3_besideAny_14 ⟨Nat.zero_le _, Nat.zero_le _⟩ ?_
      refine lv_if_eq (tgt := 29) hx hb dX3_besideAny_17 (by decide) (fun hc => ?_) (fun hc => ?_)
      · replace hf := ite_t hc hf
        obtain ⟨x2, ex2⟩ : ∃ y : Int32, y = (v.2 + (1 : Int32)) := ⟨_, rfl⟩
        replace hf := bnd_e hf x2 ex2
        refine lv_iinc (v := x2) (lv' := [(3, .int x2), (0, .ref n0), (1, .int l1), (2, .int v.1)]) hx hb dX3_besideAny_29 hl (k := 3) rfl (by rw [ex2]; rfl) (by decide) rfl (fun ls hl => ?_)
        refine lv_goto (tgt := 4) hx hb dX3_besideAny_32 (by decide) ?_
        replace hf := Option.some.inj hf
        subst hf
        exact hM _ _ _ hI (lv_sub hl [1, 2, 3, 0] rfl)
      · replace hf := ite_f hc hf
        refine lv_iload_n hx hb dX3_besideAny_20 rfl (lv_at hl 2 rfl) ?_
        refine lv_aload_n hx hb dX3_besideAny_21 rfl (lv_at hl 0 rfl) ?_
        refine w_get hx hb hg hown hK hI iX3 0 rfl rfl 7 (by decide) wF_RX3_27 rfl dX3_besideAny_22 ?_
        refine lv_iload_n hx hb dX3_besideAny_25 rfl (lv_at hl 3 rfl) ?_
        obtain ⟨hin, hf⟩ := rd_e hf
        refine w_iald hx hb hK hI 6 rfl hin dX3_besideAny_26 (fun x3 ex3 => ?_)
        replace hf := hf x3 ex3
        refine lv_ior hx hb dX3_besideAny_27 ?_
        refine lv_topi (fun x4 ex4 => ?_)
        replace hf := bnd_e hf x4 ex4
        refine lv_istore_n (lv' := [(2, .int x4), (0, .ref n0), (1, .int l1), (3, .int v.2)]) hx hb dX3_besideAny_28 rfl hl (by decide) rfl (fun ls hl => ?_)
        obtain ⟨x5, ex5⟩ : ∃ y : Int32, y = (v.2 + (1 : Int32)) := ⟨_, rfl⟩
        replace hf := bnd_e hf x5 ex5
        refine lv_iinc (v := x5) (lv' := [(3, .int x5), (2, .int x4), (0, .ref n0), (1, .int l1)]) hx hb dX3_besideAny_29 hl (k := 3) rfl (by rw [ex5]; rfl) (by decide) rfl (fun ls hl => ?_)
        refine lv_goto (tgt := 4) hx hb dX3_besideAny_32 (by decide) ?_
        replace hf := Option.some.inj hf
        subst hf
        exact hM _ _ _ hI (lv_sub hl [2, 3, 1, 0] rfl)
  obtain ⟨x, hf, hM⟩ : ∃ x, FX3_besideAny N_roadCount N_beside a1 = some x ∧ x = out := ⟨out, hf, rfl⟩
  refine lv_iconst (v := 0) hx hb dX3_besideAny_0 (by decide) ?_
  refine lv_istore_n (lv' := [(2, .int (0 : Int32)), (0, .ref n0), (1, .int a1)]) hx hb dX3_besideAny_1 rfl hl (by decide) rfl (fun ls hl => ?_)
  refine lv_iconst (v := 0) hx hb dX3_besideAny_2 (by decide) ?_
  refine lv_istore_n (lv' := [(3, .int (0 : Int32)), (2, .int (0 : Int32)), (0, .ref n0), (1, .int a1)]) hx hb dX3_besideAny_3 rfl hl (by decide) rfl (fun ls hl => ?_)
  exact L4 a1 ((0 : Int32), (0 : Int32)) _ hf hM _ _ _ hI (lv_sub hl [2, 3, 1, 0] rfl)
noncomputable def X3_chainOf_L21 (N_roadCount : Int32) (N_beside : Nat → Int32) (l4 : Int32) (v : Int32 × Int32) : Option ((Int32 × Int32) ⊕ (Int32)) :=
  if (24 : Int32) ≤ v.2 then (some (.inr v.1)) else ((FX3_besideAny N_roadCount N_beside v.1).bind (fun o5 => bnd (v.1 ||| (o5 &&& l4)) (fun x6 => if x6 = v.1 then (some (.inr v.1)) else (bnd (v.2 + (1 : Int32)) (fun x7 => some (.inl (x6, x7)))))))
noncomputable def FX3_chainOf (N_roadCount : Int32) (N_number : Nat → Int32) (N_beside : Nat → Int32) (a1 : Int32) (a2 : Int32) (a3 : Int32) : Option (Int32) :=
  (FX3_roadsNumbered N_roadCount N_number a2).bind (fun o1 => (FX3_roadsNumbered N_roadCount N_number a3).bind (fun o2 => bnd (o1 ||| o2) (fun x3 => bnd ((1 : Int32) <<< (a1 &&& (31 : Int32))) (fun x4 => loopO (X3_chainOf_L21 N_roadCount N_beside x3) (x4, (0 : Int32))))))
abbrev GX3_chainOf (p : Program) (l : Launch) (e : Env) (s : State) (m : MethodId) (below : List Frame) (meth : Method) (c : Code) (D : va_G) (cI cJ cZ : ClassId) (n0 n1 n2 n3 n4 n5 n6 : Nat) (N_postCount : Int32) (N_roadCount : Int32) (N_first : Nat → Int32) (N_second : Nat → Int32) (N_number : Nat → Int32) (N_allowed : Nat → Int32) (N_at : Nat → Int32) (N_beside : Nat → Int32) (a1 : Int32) (a2 : Int32) (a3 : Int32) (out : Int32) (H : Heap) (locs : List Loc) (g : JFrame) : Prop := W p l e (headSpec (Cond.code yX3_chainOf cX3_chainOf 8 (some .int) :: GW) { frames := 2, cells := 0, slots := 0, locals := 44 }).room s m ([.ref n0, .int a1, .int a2, .int a3] : List Value).toArray below meth c H locs 0 0 (MQ below (va_Qi (fun r (_ : Unit) => r = out) (BW D (wN cI cJ cZ n0 n1 n2 n3 n4 n5 n6 N_postCount N_roadCount N_first N_second N_number N_allowed N_at N_beside) s.heap.size (fun _ => (wN cI cJ cZ n0 n1 n2 n3 n4 n5 n6 N_postCount N_roadCount N_first N_second N_number N_allowed N_at N_beside))) (va_A (wN cI cJ cZ n0 n1 n2 n3 n4 n5 n6 N_postCount N_roadCount N_first N_second N_number N_allowed N_at N_beside) s.heap.size)) ([.ref n0, .int a1, .int a2, .int a3] : List Value).toArray s 0 0 (va_A (wN cI cJ cZ n0 n1 n2 n3 n4 n5 n6 N_postCount N_roadCount N_first N_second N_number N_allowed N_at N_beside) s.heap.size)) g
theorem kvX3_chainOf : CalV RX3 yX3_chainOf cX3_chainOf 8 (some .int) 3 := ⟨wC_yX3_chainOf, wM_yX3_chainOf, wS_yX3_chainOf, wI_RX3, by decide +kernel⟩
set_option maxHeartbeats 4000000 in
set_option maxRecDepth 100000 in
theorem kX3_chainOf (l : Launch) (D : va_G) (cI cJ cZ : ClassId) (n0 n1 n2 n3 n4 n5 n6 : Nat) (N_postCount : Int32) (N_roadCount : Int32) (N_first : Nat → Int32) (N_second : Nat → Int32) (N_number : Nat → Int32) (N_allowed : Nat → Int32) (N_at : Nat → Int32) (N_beside : Nat → Int32) (a1 : Int32) (a2 : Int32) (a3 : Int32) (out : Int32) (hf : FX3_chainOf N_roadCount N_number N_beside a1 a2 a3 = some out) : MI l yX3_chainOf (Cond.code yX3_chainOf cX3_chainOf 8 (some .int) :: GW) { frames := 2, cells := 0, slots := 0, locals := 44 } D cI cJ cZ [.ref n0, .int a1, .int a2, .int a3] (wN cI cJ cZ n0 n1 n2 n3 n4 n5 n6 N_postCount N_roadCount N_first N_second N_number N_allowed N_at N_beside) (fun r (_ : Unit) => r = out) (fun _ => (wN cI cJ cZ n0 n1 n2 n3 n4 n5 n6 N_postCount N_roadCount N_first N_second N_number N_allowed N_at N_beside)) := by
  intro sz
  refine Met.ofW (cc := cX3_chainOf) (maxL := 8) (ret := (some .int)) (by decide +kernel) rfl ?_
  intro p e s m args below meth c s₁ B hml hv
  obtain ⟨rfl, hsz, hP, hK, hD0⟩ := hv
  have hx := B.exec
  have hb := B.bytes
  have hr := B.returns
  have hlocks := B.notSynchronized
  have hg : ∀ w ∈ GW, w.before _ s = true := fun w h => atoms_spec (ws := Cond.code yX3_chainOf cX3_chainOf 8 (some .int) :: GW) B.pre w (List.mem_cons_of_mem _ h)
  have hown : s.vm.findClass RX3 = some m.cls := findClass_of_methodNamed B.named
  subst hsz
  obtain ⟨A, hAe⟩ : ∃ A, A = va_A (wN cI cJ cZ n0 n1 n2 n3 n4 n5 n6 N_postCount N_roadCount N_first N_second N_number N_allowed N_at N_beside) s.heap.size := ⟨_, rfl⟩
  have hA : ∀ q : Nat, s.heap.size ≤ q → A q := fun q h => by rw [hAe]; exact Or.inr h
  have hI : WI D A s.heap (wN cI cJ cZ n0 n1 n2 n3 n4 n5 n6 N_postCount N_roadCount N_first N_second N_number N_allowed N_at N_beside) s.heap [] := ⟨hP, by rw [hAe]; exact hD0.self, va_S.rf⟩
  have hl := lv_entry [.ref n0, .int a1, .int a2, .int a3] (n := 8) (Nat.le_of_ble_eq_true rfl)
  rw [lg_entry_eq]
  generalize (lg_sl [.ref n0, .int a1, .int a2, .int a3] ++ List.replicate (8 - (lg_sl [.ref n0, .int a1, .int a2, .int a3]).length) Slot.unset).toArray = ls at hl ⊢
  replace hl : lv_has ls 8 [(0, .ref n0), (1, .int a1), (2, .int a2), (3, .int a3)] := hl
  have L21 : ∀ (l4 : Int32), ∀ (v : Int32 × Int32) (x : Int32), loopO (X3_chainOf_L21 N_roadCount N_beside l4) v = some x → (fun z : Int32 => z = out) x → (fun (v : Int32 × Int32) => ∀ (H : Heap) (locs : List Loc) (ls : Array Slot), WI D A s.heap (wN cI cJ cZ n0 n1 n2 n3 n4 n5 n6 N_postCount N_roadCount N_first N_second N_number N_allowed N_at N_beside) H locs → lv_has ls 8 [(0, .ref n0), (4, .int l4), (5, .int v.1), (6, .int v.2)] → GX3_chainOf p l e s m below meth c D cI cJ cZ n0 n1 n2 n3 n4 n5 n6 N_postCount N_roadCount N_first N_second N_number N_allowed N_at N_beside a1 a2 a3 out H locs (F0 m 21 ls [])) v := by
    intro l4
    refine loopO_ind (fun (v : Int32 × Int32) => ∀ (H : Heap) (locs : List Loc) (ls : Array Slot), WI D A s.heap (wN cI cJ cZ n0 n1 n2 n3 n4 n5 n6 N_postCount N_roadCount N_first N_second N_number N_allowed N_at N_beside) H locs → lv_has ls 8 [(0, .ref n0), (4, .int l4), (5, .int v.1), (6, .int v.2)] → GX3_chainOf p l e s m below meth c D cI cJ cZ n0 n1 n2 n3 n4 n5 n6 N_postCount N_roadCount N_first N_second N_number N_allowed N_at N_beside a1 a2 a3 out H locs (F0 m 21 ls [])) (fun z : Int32 => z = out) ?_
    intro v x hf hM H locs ls hI hl
    refine lv_iload hx hb dX3_chainOf_21 (lv_at hl 3 rfl) ?_
    refine lv_bipush (v := 24) hx hb dX3_chainOf_23 (by decide) ?_
    refine lv_icmp_ge (tgt := 62) hx hb dX3_chainOf_25 (by decide) (fun hc => ?_) (fun hc => ?_)
    · replace hf := ite_t hc hf
      refine lv_iload hx hb dX3_chainOf_62 (lv_at hl 2 rfl) ?_
      replace hf := Option.some.inj hf
      subst hf
      replace hM : v.1 = out := hM
      subst hM
      exact rt_i (u := ()) hx hb hr hlocks rfl hI hAe rfl dX3_chainOf_64
    · replace hf := ite_f hc hf
      refine lv_iload hx hb dX3_chainOf_28 (lv_at hl 2 rfl) ?_
      refine lv_aload_n hx hb dX3_chainOf_30 rfl (lv_at hl 0 rfl) ?_
      refine lv_iload hx hb dX3_chainOf_31 (lv_at hl 2 rfl) ?_
      obtain ⟨o5, ho5, hf⟩ := bd_e hf
      refine w_Vi0 (wc := (wN cI cJ cZ n0 n1 n2 n3 n4 n5 n6 N_postCount N_roadCount N_first N_second N_number N_allowed N_at N_beside)) (wr := []) (rest := [.int v.1]) hx hb hml hg hown hK hA hI (kX3_besideAny l D cI cJ cZ n0 n1 n2 n3 n4 n5 n6 N_postCount N_roadCount N_first N_second N_number N_allowed N_at N_beside v.1 o5 ho5) kvX3_besideAny wL_RX3_67 ⟨Nat.le_of_ble_eq_true rfl, Nat.le_of_ble_eq_true rfl⟩ rfl rfl [0, 1, 2, 3, 4, 5, 6] [] rfl rfl rfl rfl (by decide) rfl rfl hl.1 (Nat.le_of_ble_eq_true rfl) dX3_chainOf_33 ⟨Nat.zero_le _, Nat.zero_le _⟩ ⟨rfl, rfl⟩ (fun r u H locs hp hI => ?_)
      replace hp : r = o5 := hp
      rw [hp]
      clear hp
      replace hI : WI D A s.heap (wN cI cJ cZ n0 n1 n2 n3 n4 n5 n6 N_postCount N_roadCount N_first N_second N_number N_allowed N_at N_beside) H locs := hI
      refine lv_iload hx hb dX3_chainOf_36 (lv_at hl 1 rfl) ?_
      refine lv_iand hx hb dX3_chainOf_38 ?_
      refine lv_ior hx hb dX3_chainOf_39 ?_
      refine lv_topi (fun x6 ex6 => ?_)
      replace hf := bnd_e hf x6 ex6
      refine lv_istore (lv' := [(7, .int x6), (0, .ref n0), (4, .int l4), (5, .int v.1), (6, .int v.2)]) hx hb dX3_chainOf_40 hl (by decide) rfl (fun ls hl => ?_)
      refine lv_iload hx hb dX3_chainOf_42 (lv_at hl 0 rfl) ?_
      refine lv_iload hx hb dX3_chainOf_44 (lv_at hl 3 rfl) ?_
      refine lv_icmp_ne (tgt := 52) hx hb dX3_chainOf_46 (by decide) (fun hc => ?_) (fun hc => ?_)
      · replace hf := ite_f hc hf
        refine lv_iload hx hb dX3_chainOf_52 (lv_at hl 0 rfl) ?_
        refine lv_istore (lv' := [(5, .int x6), (7, .int x6), (0, .ref n0), (4, .int l4), (6, .int v.2)]) hx hb dX3_chainOf_54 hl (by decide) rfl (fun ls hl => ?_)
        obtain ⟨x7, ex7⟩ : ∃ y : Int32, y = (v.2 + (1 : Int32)) := ⟨_, rfl⟩
        replace hf := bnd_e hf x7 ex7
        refine lv_iinc (v := x7) (lv' := [(6, .int x7), (5, .int x6), (7, .int x6), (0, .ref n0), (4, .int l4)]) hx hb dX3_chainOf_56 hl (k := 4) rfl (by rw [ex7]; rfl) (by decide) rfl (fun ls hl => ?_)
        refine lv_goto (tgt := 21) hx hb dX3_chainOf_59 (by decide) ?_
        replace hf := Option.some.inj hf
        subst hf
        exact hM _ _ _ hI (lv_sub hl [3, 4, 1, 0] rfl)
      · replace hf := ite_t hc hf
        refine lv_goto (tgt := 62) hx hb dX3_chainOf_49 (by decide) ?_
        refine lv_iload hx hb dX3_chainOf_62 (lv_at hl 3 rfl) ?_
        replace hf := Option.some.inj hf
        subst hf
        replace hM : v.1 = out := hM
        subst hM
        exact rt_i (u := ()) hx hb hr hlocks rfl hI hAe rfl dX3_chainOf_64
  obtain ⟨x, hf, hM⟩ : ∃ x, FX3_chainOf N_roadCount N_number N_beside a1 a2 a3 = some x ∧ x = out := ⟨out, hf, rfl⟩
  refine lv_aload_n hx hb dX3_chainOf_0 rfl (lv_at hl 0 rfl) ?_
  refine lv_iload_n hx hb dX3_chainOf_1 rfl (lv_at hl 2 rfl) ?_
  obtain ⟨o1, ho1, hf⟩ := bd_e hf
  refine w_Vi0 (wc := (wN cI cJ cZ n0 n1 n2 n3 n4 n5 n6 N_postCount N_roadCount N_first N_second N_number N_allowed N_at N_beside)) (wr := []) (rest := []) hx hb hml hg hown hK hA hI (kX3_roadsNumbered l D cI cJ cZ n0 n1 n2 n3 n4 n5 n6 N_postCount N_roadCount N_first N_second N_number N_allowed N_at N_beside a2 o1 ho1) kvX3_roadsNumbered wL_RX3_64 ⟨Nat.le_of_ble_eq_true rfl, Nat.le_of_ble_eq_true rfl⟩ rfl rfl [0, 1, 2, 3, 4, 5, 6] [] rfl rfl rfl rfl (by decide) rfl rfl hl.1 (Nat.le_of_ble_eq_true rfl) dX3_chainOf_2 ⟨Nat.zero_le _, Nat.zero_le _⟩ ⟨rfl, rfl⟩ (fun r u H locs hp hI => ?_)
  replace hp : r = o1 := hp
  rw [hp]
  clear hp
  replace hI : WI D A s.heap (wN cI cJ cZ n0 n1 n2 n3 n4 n5 n6 N_postCount N_roadCount N_first N_second N_number N_allowed N_at N_beside) H locs := hI
  refine lv_aload_n hx hb dX3_chainOf_5 rfl (lv_at hl 0 rfl) ?_
  refine lv_iload_n hx hb dX3_chainOf_6 rfl (lv_at hl 3 rfl) ?_
  obtain ⟨o2, ho2, hf⟩ := bd_e hf
  refine w_Vi0 (wc := (wN cI cJ cZ n0 n1 n2 n3 n4 n5 n6 N_postCount N_roadCount N_first N_second N_number N_allowed N_at N_beside)) (wr := []) (rest := [.int o1]) hx hb hml hg hown hK hA hI (kX3_roadsNumbered l D cI cJ cZ n0 n1 n2 n3 n4 n5 n6 N_postCount N_roadCount N_first N_second N_number N_allowed N_at N_beside a3 o2 ho2) kvX3_roadsNumbered wL_RX3_64 ⟨Nat.le_of_ble_eq_true rfl, Nat.le_of_ble_eq_true rfl⟩ rfl rfl [0, 1, 2, 3, 4, 5, 6] [] rfl rfl rfl rfl (by decide) rfl rfl hl.1 (Nat.le_of_ble_eq_true rfl) dX3_chainOf_7 ⟨Nat.zero_le _, Nat.zero_le _⟩ ⟨rfl, rfl⟩ (fun r u H locs hp hI => ?_)
  replace hp : r = o2 := hp
  rw [hp]
  clear hp
  replace hI : WI D A s.heap (wN cI cJ cZ n0 n1 n2 n3 n4 n5 n6 N_postCount N_roadCount N_first N_second N_number N_allowed N_at N_beside) H locs := hI
  refine lv_ior hx hb dX3_chainOf_10 ?_
  refine lv_topi (fun x3 ex3 => ?_)
  replace hf := bnd_e hf x3 ex3
  refine lv_istore (lv' := [(4, .int x3), (0, .ref n0), (1, .int a1), (2, .int a2), (3, .int a3)]) hx hb dX3_chainOf_11 hl (by decide) rfl (fun ls hl => ?_)
  refine lv_iconst (v := 1) hx hb dX3_chainOf_13 (by decide) ?_
  refine lv_iload_n hx hb dX3_chainOf_14 rfl (lv_at hl 2 rfl) ?_
  refine lv_ishl hx hb dX3_chainOf_15 ?_
  refine lv_topi (fun x4 ex4 => ?_)
  replace hf := bnd_e hf x4 ex4
  refine lv_istore (lv' := [(5, .int x4), (4, .int x3), (0, .ref n0), (1, .int a1), (2, .int a2), (3, .int a3)]) hx hb dX3_chainOf_16 hl (by decide) rfl (fun ls hl => ?_)
  refine lv_iconst (v := 0) hx hb dX3_chainOf_18 (by decide) ?_
  refine lv_istore (lv' := [(6, .int (0 : Int32)), (5, .int x4), (4, .int x3), (0, .ref n0), (1, .int a1), (2, .int a2), (3, .int a3)]) hx hb dX3_chainOf_19 hl (by decide) rfl (fun ls hl => ?_)
  exact L21 x3 (x4, (0 : Int32)) _ hf hM _ _ _ hI (lv_sub hl [3, 2, 1, 0] rfl)
noncomputable def X3_exchange_J43 (N_roadCount : Int32) (N_number : Nat → Int32) (l1 : Int32) (l2 : Int32) (l3 : Int32) (l4 : Int32) (s1 : Int32) (s2 : Int32) : Option (((Nat → Int32) × Int32) ⊕ ((Nat → Int32))) :=
  wr N_number 24 s1 s2 (fun g4 => bnd (l4 + (1 : Int32)) (fun x5 => some (.inl (g4, x5))))
noncomputable def X3_exchange_L3 (N_roadCount : Int32) (l1 : Int32) (l2 : Int32) (l3 : Int32) (v : (Nat → Int32) × Int32) : Option (((Nat → Int32) × Int32) ⊕ ((Nat → Int32))) :=
  if N_roadCount ≤ v.2 then (some (.inr v.1)) else ((FX7_isIn l1 v.2).bind (fun x1 => if x1 = (0 : Int32) then (bnd (v.2 + (1 : Int32)) (fun x2 => some (.inl (v.1, x2)))) else (rd v.1 24 v.2 (fun x3 => if x3 = l2 then (X3_exchange_J43 N_roadCount v.1 l1 l2 l3 v.2 v.2 l3) else (X3_exchange_J43 N_roadCount v.1 l1 l2 l3 v.2 v.2 l2)))))
noncomputable def FX3_exchange (N_roadCount : Int32) (N_number_0 : Nat → Int32) (a1 : Int32) (a2 : Int32) (a3 : Int32) : Option ((Nat → Int32)) :=
  loopO (X3_exchange_L3 N_roadCount a1 a2 a3) (N_number_0, (0 : Int32))
abbrev GX3_exchange (p : Program) (l : Launch) (e : Env) (s : State) (m : MethodId) (below : List Frame) (meth : Method) (c : Code) (D : va_G) (cI cJ cZ : ClassId) (n0 n1 n2 n3 n4 n5 n6 : Nat) (N_postCount : Int32) (N_roadCount : Int32) (N_first : Nat → Int32) (N_second : Nat → Int32) (N_number_0 : Nat → Int32) (N_allowed : Nat → Int32) (N_at : Nat → Int32) (N_beside : Nat → Int32) (a1 : Int32) (a2 : Int32) (a3 : Int32) (out : (Nat → Int32)) (H : Heap) (locs : List Loc) (g : JFrame) : Prop := W p l e (headSpec (Cond.code yX3_exchange cX3_exchange 5 none :: GW) { frames := 1, cells := 0, slots := 0, locals := 21 }).room s m ([.ref n0, .int a1, .int a2, .int a3] : List Value).toArray below meth c H locs 0 0 (MQ below (va_Qv (fun (_ : Unit) => True) (BW D (wN cI cJ cZ n0 n1 n2 n3 n4 n5 n6 N_postCount N_roadCount N_first N_second N_number_0 N_allowed N_at N_beside) s.heap.size (fun _ => (wN cI cJ cZ n0 n1 n2 n3 n4 n5 n6 N_postCount N_roadCount N_first N_second out N_allowed N_at N_beside))) (va_A (wN cI cJ cZ n0 n1 n2 n3 n4 n5 n6 N_postCount N_roadCount N_first N_second N_number_0 N_allowed N_at N_beside) s.heap.size)) ([.ref n0, .int a1, .int a2, .int a3] : List Value).toArray s 0 0 (va_A (wN cI cJ cZ n0 n1 n2 n3 n4 n5 n6 N_postCount N_roadCount N_first N_second N_number_0 N_allowed N_at N_beside) s.heap.size)) g
theorem kvX3_exchange : CalV RX3 yX3_exchange cX3_exchange 5 none 3 := ⟨wC_yX3_exchange, wM_yX3_exchange, wS_yX3_exchange, wI_RX3, by decide +kernel⟩
set_option maxHeartbeats 4000000 in
set_option maxRecDepth 100000 in
theorem kX3_exchange (l : Launch) (D : va_G) (cI cJ cZ : ClassId) (n0 n1 n2 n3 n4 n5 n6 : Nat) (N_postCount : Int32) (N_roadCount : Int32) (N_first : Nat → Int32) (N_second : Nat → Int32) (N_number_0 : Nat → Int32) (N_allowed : Nat → Int32) (N_at : Nat → Int32) (N_beside : Nat → Int32) (a1 : Int32) (a2 : Int32) (a3 : Int32) (out : (Nat → Int32)) (hf : FX3_exchange N_roadCount N_number_0 a1 a2 a3 = some out) : MV l yX3_exchange (Cond.code yX3_exchange cX3_exchange 5 none :: GW) { frames := 1, cells := 0, slots := 0, locals := 21 } D cI cJ cZ [.ref n0, .int a1, .int a2, .int a3] (wN cI cJ cZ n0 n1 n2 n3 n4 n5 n6 N_postCount N_roadCount N_first N_second N_number_0 N_allowed N_at N_beside) (fun (_ : Unit) => True) (fun _ => (wN cI cJ cZ n0 n1 n2 n3 n4 n5 n6 N_postCount N_roadCount N_first N_second out N_allowed N_at N_beside)) := by
  intro sz
  refine Met.ofW (cc := cX3_exchange) (maxL := 5) (ret := none) (by decide +kernel) rfl ?_
  intro p e s m args below meth c s₁ B hml hv
  obtain ⟨rfl, hsz, hP, hK, hD0⟩ := hv
  have hx := B.exec
  have hb := B.bytes
  have hr := B.returns
  have hlocks := B.notSynchronized
  have hg : ∀ w ∈ GW, w.before _ s = true := fun w h => atoms_spec (ws := Cond.code yX3_exchange cX3_exchange 5 none :: GW) B.pre w (List.mem_cons_of_mem _ h)
  have hown : s.vm.findClass RX3 = some m.cls := findClass_of_methodNamed B.named
  subst hsz
  obtain ⟨A, hAe⟩ : ∃ A, A = va_A (wN cI cJ cZ n0 n1 n2 n3 n4 n5 n6 N_postCount N_roadCount N_first N_second N_number_0 N_allowed N_at N_beside) s.heap.size := ⟨_, rfl⟩
  have hA : ∀ q : Nat, s.heap.size ≤ q → A q := fun q h => by rw [hAe]; exact Or.inr h
  have hI : WI D A s.heap (wN cI cJ cZ n0 n1 n2 n3 n4 n5 n6 N_postCount N_roadCount N_first N_second N_number_0 N_allowed N_at N_beside) s.heap [] := ⟨hP, by rw [hAe]; exact hD0.self, va_S.rf⟩
  have hl := lv_entry [.ref n0, .int a1, .int a2, .int a3] (n := 5) (Nat.le_of_ble_eq_true rfl)
  rw [lg_entry_eq]
  generalize (lg_sl [.ref n0, .int a1, .int a2, .int a3] ++ List.replicate (5 - (lg_sl [.ref n0, .int a1, .int a2, .int a3]).length) Slot.unset).toArray = ls at hl ⊢
  replace hl : lv_has ls 5 [(0, .ref n0), (1, .int a1), (2, .int a2), (3, .int a3)] := hl
  have J43 : ∀ (N_number : Nat → Int32) (l1 : Int32) (l2 : Int32) (l3 : Int32) (l4 : Int32) (s1 : Int32) (s2 : Int32) (x : ((Nat → Int32) × Int32) ⊕ ((Nat → Int32))), X3_exchange_J43 N_roadCount N_number l1 l2 l3 l4 s1 s2 = some x → (fun z => Sum.elim (fun (v1 : (Nat → Int32) × Int32) => ∀ (H : Heap) (locs : List Loc) (ls : Array Slot), WI D A s.heap (wN cI cJ cZ n0 n1 n2 n3 n4 n5 n6 N_postCount N_roadCount N_first N_second v1.1 N_allowed N_at N_beside) H locs → lv_has ls 5 [(0, .ref n0), (1, .int l1), (2, .int l2), (3, .int l3), (4, .int v1.2)] → GX3_exchange p l e s m below meth c D cI cJ cZ n0 n1 n2 n3 n4 n5 n6 N_postCount N_roadCount N_first N_second N_number_0 N_allowed N_at N_beside a1 a2 a3 out H locs (F0 m 3 ls [])) (fun z : (Nat → Int32) => z = out) z) x → ∀ (H : Heap) (locs : List Loc) (ls : Array Slot), WI D A s.heap (wN cI cJ cZ n0 n1 n2 n3 n4 n5 n6 N_postCount N_roadCount N_first N_second N_number N_allowed N_at N_beside) H locs → lv_has ls 5 [(0, .ref n0), (1, .int l1), (2, .int l2), (3, .int l3), (4, .int l4)] → GX3_exchange p l e s m below meth c D cI cJ cZ n0 n1 n2 n3 n4 n5 n6 N_postCount N_roadCount N_first N_second N_number_0 N_allowed N_at N_beside a1 a2 a3 out H locs (F0 m 43 ls [.int s2, .int s1, .ref n3]) := by
    intro N_number l1 l2 l3 l4 s1 s2 x hf hM H locs ls hI hl
    obtain ⟨hin, hf⟩ := wr_e hf
    obtain ⟨g4, eg4⟩ : ∃ g : Nat → Int32, g = upd N_number (s1).toNatClampNeg s2 := ⟨_, rfl⟩
    replace hf := hf g4 eg4
    refine w_iast (g := g4) (W1 := (wN cI cJ cZ n0 n1 n2 n3 n4 n5 n6 N_postCount N_roadCount N_first N_second g4 N_allowed N_at N_beside)) hx hb hK hI 3 rfl hin eg4 dX3_exchange_43 rfl (fun H locs hI => ?_)
    obtain ⟨x5, ex5⟩ : ∃ y : Int32, y = (l4 + (1 : Int32)) := ⟨_, rfl⟩
    replace hf := bnd_e hf x5 ex5
    refine lv_iinc (v := x5) (lv' := [(4, .int x5), (0, .ref n0), (1, .int l1), (2, .int l2), (3, .int l3)]) hx hb dX3_exchange_44 hl (k := 4) rfl (by rw [ex5]; rfl) (by decide) rfl (fun ls hl => ?_)
    refine lv_goto (tgt := 3) hx hb dX3_exchange_47 (by decide) ?_
    replace hf := Option.some.inj hf
    subst hf
    exact hM _ _ _ hI (lv_sub hl [1, 2, 3, 4, 0] rfl)
  have L3 : ∀ (l1 : Int32) (l2 : Int32) (l3 : Int32), ∀ (v : (Nat → Int32) × Int32) (x : (Nat → Int32)), loopO (X3_exchange_L3 N_roadCount l1 l2 l3) v = some x → (fun z : (Nat → Int32) => z = out) x → (fun (v : (Nat → Int32) × Int32) => ∀ (H : Heap) (locs : List Loc) (ls : Array Slot), WI D A s.heap (wN cI cJ cZ n0 n1 n2 n3 n4 n5 n6 N_postCount N_roadCount N_first N_second v.1 N_allowed N_at N_beside) H locs → lv_has ls 5 [(0, .ref n0), (1, .int l1), (2, .int l2), (3, .int l3), (4, .int v.2)] → GX3_exchange p l e s m below meth c D cI cJ cZ n0 n1 n2 n3 n4 n5 n6 N_postCount N_roadCount N_first N_second N_number_0 N_allowed N_at N_beside a1 a2 a3 out H locs (F0 m 3 ls [])) v := by
    intro l1 l2 l3
    refine loopO_ind (fun (v : (Nat → Int32) × Int32) => ∀ (H : Heap) (locs : List Loc) (ls : Array Slot), WI D A s.heap (wN cI cJ cZ n0 n1 n2 n3 n4 n5 n6 N_postCount N_roadCount N_first N_second v.1 N_allowed N_at N_beside) H locs → lv_has ls 5 [(0, .ref n0), (1, .int l1), (2, .int l2), (3, .int l3), (4, .int v.2)] → GX3_exchange p l e s m below meth c D cI cJ cZ n0 n1 n2 n3 n4 n5 n6 N_postCount N_roadCount N_first N_second N_number_0 N_allowed N_at N_beside a1 a2 a3 out H locs (F0 m 3 ls [])) (fun z : (Nat → Int32) => z = out) ?_
    intro v x hf hM H locs ls hI hl
    refine lv_iload hx hb dX3_exchange_3 (lv_at hl 4 rfl) ?_
    refine lv_aload_n hx hb dX3_exchange_5 rfl (lv_at hl 0 rfl) ?_
    refine w_get hx hb hg hown hK hI iX3 0 rfl rfl 1 (by decide) wF_RX3_34 rfl dX3_exchange_6 ?_
    refine lv_icmp_ge (tgt := 50) hx hb dX3_exchange_9 (by decide) (fun hc => ?_) (fun hc => ?_)
    · replace hf := ite_t hc hf
      replace hf := Option.some.inj hf
      subst hf
      replace hM : v.1 = out := hM
      subst hM
      exact rt_v (u := ()) hx hb hr hlocks hI hAe trivial dX3_exchange_50
    · replace hf := ite_f hc hf
      refine lv_iload_n hx hb dX3_exchange_12 rfl (lv_at hl 1 rfl) ?_
      refine lv_iload hx hb dX3_exchange_13 (lv_at hl 4 rfl) ?_
      obtain ⟨x1, hx1, hf⟩ := bd_e hf
      refine w_N (rest := []) hx hb hml hg hown hK (kX7_isIn l D cI cJ cZ l1 v.2 x1 hx1) ksX7_isIn (List.mem_of_getElem? (i := 3) rfl) ⟨Nat.le_of_ble_eq_true rfl, Nat.le_of_ble_eq_true rfl⟩ ⟨rfl, rfl⟩ rfl rfl hl.1 (Nat.le_of_ble_eq_true rfl) dX3_exchange_15 ⟨Nat.zero_le _, Nat.zero_le _⟩ ?_
      refine lv_if_eq (tgt := 44) hx hb dX3_exchange_18 (by decide) (fun hc => ?_) (fun hc => ?_)
      · replace hf := ite_t hc hf
        obtain ⟨x2, ex2⟩ : ∃ y : Int32, y = (v.2 + (1 : Int32)) := ⟨_, rfl⟩
        replace hf := bnd_e hf x2 ex2
        refine lv_iinc (v := x2) (lv' := [(4, .int x2), (0, .ref n0), (1, .int l1), (2, .int l2), (3, .int l3)]) hx hb dX3_exchange_44 hl (k := 4) rfl (by rw [ex2]; rfl) (by decide) rfl (fun ls hl => ?_)
        refine lv_goto (tgt := 3) hx hb dX3_exchange_47 (by decide) ?_
        replace hf := Option.some.inj hf
        subst hf
        exact hM _ _ _ hI (lv_sub hl [1, 2, 3, 4, 0] rfl)
      · replace hf := ite_f hc hf
        refine lv_aload_n hx hb dX3_exchange_21 rfl (lv_at hl 0 rfl) ?_
        refine w_get hx hb hg hown hK hI iX3 0 rfl rfl 4 (by decide) wF_RX3_18 rfl dX3_exchange_22 ?_
        refine lv_iload hx hb dX3_exchange_25 (lv_at hl 4 rfl) ?_
        refine lv_aload_n hx hb dX3_exchange_27 rfl (lv_at hl 0 rfl) ?_
        refine w_get hx hb hg hown hK hI iX3 0 rfl rfl 4 (by decide) wF_RX3_18 rfl dX3_exchange_28 ?_
        refine lv_iload hx hb dX3_exchange_31 (lv_at hl 4 rfl) ?_
        obtain ⟨hin, hf⟩ := rd_e hf
        refine w_iald hx hb hK hI 3 rfl hin dX3_exchange_33 (fun x3 ex3 => ?_)
        replace hf := hf x3 ex3
        refine lv_iload_n hx hb dX3_exchange_34 rfl (lv_at hl 2 rfl) ?_
        refine lv_icmp_ne (tgt := 42) hx hb dX3_exchange_35 (by decide) (fun hc => ?_) (fun hc => ?_)
        · replace hf := ite_f hc hf
          refine lv_iload_n hx hb dX3_exchange_42 rfl (lv_at hl 2 rfl) ?_
          exact J43 v.1 l1 l2 l3 v.2 v.2 l2 _ hf hM _ _ _ hI (lv_sub hl [0, 1, 2, 3, 4] rfl)
        · replace hf := ite_t hc hf
          refine lv_iload_n hx hb dX3_exchange_38 rfl (lv_at hl 3 rfl) ?_
          refine lv_goto (tgt := 43) hx hb dX3_exchange_39 (by decide) ?_
          exact J43 v.1 l1 l2 l3 v.2 v.2 l3 _ hf hM _ _ _ hI (lv_sub hl [0, 1, 2, 3, 4] rfl)
  obtain ⟨x, hf, hM⟩ : ∃ x, FX3_exchange N_roadCount N_number_0 a1 a2 a3 = some x ∧ x = out := ⟨out, hf, rfl⟩
  refine lv_iconst (v := 0) hx hb dX3_exchange_0 (by decide) ?_
  refine lv_istore (lv' := [(4, .int (0 : Int32)), (0, .ref n0), (1, .int a1), (2, .int a2), (3, .int a3)]) hx hb dX3_exchange_1 hl (by decide) rfl (fun ls hl => ?_)
  exact L3 a1 a2 a3 (N_number_0, (0 : Int32)) _ hf hM _ _ _ hI (lv_sub hl [1, 2, 3, 4, 0] rfl)
noncomputable def X3_numbersAt_L4 (N_roadCount : Int32) (N_number : Nat → Int32) (N_at : Nat → Int32) (l1 : Int32) (v : Int32 × Int32) : Option ((Int32 × Int32) ⊕ (Int32)) :=
  if N_roadCount ≤ v.2 then (some (.inr v.1)) else (rd N_at 12 l1 (fun x1 => (FX7_isIn x1 v.2).bind (fun x2 => if x2 = (0 : Int32) then (bnd (v.2 + (1 : Int32)) (fun x3 => some (.inl (v.1, x3)))) else (rd N_number 24 v.2 (fun x4 => if x4 = (-1 : Int32) then (bnd (v.2 + (1 : Int32)) (fun x5 => some (.inl (v.1, x5)))) else (rd N_number 24 v.2 (fun x6 => bnd (v.1 ||| ((1 : Int32) <<< (x6 &&& (31 : Int32)))) (fun x7 => bnd (v.2 + (1 : Int32)) (fun x8 => some (.inl (x7, x8)))))))))))
noncomputable def FX3_numbersAt (N_roadCount : Int32) (N_number : Nat → Int32) (N_at : Nat → Int32) (a1 : Int32) : Option (Int32) :=
  loopO (X3_numbersAt_L4 N_roadCount N_number N_at a1) ((0 : Int32), (0 : Int32))
abbrev GX3_numbersAt (p : Program) (l : Launch) (e : Env) (s : State) (m : MethodId) (below : List Frame) (meth : Method) (c : Code) (D : va_G) (cI cJ cZ : ClassId) (n0 n1 n2 n3 n4 n5 n6 : Nat) (N_postCount : Int32) (N_roadCount : Int32) (N_first : Nat → Int32) (N_second : Nat → Int32) (N_number : Nat → Int32) (N_allowed : Nat → Int32) (N_at : Nat → Int32) (N_beside : Nat → Int32) (a1 : Int32) (out : Int32) (H : Heap) (locs : List Loc) (g : JFrame) : Prop := W p l e (headSpec (Cond.code yX3_numbersAt cX3_numbersAt 4 (some .int) :: GW) { frames := 1, cells := 0, slots := 0, locals := 21 }).room s m ([.ref n0, .int a1] : List Value).toArray below meth c H locs 0 0 (MQ below (va_Qi (fun r (_ : Unit) => r = out) (BW D (wN cI cJ cZ n0 n1 n2 n3 n4 n5 n6 N_postCount N_roadCount N_first N_second N_number N_allowed N_at N_beside) s.heap.size (fun _ => (wN cI cJ cZ n0 n1 n2 n3 n4 n5 n6 N_postCount N_roadCount N_first N_second N_number N_allowed N_at N_beside))) (va_A (wN cI cJ cZ n0 n1 n2 n3 n4 n5 n6 N_postCount N_roadCount N_first N_second N_number N_allowed N_at N_beside) s.heap.size)) ([.ref n0, .int a1] : List Value).toArray s 0 0 (va_A (wN cI cJ cZ n0 n1 n2 n3 n4 n5 n6 N_postCount N_roadCount N_first N_second N_number N_allowed N_at N_beside) s.heap.size)) g
theorem kvX3_numbersAt : CalV RX3 yX3_numbersAt cX3_numbersAt 4 (some .int) 1 := ⟨wC_yX3_numbersAt, wM_yX3_numbersAt, wS_yX3_numbersAt, wI_RX3, by decide +kernel⟩
set_option maxHeartbeats 4000000 in
set_option maxRecDepth 100000 in
theorem kX3_numbersAt (l : Launch) (D : va_G) (cI cJ cZ : ClassId) (n0 n1 n2 n3 n4 n5 n6 : Nat) (N_postCount : Int32) (N_roadCount : Int32) (N_first : Nat → Int32) (N_second : Nat → Int32) (N_number : Nat → Int32) (N_allowed : Nat → Int32) (N_at : Nat → Int32) (N_beside : Nat → Int32) (a1 : Int32) (out : Int32) (hf : FX3_numbersAt N_roadCount N_number N_at a1 = some out) : MI l yX3_numbersAt (Cond.code yX3_numbersAt cX3_numbersAt 4 (some .int) :: GW) { frames := 1, cells := 0, slots := 0, locals := 21 } D cI cJ cZ [.ref n0, .int a1] (wN cI cJ cZ n0 n1 n2 n3 n4 n5 n6 N_postCount N_roadCount N_first N_second N_number N_allowed N_at N_beside) (fun r (_ : Unit) => r = out) (fun _ => (wN cI cJ cZ n0 n1 n2 n3 n4 n5 n6 N_postCount N_roadCount N_first N_second N_number N_allowed N_at N_beside)) := by
  intro sz
  refine Met.ofW (cc := cX3_numbersAt) (maxL := 4) (ret := (some .int)) (by decide +kernel) rfl ?_
  intro p e s m args below meth c s₁ B hml hv
  obtain ⟨rfl, hsz, hP, hK, hD0⟩ := hv
  have hx := B.exec
  have hb := B.bytes
  have hr := B.returns
  have hlocks := B.notSynchronized
  have hg : ∀ w ∈ GW, w.before _ s = true := fun w h => atoms_spec (ws := Cond.code yX3_numbersAt cX3_numbersAt 4 (some .int) :: GW) B.pre w (List.mem_cons_of_mem _ h)
  have hown : s.vm.findClass RX3 = some m.cls := findClass_of_methodNamed B.named
  subst hsz
  obtain ⟨A, hAe⟩ : ∃ A, A = va_A (wN cI cJ cZ n0 n1 n2 n3 n4 n5 n6 N_postCount N_roadCount N_first N_second N_number N_allowed N_at N_beside) s.heap.size := ⟨_, rfl⟩
  have hA : ∀ q : Nat, s.heap.size ≤ q → A q := fun q h => by rw [hAe]; exact Or.inr h
  have hI : WI D A s.heap (wN cI cJ cZ n0 n1 n2 n3 n4 n5 n6 N_postCount N_roadCount N_first N_second N_number N_allowed N_at N_beside) s.heap [] := ⟨hP, by rw [hAe]; exact hD0.self, va_S.rf⟩
  have hl := lv_entry [.ref n0, .int a1] (n := 4) (Nat.le_of_ble_eq_true rfl)
  rw [lg_entry_eq]
  generalize (lg_sl [.ref n0, .int a1] ++ List.replicate (4 - (lg_sl [.ref n0, .int a1]).length) Slot.unset).toArray = ls at hl ⊢
  replace hl : lv_has ls 4 [(0, .ref n0), (1, .int a1)] := hl
  have L4 : ∀ (l1 : Int32), ∀ (v : Int32 × Int32) (x : Int32), loopO (X3_numbersAt_L4 N_roadCount N_number N_at l1) v = some x → (fun z : Int32 => z = out) x → (fun (v : Int32 × Int32) => ∀ (H : Heap) (locs : List Loc) (ls : Array Slot), WI D A s.heap (wN cI cJ cZ n0 n1 n2 n3 n4 n5 n6 N_postCount N_roadCount N_first N_second N_number N_allowed N_at N_beside) H locs → lv_has ls 4 [(0, .ref n0), (1, .int l1), (2, .int v.1), (3, .int v.2)] → GX3_numbersAt p l e s m below meth c D cI cJ cZ n0 n1 n2 n3 n4 n5 n6 N_postCount N_roadCount N_first N_second N_number N_allowed N_at N_beside a1 out H locs (F0 m 4 ls [])) v := by
    intro l1
    refine loopO_ind (fun (v : Int32 × Int32) => ∀ (H : Heap) (locs : List Loc) (ls : Array Slot), WI D A s.heap (wN cI cJ cZ n0 n1 n2 n3 n4 n5 n6 N_postCount N_roadCount N_first N_second N_number N_allowed N_at N_beside) H locs → lv_has ls 4 [(0, .ref n0), (1, .int l1), (2, .int v.1), (3, .int v.2)] → GX3_numbersAt p l e s m below meth c D cI cJ cZ n0 n1 n2 n3 n4 n5 n6 N_postCount N_roadCount N_first N_second N_number N_allowed N_at N_beside a1 out H locs (F0 m 4 ls [])) (fun z : Int32 => z = out) ?_
    intro v x hf hM H locs ls hI hl
    refine lv_iload_n hx hb dX3_numbersAt_4 rfl (lv_at hl 3 rfl) ?_
    refine lv_aload_n hx hb dX3_numbersAt_5 rfl (lv_at hl 0 rfl) ?_
    refine w_get hx hb hg hown hK hI iX3 0 rfl rfl 1 (by decide) wF_RX3_34 rfl dX3_numbersAt_6 ?_
    refine lv_icmp_ge (tgt := 52) hx hb dX3_numbersAt_9 (by decide) (fun hc => ?_) (fun hc => ?_)
    · replace hf := ite_t hc hf
      refine lv_iload_n hx hb dX3_numbersAt_52 rfl (lv_at hl 2 rfl) ?_
      replace hf := Option.some.inj hf
      subst hf
      replace hM : v.1 = out := hM
      subst hM
      exact rt_i (u := ()) hx hb hr hlocks rfl hI hAe rfl dX3_numbersAt_53
    · replace hf := ite_f hc hf
      refine lv_aload_n hx hb dX3_numbersAt_12 rfl (lv_at hl 0 rfl) ?_
      refine w_get hx hb hg hown hK hI iX3 0 rfl rfl 6 (by decide) wF_RX3_24 rfl dX3_numbersAt_13 ?_
      refine lv_iload_n hx hb dX3_numbersAt_16 rfl (lv_at hl 1 rfl) ?_
      obtain ⟨hin, hf⟩ := rd_e hf
      refine w_iald hx hb hK hI 5 rfl hin dX3_numbersAt_17 (fun x1 ex1 => ?_)
      replace hf := hf x1 ex1
      refine lv_iload_n hx hb dX3_numbersAt_18 rfl (lv_at hl 3 rfl) ?_
      obtain ⟨x2, hx2, hf⟩ := bd_e hf
      refine w_N (rest := []) hx hb hml hg hown hK (kX7_isIn l D cI cJ cZ x1 v.2 x2 hx2) ksX7_isIn (List.mem_of_getElem? (i := 3) rfl) ⟨Nat.le_of_ble_eq_true rfl, Nat.le_of_ble_eq_true rfl⟩ ⟨rfl, rfl⟩ rfl rfl hl.1 (Nat.le_of_ble_eq_true rfl) dX3_numbersAt_19 ⟨Nat.zero_le _, Nat.zero_le _⟩ ?_
      refine lv_if_eq (tgt := 46) hx hb dX3_numbersAt_22 (by decide) (fun hc => ?_) (fun hc => ?_)
      · replace hf := ite_t hc hf
        obtain ⟨x3, ex3⟩ : ∃ y : Int32, y = (v.2 + (1 : Int32)) := ⟨_, rfl⟩
        replace hf := bnd_e hf x3 ex3
        refine lv_iinc (v := x3) (lv' := [(3, .int x3), (0, .ref n0), (1, .int l1), (2, .int v.1)]) hx hb dX3_numbersAt_46 hl (k := 3) rfl (by rw [ex3]; rfl) (by decide) rfl (fun ls hl => ?_)
        refine lv_goto (tgt := 4) hx hb dX3_numbersAt_49 (by decide) ?_
        replace hf := Option.some.inj hf
        subst hf
        exact hM _ _ _ hI (lv_sub hl [1, 2, 3, 0] rfl)
      · replace hf := ite_f hc hf
        refine lv_aload_n hx hb dX3_numbersAt_25 rfl (lv_at hl 0 rfl) ?_
        refine w_get hx hb hg hown hK hI iX3 0 rfl rfl 4 (by decide) wF_RX3_18 rfl dX3_numbersAt_26 ?_
        refine lv_iload_n hx hb dX3_numbersAt_29 rfl (lv_at hl 3 rfl) ?_
        obtain ⟨hin, hf⟩ := rd_e hf
        refine w_iald hx hb hK hI 3 rfl hin dX3_numbersAt_30 (fun x4 ex4 => ?_)
        replace hf := hf x4 ex4
        refine lv_iconst (v := -1) hx hb dX3_numbersAt_31 (by decide) ?_
        refine lv_icmp_eq (tgt := 46) hx hb dX3_numbersAt_32 (by decide) (fun hc => ?_) (fun hc => ?_)
        · replace hf := ite_t hc hf
          obtain ⟨x5, ex5⟩ : ∃ y : Int32, y = (v.2 + (1 : Int32)) := ⟨_, rfl⟩
          replace hf := bnd_e hf x5 ex5
          refine lv_iinc (v := x5) (lv' := [(3, .int x5), (0, .ref n0), (1, .int l1), (2, .int v.1)]) hx hb dX3_numbersAt_46 hl (k := 3) rfl (by rw [ex5]; rfl) (by decide) rfl (fun ls hl => ?_)
          refine lv_goto (tgt := 4) hx hb dX3_numbersAt_49 (by decide) ?_
          replace hf := Option.some.inj hf
          subst hf
          exact hM _ _ _ hI (lv_sub hl [1, 2, 3, 0] rfl)
        · replace hf := ite_f hc hf
          refine lv_iload_n hx hb dX3_numbersAt_35 rfl (lv_at hl 2 rfl) ?_
          refine lv_iconst (v := 1) hx hb dX3_numbersAt_36 (by decide) ?_
          refine lv_aload_n hx hb dX3_numbersAt_37 rfl (lv_at hl 0 rfl) ?_
          refine w_get hx hb hg hown hK hI iX3 0 rfl rfl 4 (by decide) wF_RX3_18 rfl dX3_numbersAt_38 ?_
          refine lv_iload_n hx hb dX3_numbersAt_41 rfl (lv_at hl 3 rfl) ?_
          obtain ⟨hin, hf⟩ := rd_e hf
          refine w_iald hx hb hK hI 3 rfl hin dX3_numbersAt_42 (fun x6 ex6 => ?_)
          replace hf := hf x6 ex6
          refine lv_ishl hx hb dX3_numbersAt_43 ?_
          refine lv_ior hx hb dX3_numbersAt_44 ?_
          refine lv_topi (fun x7 ex7 => ?_)
          replace hf := bnd_e hf x7 ex7
          refine lv_istore_n (lv' := [(2, .int x7), (0, .ref n0), (1, .int l1), (3, .int v.2)]) hx hb dX3_numbersAt_45 rfl hl (by decide) rfl (fun ls hl => ?_)
          obtain ⟨x8, ex8⟩ : ∃ y : Int32, y = (v.2 + (1 : Int32)) := ⟨_, rfl⟩
          replace hf := bnd_e hf x8 ex8
          refine lv_iinc (v := x8) (lv' := [(3, .int x8), (2, .int x7), (0, .ref n0), (1, .int l1)]) hx hb dX3_numbersAt_46 hl (k := 3) rfl (by rw [ex8]; rfl) (by decide) rfl (fun ls hl => ?_)
          refine lv_goto (tgt := 4) hx hb dX3_numbersAt_49 (by decide) ?_
          replace hf := Option.some.inj hf
          subst hf
          exact hM _ _ _ hI (lv_sub hl [2, 3, 1, 0] rfl)
  obtain ⟨x, hf, hM⟩ : ∃ x, FX3_numbersAt N_roadCount N_number N_at a1 = some x ∧ x = out := ⟨out, hf, rfl⟩
  refine lv_iconst (v := 0) hx hb dX3_numbersAt_0 (by decide) ?_
  refine lv_istore_n (lv' := [(2, .int (0 : Int32)), (0, .ref n0), (1, .int a1)]) hx hb dX3_numbersAt_1 rfl hl (by decide) rfl (fun ls hl => ?_)
  refine lv_iconst (v := 0) hx hb dX3_numbersAt_2 (by decide) ?_
  refine lv_istore_n (lv' := [(3, .int (0 : Int32)), (2, .int (0 : Int32)), (0, .ref n0), (1, .int a1)]) hx hb dX3_numbersAt_3 rfl hl (by decide) rfl (fun ls hl => ?_)
  exact L4 a1 ((0 : Int32), (0 : Int32)) _ hf hM _ _ _ hI (lv_sub hl [2, 3, 1, 0] rfl)
noncomputable def FX3_leastFree (N_roadCount : Int32) (N_number : Nat → Int32) (N_at : Nat → Int32) (a1 : Int32) : Option (Int32) :=
  (FX3_numbersAt N_roadCount N_number N_at a1).bind (fun o1 => (FX7_leastOutside o1).bind (fun x2 => some x2))
abbrev GX3_leastFree (p : Program) (l : Launch) (e : Env) (s : State) (m : MethodId) (below : List Frame) (meth : Method) (c : Code) (D : va_G) (cI cJ cZ : ClassId) (n0 n1 n2 n3 n4 n5 n6 : Nat) (N_postCount : Int32) (N_roadCount : Int32) (N_first : Nat → Int32) (N_second : Nat → Int32) (N_number : Nat → Int32) (N_allowed : Nat → Int32) (N_at : Nat → Int32) (N_beside : Nat → Int32) (a1 : Int32) (out : Int32) (H : Heap) (locs : List Loc) (g : JFrame) : Prop := W p l e (headSpec (Cond.code yX3_leastFree cX3_leastFree 2 (some .int) :: GW) { frames := 2, cells := 0, slots := 0, locals := 44 }).room s m ([.ref n0, .int a1] : List Value).toArray below meth c H locs 0 0 (MQ below (va_Qi (fun r (_ : Unit) => r = out) (BW D (wN cI cJ cZ n0 n1 n2 n3 n4 n5 n6 N_postCount N_roadCount N_first N_second N_number N_allowed N_at N_beside) s.heap.size (fun _ => (wN cI cJ cZ n0 n1 n2 n3 n4 n5 n6 N_postCount N_roadCount N_first N_second N_number N_allowed N_at N_beside))) (va_A (wN cI cJ cZ n0 n1 n2 n3 n4 n5 n6 N_postCount N_roadCount N_first N_second N_number N_allowed N_at N_beside) s.heap.size)) ([.ref n0, .int a1] : List Value).toArray s 0 0 (va_A (wN cI cJ cZ n0 n1 n2 n3 n4 n5 n6 N_postCount N_roadCount N_first N_second N_number N_allowed N_at N_beside) s.heap.size)) g
theorem kvX3_leastFree : CalV RX3 yX3_leastFree cX3_leastFree 2 (some .int) 1 := ⟨wC_yX3_leastFree, wM_yX3_leastFree, wS_yX3_leastFree, wI_RX3, by decide +kernel⟩
set_option maxHeartbeats 4000000 in
set_option maxRecDepth 100000 in
theorem kX3_leastFree (l : Launch) (D : va_G) (cI cJ cZ : ClassId) (n0 n1 n2 n3 n4 n5 n6 : Nat) (N_postCount : Int32) (N_roadCount : Int32) (N_first : Nat → Int32) (N_second : Nat → Int32) (N_number : Nat → Int32) (N_allowed : Nat → Int32) (N_at : Nat → Int32) (N_beside : Nat → Int32) (a1 : Int32) (out : Int32) (hf : FX3_leastFree N_roadCount N_number N_at a1 = some out) : MI l yX3_leastFree (Cond.code yX3_leastFree cX3_leastFree 2 (some .int) :: GW) { frames := 2, cells := 0, slots := 0, locals := 44 } D cI cJ cZ [.ref n0, .int a1] (wN cI cJ cZ n0 n1 n2 n3 n4 n5 n6 N_postCount N_roadCount N_first N_second N_number N_allowed N_at N_beside) (fun r (_ : Unit) => r = out) (fun _ => (wN cI cJ cZ n0 n1 n2 n3 n4 n5 n6 N_postCount N_roadCount N_first N_second N_number N_allowed N_at N_beside)) := by
  intro sz
  refine Met.ofW (cc := cX3_leastFree) (maxL := 2) (ret := (some .int)) (by decide +kernel) rfl ?_
  intro p e s m args below meth c s₁ B hml hv
  obtain ⟨rfl, hsz, hP, hK, hD0⟩ := hv
  have hx := B.exec
  have hb := B.bytes
  have hr := B.returns
  have hlocks := B.notSynchronized
  have hg : ∀ w ∈ GW, w.before _ s = true := fun w h => atoms_spec (ws := Cond.code yX3_leastFree cX3_leastFree 2 (some .int) :: GW) B.pre w (List.mem_cons_of_mem _ h)
  have hown : s.vm.findClass RX3 = some m.cls := findClass_of_methodNamed B.named
  subst hsz
  obtain ⟨A, hAe⟩ : ∃ A, A = va_A (wN cI cJ cZ n0 n1 n2 n3 n4 n5 n6 N_postCount N_roadCount N_first N_second N_number N_allowed N_at N_beside) s.heap.size := ⟨_, rfl⟩
  have hA : ∀ q : Nat, s.heap.size ≤ q → A q := fun q h => by rw [hAe]; exact Or.inr h
  have hI : WI D A s.heap (wN cI cJ cZ n0 n1 n2 n3 n4 n5 n6 N_postCount N_roadCount N_first N_second N_number N_allowed N_at N_beside) s.heap [] := ⟨hP, by rw [hAe]; exact hD0.self, va_S.rf⟩
  have hl := lv_entry [.ref n0, .int a1] (n := 2) (Nat.le_of_ble_eq_true rfl)
  rw [lg_entry_eq]
  generalize (lg_sl [.ref n0, .int a1] ++ List.replicate (2 - (lg_sl [.ref n0, .int a1]).length) Slot.unset).toArray = ls at hl ⊢
  replace hl : lv_has ls 2 [(0, .ref n0), (1, .int a1)] := hl
  obtain ⟨x, hf, hM⟩ : ∃ x, FX3_leastFree N_roadCount N_number N_at a1 = some x ∧ x = out := ⟨out, hf, rfl⟩
  refine lv_aload_n hx hb dX3_leastFree_0 rfl (lv_at hl 0 rfl) ?_
  refine lv_iload_n hx hb dX3_leastFree_1 rfl (lv_at hl 1 rfl) ?_
  obtain ⟨o1, ho1, hf⟩ := bd_e hf
  refine w_Vi0 (wc := (wN cI cJ cZ n0 n1 n2 n3 n4 n5 n6 N_postCount N_roadCount N_first N_second N_number N_allowed N_at N_beside)) (wr := []) (rest := []) hx hb hml hg hown hK hA hI (kX3_numbersAt l D cI cJ cZ n0 n1 n2 n3 n4 n5 n6 N_postCount N_roadCount N_first N_second N_number N_allowed N_at N_beside a1 o1 ho1) kvX3_numbersAt wL_RX3_58 ⟨Nat.le_of_ble_eq_true rfl, Nat.le_of_ble_eq_true rfl⟩ rfl rfl [0, 1, 2, 3, 4, 5, 6] [] rfl rfl rfl rfl (by decide) rfl rfl hl.1 (Nat.le_of_ble_eq_true rfl) dX3_leastFree_2 ⟨Nat.zero_le _, Nat.zero_le _⟩ ⟨rfl, rfl⟩ (fun r u H locs hp hI => ?_)
  replace hp : r = o1 := hp
  rw [hp]
  clear hp
  replace hI : WI D A s.heap (wN cI cJ cZ n0 n1 n2 n3 n4 n5 n6 N_postCount N_roadCount N_first N_second N_number N_allowed N_at N_beside) H locs := hI
  obtain ⟨x2, hx2, hf⟩ := bd_e hf
  refine w_N (rest := []) hx hb hml hg hown hK (kX7_leastOutside l D cI cJ cZ o1 x2 hx2) ksX7_leastOutside (List.mem_of_getElem? (i := 4) rfl) ⟨Nat.le_of_ble_eq_true rfl, Nat.le_of_ble_eq_true rfl⟩ ⟨rfl, rfl⟩ rfl rfl hl.1 (Nat.le_of_ble_eq_true rfl) dX3_leastFree_5 ⟨Nat.zero_le _, Nat.zero_le _⟩ ?_
  replace hf := Option.some.inj hf
  subst hf
  replace hM : x2 = out := hM
  subst hM
  exact rt_i (u := ()) hx hb hr hlocks rfl hI hAe rfl dX3_leastFree_8
noncomputable def X3_roadWith_L2 (N_roadCount : Int32) (N_number : Nat → Int32) (N_at : Nat → Int32) (l1 : Int32) (l2 : Int32) (v : Int32) : Option ((Int32) ⊕ (Int32)) :=
  if N_roadCount ≤ v then (some (.inr (-1 : Int32))) else (rd N_at 12 l1 (fun x1 => (FX7_isIn x1 v).bind (fun x2 => if x2 = (0 : Int32) then (bnd (v + (1 : Int32)) (fun x3 => some (.inl x3))) else (rd N_number 24 v (fun x4 => if x4 = l2 then (some (.inr v)) else (bnd (v + (1 : Int32)) (fun x5 => some (.inl x5))))))))
noncomputable def FX3_roadWith (N_roadCount : Int32) (N_number : Nat → Int32) (N_at : Nat → Int32) (a1 : Int32) (a2 : Int32) : Option (Int32) :=
  loopO (X3_roadWith_L2 N_roadCount N_number N_at a1 a2) (0 : Int32)
abbrev GX3_roadWith (p : Program) (l : Launch) (e : Env) (s : State) (m : MethodId) (below : List Frame) (meth : Method) (c : Code) (D : va_G) (cI cJ cZ : ClassId) (n0 n1 n2 n3 n4 n5 n6 : Nat) (N_postCount : Int32) (N_roadCount : Int32) (N_first : Nat → Int32) (N_second : Nat → Int32) (N_number : Nat → Int32) (N_allowed : Nat → Int32) (N_at : Nat → Int32) (N_beside : Nat → Int32) (a1 : Int32) (a2 : Int32) (out : Int32) (H : Heap) (locs : List Loc) (g : JFrame) : Prop := W p l e (headSpec (Cond.code yX3_roadWith cX3_roadWith 4 (some .int) :: GW) { frames := 1, cells := 0, slots := 0, locals := 21 }).room s m ([.ref n0, .int a1, .int a2] : List Value).toArray below meth c H locs 0 0 (MQ below (va_Qi (fun r (_ : Unit) => r = out) (BW D (wN cI cJ cZ n0 n1 n2 n3 n4 n5 n6 N_postCount N_roadCount N_first N_second N_number N_allowed N_at N_beside) s.heap.size (fun _ => (wN cI cJ cZ n0 n1 n2 n3 n4 n5 n6 N_postCount N_roadCount N_first N_second N_number N_allowed N_at N_beside))) (va_A (wN cI cJ cZ n0 n1 n2 n3 n4 n5 n6 N_postCount N_roadCount N_first N_second N_number N_allowed N_at N_beside) s.heap.size)) ([.ref n0, .int a1, .int a2] : List Value).toArray s 0 0 (va_A (wN cI cJ cZ n0 n1 n2 n3 n4 n5 n6 N_postCount N_roadCount N_first N_second N_number N_allowed N_at N_beside) s.heap.size)) g
theorem kvX3_roadWith : CalV RX3 yX3_roadWith cX3_roadWith 4 (some .int) 2 := ⟨wC_yX3_roadWith, wM_yX3_roadWith, wS_yX3_roadWith, wI_RX3, by decide +kernel⟩
set_option maxHeartbeats 4000000 in
set_option maxRecDepth 100000 in
theorem kX3_roadWith (l : Launch) (D : va_G) (cI cJ cZ : ClassId) (n0 n1 n2 n3 n4 n5 n6 : Nat) (N_postCount : Int32) (N_roadCount : Int32) (N_first : Nat → Int32) (N_second : Nat → Int32) (N_number : Nat → Int32) (N_allowed : Nat → Int32) (N_at : Nat → Int32) (N_beside : Nat → Int32) (a1 : Int32) (a2 : Int32) (out : Int32) (hf : FX3_roadWith N_roadCount N_number N_at a1 a2 = some out) : MI l yX3_roadWith (Cond.code yX3_roadWith cX3_roadWith 4 (some .int) :: GW) { frames := 1, cells := 0, slots := 0, locals := 21 } D cI cJ cZ [.ref n0, .int a1, .int a2] (wN cI cJ cZ n0 n1 n2 n3 n4 n5 n6 N_postCount N_roadCount N_first N_second N_number N_allowed N_at N_beside) (fun r (_ : Unit) => r = out) (fun _ => (wN cI cJ cZ n0 n1 n2 n3 n4 n5 n6 N_postCount N_roadCount N_first N_second N_number N_allowed N_at N_beside)) := by
  intro sz
  refine Met.ofW (cc := cX3_roadWith) (maxL := 4) (ret := (some .int)) (by decide +kernel) rfl ?_
  intro p e s m args below meth c s₁ B hml hv
  obtain ⟨rfl, hsz, hP, hK, hD0⟩ := hv
  have hx := B.exec
  have hb := B.bytes
  have hr := B.returns
  have hlocks := B.notSynchronized
  have hg : ∀ w ∈ GW, w.before _ s = true := fun w h => atoms_spec (ws := Cond.code yX3_roadWith cX3_roadWith 4 (some .int) :: GW) B.pre w (List.mem_cons_of_mem _ h)
  have hown : s.vm.findClass RX3 = some m.cls := findClass_of_methodNamed B.named
  subst hsz
  obtain ⟨A, hAe⟩ : ∃ A, A = va_A (wN cI cJ cZ n0 n1 n2 n3 n4 n5 n6 N_postCount N_roadCount N_first N_second N_number N_allowed N_at N_beside) s.heap.size := ⟨_, rfl⟩
  have hA : ∀ q : Nat, s.heap.size ≤ q → A q := fun q h => by rw [hAe]; exact Or.inr h
  have hI : WI D A s.heap (wN cI cJ cZ n0 n1 n2 n3 n4 n5 n6 N_postCount N_roadCount N_first N_second N_number N_allowed N_at N_beside) s.heap [] := ⟨hP, by rw [hAe]; exact hD0.self, va_S.rf⟩
  have hl := lv_entry [.ref n0, .int a1, .int a2] (n := 4) (Nat.le_of_ble_eq_true rfl)
  rw [lg_entry_eq]
  generalize (lg_sl [.ref n0, .int a1, .int a2] ++ List.replicate (4 - (lg_sl [.ref n0, .int a1, .int a2]).length) Slot.unset).toArray = ls at hl ⊢
  replace hl : lv_has ls 4 [(0, .ref n0), (1, .int a1), (2, .int a2)] := hl
  have L2 : ∀ (l1 : Int32) (l2 : Int32), ∀ (v : Int32) (x : Int32), loopO (X3_roadWith_L2 N_roadCount N_number N_at l1 l2) v = some x → (fun z : Int32 => z = out) x → (fun (v : Int32) => ∀ (H : Heap) (locs : List Loc) (ls : Array Slot), WI D A s.heap (wN cI cJ cZ n0 n1 n2 n3 n4 n5 n6 N_postCount N_roadCount N_first N_second N_number N_allowed N_at N_beside) H locs → lv_has ls 4 [(0, .ref n0), (1, .int l1), (2, .int l2), (3, .int v)] → GX3_roadWith p l e s m below meth c D cI cJ cZ n0 n1 n2 n3 n4 n5 n6 N_postCount N_roadCount N_first N_second N_number N_allowed N_at N_beside a1 a2 out H locs (F0 m 2 ls [])) v := by
    intro l1 l2
    refine loopO_ind (fun (v : Int32) => ∀ (H : Heap) (locs : List Loc) (ls : Array Slot), WI D A s.heap (wN cI cJ cZ n0 n1 n2 n3 n4 n5 n6 N_postCount N_roadCount N_first N_second N_number N_allowed N_at N_beside) H locs → lv_has ls 4 [(0, .ref n0), (1, .int l1), (2, .int l2), (3, .int v)] → GX3_roadWith p l e s m below meth c D cI cJ cZ n0 n1 n2 n3 n4 n5 n6 N_postCount N_roadCount N_first N_second N_number N_allowed N_at N_beside a1 a2 out H locs (F0 m 2 ls [])) (fun z : Int32 => z = out) ?_
    intro v x hf hM H locs ls hI hl
    refine lv_iload_n hx hb dX3_roadWith_2 rfl (lv_at hl 3 rfl) ?_
    refine lv_aload_n hx hb dX3_roadWith_3 rfl (lv_at hl 0 rfl) ?_
    refine w_get hx hb hg hown hK hI iX3 0 rfl rfl 1 (by decide) wF_RX3_34 rfl dX3_roadWith_4 ?_
    refine lv_icmp_ge (tgt := 41) hx hb dX3_roadWith_7 (by decide) (fun hc => ?_) (fun hc => ?_)
    · replace hf := ite_t hc hf
      refine lv_iconst (v := -1) hx hb dX3_roadWith_41 (by decide) ?_
      replace hf := Option.some.inj hf
      subst hf
      replace hM : (-1 : Int32) = out := hM
      subst hM
      exact rt_i (u := ()) hx hb hr hlocks rfl hI hAe rfl dX3_roadWith_42
    · replace hf := ite_f hc hf
      refine lv_aload_n hx hb dX3_roadWith_10 rfl (lv_at hl 0 rfl) ?_
      refine w_get hx hb hg hown hK hI iX3 0 rfl rfl 6 (by decide) wF_RX3_24 rfl dX3_roadWith_11 ?_
      refine lv_iload_n hx hb dX3_roadWith_14 rfl (lv_at hl 1 rfl) ?_
      obtain ⟨hin, hf⟩ := rd_e hf
      refine w_iald hx hb hK hI 5 rfl hin dX3_roadWith_15 (fun x1 ex1 => ?_)
      replace hf := hf x1 ex1
      refine lv_iload_n hx hb dX3_roadWith_16 rfl (lv_at hl 3 rfl) ?_
      obtain ⟨x2, hx2, hf⟩ := bd_e hf
      refine w_N (rest := []) hx hb hml hg hown hK (kX7_isIn l D cI cJ cZ x1 v x2 hx2) ksX7_isIn (List.mem_of_getElem? (i := 3) rfl) ⟨Nat.le_of_ble_eq_true rfl, Nat.le_of_ble_eq_true rfl⟩ ⟨rfl, rfl⟩ rfl rfl hl.1 (Nat.le_of_ble_eq_true rfl) dX3_roadWith_17 ⟨Nat.zero_le _, Nat.zero_le _⟩ ?_
      refine lv_if_eq (tgt := 35) hx hb dX3_roadWith_20 (by decide) (fun hc => ?_) (fun hc => ?_)
      · replace hf := ite_t hc hf
        obtain ⟨x3, ex3⟩ : ∃ y : Int32, y = (v + (1 : Int32)) := ⟨_, rfl⟩
        replace hf := bnd_e hf x3 ex3
        refine lv_iinc (v := x3) (lv' := [(3, .int x3), (0, .ref n0), (1, .int l1), (2, .int l2)]) hx hb dX3_roadWith_35 hl (k := 3) rfl (by rw [ex3]; rfl) (by decide) rfl (fun ls hl => ?_)
        refine lv_goto (tgt := 2) hx hb dX3_roadWith_38 (by decide) ?_
        replace hf := Option.some.inj hf
        subst hf
        exact hM _ _ _ hI (lv_sub hl [1, 2, 3, 0] rfl)
      · replace hf := ite_f hc hf
        refine lv_aload_n hx hb dX3_roadWith_23 rfl (lv_at hl 0 rfl) ?_
        refine w_get hx hb hg hown hK hI iX3 0 rfl rfl 4 (by decide) wF_RX3_18 rfl dX3_roadWith_24 ?_
        refine lv_iload_n hx hb dX3_roadWith_27 rfl (lv_at hl 3 rfl) ?_
        obtain ⟨hin, hf⟩ := rd_e hf
        refine w_iald hx hb hK hI 3 rfl hin dX3_roadWith_28 (fun x4 ex4 => ?_)
        replace hf := hf x4 ex4
        refine lv_iload_n hx hb dX3_roadWith_29 rfl (lv_at hl 2 rfl) ?_
        refine lv_icmp_ne (tgt := 35) hx hb dX3_roadWith_30 (by decide) (fun hc => ?_) (fun hc => ?_)
        · replace hf := ite_f hc hf
          obtain ⟨x5, ex5⟩ : ∃ y : Int32, y = (v + (1 : Int32)) := ⟨_, rfl⟩
          replace hf := bnd_e hf x5 ex5
          refine lv_iinc (v := x5) (lv' := [(3, .int x5), (0, .ref n0), (1, .int l1), (2, .int l2)]) hx hb dX3_roadWith_35 hl (k := 3) rfl (by rw [ex5]; rfl) (by decide) rfl (fun ls hl => ?_)
          refine lv_goto (tgt := 2) hx hb dX3_roadWith_38 (by decide) ?_
          replace hf := Option.some.inj hf
          subst hf
          exact hM _ _ _ hI (lv_sub hl [1, 2, 3, 0] rfl)
        · replace hf := ite_t hc hf
          refine lv_iload_n hx hb dX3_roadWith_33 rfl (lv_at hl 3 rfl) ?_
          replace hf := Option.some.inj hf
          subst hf
          replace hM : v = out := hM
          subst hM
          exact rt_i (u := ()) hx hb hr hlocks rfl hI hAe rfl dX3_roadWith_34
  obtain ⟨x, hf, hM⟩ : ∃ x, FX3_roadWith N_roadCount N_number N_at a1 a2 = some x ∧ x = out := ⟨out, hf, rfl⟩
  refine lv_iconst (v := 0) hx hb dX3_roadWith_0 (by decide) ?_
  refine lv_istore_n (lv' := [(3, .int (0 : Int32)), (0, .ref n0), (1, .int a1), (2, .int a2)]) hx hb dX3_roadWith_1 rfl hl (by decide) rfl (fun ls hl => ?_)
  exact L2 a1 a2 (0 : Int32) _ hf hM _ _ _ hI (lv_sub hl [1, 2, 3, 0] rfl)
noncomputable def FX3_allPosts (N_postCount : Int32)  : Option (Int32) :=
  some (((1 : Int32) <<< (N_postCount &&& (31 : Int32))) - (1 : Int32))
abbrev GX3_allPosts (p : Program) (l : Launch) (e : Env) (s : State) (m : MethodId) (below : List Frame) (meth : Method) (c : Code) (D : va_G) (cI cJ cZ : ClassId) (n0 n1 n2 n3 n4 n5 n6 : Nat) (N_postCount : Int32) (N_roadCount : Int32) (N_first : Nat → Int32) (N_second : Nat → Int32) (N_number : Nat → Int32) (N_allowed : Nat → Int32) (N_at : Nat → Int32) (N_beside : Nat → Int32)  (out : Int32) (H : Heap) (locs : List Loc) (g : JFrame) : Prop := W p l e (headSpec (Cond.code yX3_allPosts cX3_allPosts 1 (some .int) :: GW) { frames := 0, cells := 0, slots := 0, locals := 0 }).room s m ([.ref n0] : List Value).toArray below meth c H locs 0 0 (MQ below (va_Qi (fun r (_ : Unit) => r = out) (BW D (wN cI cJ cZ n0 n1 n2 n3 n4 n5 n6 N_postCount N_roadCount N_first N_second N_number N_allowed N_at N_beside) s.heap.size (fun _ => (wN cI cJ cZ n0 n1 n2 n3 n4 n5 n6 N_postCount N_roadCount N_first N_second N_number N_allowed N_at N_beside))) (va_A (wN cI cJ cZ n0 n1 n2 n3 n4 n5 n6 N_postCount N_roadCount N_first N_second N_number N_allowed N_at N_beside) s.heap.size)) ([.ref n0] : List Value).toArray s 0 0 (va_A (wN cI cJ cZ n0 n1 n2 n3 n4 n5 n6 N_postCount N_roadCount N_first N_second N_number N_allowed N_at N_beside) s.heap.size)) g
theorem kvX3_allPosts : CalV RX3 yX3_allPosts cX3_allPosts 1 (some .int) 0 := ⟨wC_yX3_allPosts, wM_yX3_allPosts, wS_yX3_allPosts, wI_RX3, by decide +kernel⟩
set_option maxHeartbeats 4000000 in
set_option maxRecDepth 100000 in
theorem kX3_allPosts (l : Launch) (D : va_G) (cI cJ cZ : ClassId) (n0 n1 n2 n3 n4 n5 n6 : Nat) (N_postCount : Int32) (N_roadCount : Int32) (N_first : Nat → Int32) (N_second : Nat → Int32) (N_number : Nat → Int32) (N_allowed : Nat → Int32) (N_at : Nat → Int32) (N_beside : Nat → Int32)  (out : Int32) (hf : FX3_allPosts N_postCount = some out) : MI l yX3_allPosts (Cond.code yX3_allPosts cX3_allPosts 1 (some .int) :: GW) { frames := 0, cells := 0, slots := 0, locals := 0 } D cI cJ cZ [.ref n0] (wN cI cJ cZ n0 n1 n2 n3 n4 n5 n6 N_postCount N_roadCount N_first N_second N_number N_allowed N_at N_beside) (fun r (_ : Unit) => r = out) (fun _ => (wN cI cJ cZ n0 n1 n2 n3 n4 n5 n6 N_postCount N_roadCount N_first N_second N_number N_allowed N_at N_beside)) := by
  intro sz
  refine Met.ofW (cc := cX3_allPosts) (maxL := 1) (ret := (some .int)) (by decide +kernel) rfl ?_
  intro p e s m args below meth c s₁ B hml hv
  obtain ⟨rfl, hsz, hP, hK, hD0⟩ := hv
  have hx := B.exec
  have hb := B.bytes
  have hr := B.returns
  have hlocks := B.notSynchronized
  have hg : ∀ w ∈ GW, w.before _ s = true := fun w h => atoms_spec (ws := Cond.code yX3_allPosts cX3_allPosts 1 (some .int) :: GW) B.pre w (List.mem_cons_of_mem _ h)
  have hown : s.vm.findClass RX3 = some m.cls := findClass_of_methodNamed B.named
  subst hsz
  obtain ⟨A, hAe⟩ : ∃ A, A = va_A (wN cI cJ cZ n0 n1 n2 n3 n4 n5 n6 N_postCount N_roadCount N_first N_second N_number N_allowed N_at N_beside) s.heap.size := ⟨_, rfl⟩
  have hA : ∀ q : Nat, s.heap.size ≤ q → A q := fun q h => by rw [hAe]; exact Or.inr h
  have hI : WI D A s.heap (wN cI cJ cZ n0 n1 n2 n3 n4 n5 n6 N_postCount N_roadCount N_first N_second N_number N_allowed N_at N_beside) s.heap [] := ⟨hP, by rw [hAe]; exact hD0.self, va_S.rf⟩
  have hl := lv_entry [.ref n0] (n := 1) (Nat.le_of_ble_eq_true rfl)
  rw [lg_entry_eq]
  generalize (lg_sl [.ref n0] ++ List.replicate (1 - (lg_sl [.ref n0]).length) Slot.unset).toArray = ls at hl ⊢
  replace hl : lv_has ls 1 [(0, .ref n0)] := hl
  obtain ⟨x, hf, hM⟩ : ∃ x, FX3_allPosts N_postCount = some x ∧ x = out := ⟨out, hf, rfl⟩
  refine lv_iconst (v := 1) hx hb dX3_allPosts_0 (by decide) ?_
  refine lv_aload_n hx hb dX3_allPosts_1 rfl (lv_at hl 0 rfl) ?_
  refine w_get hx hb hg hown hK hI iX3 0 rfl rfl 0 (by decide) wF_RX3_30 rfl dX3_allPosts_2 ?_
  refine lv_ishl hx hb dX3_allPosts_5 ?_
  refine lv_iconst (v := 1) hx hb dX3_allPosts_6 (by decide) ?_
  refine lv_isub hx hb dX3_allPosts_7 ?_
  replace hf := Option.some.inj hf
  subst hf
  replace hM : (((1 : Int32) <<< (N_postCount &&& (31 : Int32))) - (1 : Int32)) = out := hM
  subst hM
  exact rt_i (u := ()) hx hb hr hlocks rfl hI hAe rfl dX3_allPosts_8
noncomputable def FX3_hasPost (N_postCount : Int32) (a1 : Int32) : Option (Int32) :=
  if a1 < (0 : Int32) then (some (0 : Int32)) else (if N_postCount ≤ a1 then (some (0 : Int32)) else (some (1 : Int32)))
abbrev GX3_hasPost (p : Program) (l : Launch) (e : Env) (s : State) (m : MethodId) (below : List Frame) (meth : Method) (c : Code) (D : va_G) (cI cJ cZ : ClassId) (n0 n1 n2 n3 n4 n5 n6 : Nat) (N_postCount : Int32) (N_roadCount : Int32) (N_first : Nat → Int32) (N_second : Nat → Int32) (N_number : Nat → Int32) (N_allowed : Nat → Int32) (N_at : Nat → Int32) (N_beside : Nat → Int32) (a1 : Int32) (out : Int32) (H : Heap) (locs : List Loc) (g : JFrame) : Prop := W p l e (headSpec (Cond.code yX3_hasPost cX3_hasPost 2 (some .boolean) :: GW) { frames := 0, cells := 0, slots := 0, locals := 0 }).room s m ([.ref n0, .int a1] : List Value).toArray below meth c H locs 0 0 (MQ below (va_Qi (fun r (_ : Unit) => r = out) (BW D (wN cI cJ cZ n0 n1 n2 n3 n4 n5 n6 N_postCount N_roadCount N_first N_second N_number N_allowed N_at N_beside) s.heap.size (fun _ => (wN cI cJ cZ n0 n1 n2 n3 n4 n5 n6 N_postCount N_roadCount N_first N_second N_number N_allowed N_at N_beside))) (va_A (wN cI cJ cZ n0 n1 n2 n3 n4 n5 n6 N_postCount N_roadCount N_first N_second N_number N_allowed N_at N_beside) s.heap.size)) ([.ref n0, .int a1] : List Value).toArray s 0 0 (va_A (wN cI cJ cZ n0 n1 n2 n3 n4 n5 n6 N_postCount N_roadCount N_first N_second N_number N_allowed N_at N_beside) s.heap.size)) g
theorem kvX3_hasPost : CalV RX3 yX3_hasPost cX3_hasPost 2 (some .boolean) 1 := ⟨wC_yX3_hasPost, wM_yX3_hasPost, wS_yX3_hasPost, wI_RX3, by decide +kernel⟩
set_option maxHeartbeats 4000000 in
set_option maxRecDepth 100000 in
theorem kX3_hasPost (l : Launch) (D : va_G) (cI cJ cZ : ClassId) (n0 n1 n2 n3 n4 n5 n6 : Nat) (N_postCount : Int32) (N_roadCount : Int32) (N_first : Nat → Int32) (N_second : Nat → Int32) (N_number : Nat → Int32) (N_allowed : Nat → Int32) (N_at : Nat → Int32) (N_beside : Nat → Int32) (a1 : Int32) (out : Int32) (hf : FX3_hasPost N_postCount a1 = some out) : MI l yX3_hasPost (Cond.code yX3_hasPost cX3_hasPost 2 (some .boolean) :: GW) { frames := 0, cells := 0, slots := 0, locals := 0 } D cI cJ cZ [.ref n0, .int a1] (wN cI cJ cZ n0 n1 n2 n3 n4 n5 n6 N_postCount N_roadCount N_first N_second N_number N_allowed N_at N_beside) (fun r (_ : Unit) => r = out) (fun _ => (wN cI cJ cZ n0 n1 n2 n3 n4 n5 n6 N_postCount N_roadCount N_first N_second N_number N_allowed N_at N_beside)) := by
  intro sz
  refine Met.ofW (cc := cX3_hasPost) (maxL := 2) (ret := (some .boolean)) (by decide +kernel) rfl ?_
  intro p e s m args below meth c s₁ B hml hv
  obtain ⟨rfl, hsz, hP, hK, hD0⟩ := hv
  have hx := B.exec
  have hb := B.bytes
  have hr := B.returns
  have hlocks := B.notSynchronized
  have hg : ∀ w ∈ GW, w.before _ s = true := fun w h => atoms_spec (ws := Cond.code yX3_hasPost cX3_hasPost 2 (some .boolean) :: GW) B.pre w (List.mem_cons_of_mem _ h)
  have hown : s.vm.findClass RX3 = some m.cls := findClass_of_methodNamed B.named
  subst hsz
  obtain ⟨A, hAe⟩ : ∃ A, A = va_A (wN cI cJ cZ n0 n1 n2 n3 n4 n5 n6 N_postCount N_roadCount N_first N_second N_number N_allowed N_at N_beside) s.heap.size := ⟨_, rfl⟩
  have hA : ∀ q : Nat, s.heap.size ≤ q → A q := fun q h => by rw [hAe]; exact Or.inr h
  have hI : WI D A s.heap (wN cI cJ cZ n0 n1 n2 n3 n4 n5 n6 N_postCount N_roadCount N_first N_second N_number N_allowed N_at N_beside) s.heap [] := ⟨hP, by rw [hAe]; exact hD0.self, va_S.rf⟩
  have hl := lv_entry [.ref n0, .int a1] (n := 2) (Nat.le_of_ble_eq_true rfl)
  rw [lg_entry_eq]
  generalize (lg_sl [.ref n0, .int a1] ++ List.replicate (2 - (lg_sl [.ref n0, .int a1]).length) Slot.unset).toArray = ls at hl ⊢
  replace hl : lv_has ls 2 [(0, .ref n0), (1, .int a1)] := hl
  obtain ⟨x, hf, hM⟩ : ∃ x, FX3_hasPost N_postCount a1 = some x ∧ x = out := ⟨out, hf, rfl⟩
  refine lv_iload_n hx hb dX3_hasPost_0 rfl (lv_at hl 1 rfl) ?_
  refine lv_if_lt (tgt := 16) hx hb dX3_hasPost_1 (by decide) (fun hc => ?_) (fun hc => ?_)
  · replace hf := ite_t hc hf
    refine lv_iconst (v := 0) hx hb dX3_hasPost_16 (by decide) ?_
    replace hf := Option.some.inj hf
    subst hf
    replace hM : (0 : Int32) = out := hM
    subst hM
    exact rt_i (u := ()) hx hb hr hlocks (by decide) hI hAe rfl dX3_hasPost_17
  · replace hf := ite_f hc hf
    refine lv_iload_n hx hb dX3_hasPost_4 rfl (lv_at hl 1 rfl) ?_
    refine lv_aload_n hx hb dX3_hasPost_5 rfl (lv_at hl 0 rfl) ?_
    refine w_get hx hb hg hown hK hI iX3 0 rfl rfl 0 (by decide) wF_RX3_30 rfl dX3_hasPost_6 ?_
    refine lv_icmp_ge (tgt := 16) hx hb dX3_hasPost_9 (by decide) (fun hc => ?_) (fun hc => ?_)
    · replace hf := ite_t hc hf
      refine lv_iconst (v := 0) hx hb dX3_hasPost_16 (by decide) ?_
      replace hf := Option.some.inj hf
      subst hf
      replace hM : (0 : Int32) = out := hM
      subst hM
      exact rt_i (u := ()) hx hb hr hlocks (by decide) hI hAe rfl dX3_hasPost_17
    · replace hf := ite_f hc hf
      refine lv_iconst (v := 1) hx hb dX3_hasPost_12 (by decide) ?_
      refine lv_goto (tgt := 17) hx hb dX3_hasPost_13 (by decide) ?_
      replace hf := Option.some.inj hf
      subst hf
      replace hM : (1 : Int32) = out := hM
      subst hM
      exact rt_i (u := ()) hx hb hr hlocks (by decide) hI hAe rfl dX3_hasPost_17
noncomputable def FX3_hasRoad (N_roadCount : Int32) (a1 : Int32) : Option (Int32) :=
  if a1 < (0 : Int32) then (some (0 : Int32)) else (if N_roadCount ≤ a1 then (some (0 : Int32)) else (some (1 : Int32)))
abbrev GX3_hasRoad (p : Program) (l : Launch) (e : Env) (s : State) (m : MethodId) (below : List Frame) (meth : Method) (c : Code) (D : va_G) (cI cJ cZ : ClassId) (n0 n1 n2 n3 n4 n5 n6 : Nat) (N_postCount : Int32) (N_roadCount : Int32) (N_first : Nat → Int32) (N_second : Nat → Int32) (N_number : Nat → Int32) (N_allowed : Nat → Int32) (N_at : Nat → Int32) (N_beside : Nat → Int32) (a1 : Int32) (out : Int32) (H : Heap) (locs : List Loc) (g : JFrame) : Prop := W p l e (headSpec (Cond.code yX3_hasRoad cX3_hasRoad 2 (some .boolean) :: GW) { frames := 0, cells := 0, slots := 0, locals := 0 }).room s m ([.ref n0, .int a1] : List Value).toArray below meth c H locs 0 0 (MQ below (va_Qi (fun r (_ : Unit) => r = out) (BW D (wN cI cJ cZ n0 n1 n2 n3 n4 n5 n6 N_postCount N_roadCount N_first N_second N_number N_allowed N_at N_beside) s.heap.size (fun _ => (wN cI cJ cZ n0 n1 n2 n3 n4 n5 n6 N_postCount N_roadCount N_first N_second N_number N_allowed N_at N_beside))) (va_A (wN cI cJ cZ n0 n1 n2 n3 n4 n5 n6 N_postCount N_roadCount N_first N_second N_number N_allowed N_at N_beside) s.heap.size)) ([.ref n0, .int a1] : List Value).toArray s 0 0 (va_A (wN cI cJ cZ n0 n1 n2 n3 n4 n5 n6 N_postCount N_roadCount N_first N_second N_number N_allowed N_at N_beside) s.heap.size)) g
theorem kvX3_hasRoad : CalV RX3 yX3_hasRoad cX3_hasRoad 2 (some .boolean) 1 := ⟨wC_yX3_hasRoad, wM_yX3_hasRoad, wS_yX3_hasRoad, wI_RX3, by decide +kernel⟩
set_option maxHeartbeats 4000000 in
set_option maxRecDepth 100000 in
theorem kX3_hasRoad (l : Launch) (D : va_G) (cI cJ cZ : ClassId) (n0 n1 n2 n3 n4 n5 n6 : Nat) (N_postCount : Int32) (N_roadCount : Int32) (N_first : Nat → Int32) (N_second : Nat → Int32) (N_number : Nat → Int32) (N_allowed : Nat → Int32) (N_at : Nat → Int32) (N_beside : Nat → Int32) (a1 : Int32) (out : Int32) (hf : FX3_hasRoad N_roadCount a1 = some out) : MI l yX3_hasRoad (Cond.code yX3_hasRoad cX3_hasRoad 2 (some .boolean) :: GW) { frames := 0, cells := 0, slots := 0, locals := 0 } D cI cJ cZ [.ref n0, .int a1] (wN cI cJ cZ n0 n1 n2 n3 n4 n5 n6 N_postCount N_roadCount N_first N_second N_number N_allowed N_at N_beside) (fun r (_ : Unit) => r = out) (fun _ => (wN cI cJ cZ n0 n1 n2 n3 n4 n5 n6 N_postCount N_roadCount N_first N_second N_number N_allowed N_at N_beside)) := by
  intro sz
  refine Met.ofW (cc := cX3_hasRoad) (maxL := 2) (ret := (some .boolean)) (by decide +kernel) rfl ?_
  intro p e s m args below meth c s₁ B hml hv
  obtain ⟨rfl, hsz, hP, hK, hD0⟩ := hv
  have hx := B.exec
  have hb := B.bytes
  have hr := B.returns
  have hlocks := B.notSynchronized
  have hg : ∀ w ∈ GW, w.before _ s = true := fun w h => atoms_spec (ws := Cond.code yX3_hasRoad cX3_hasRoad 2 (some .boolean) :: GW) B.pre w (List.mem_cons_of_mem _ h)
  have hown : s.vm.findClass RX3 = some m.cls := findClass_of_methodNamed B.named
  subst hsz
  obtain ⟨A, hAe⟩ : ∃ A, A = va_A (wN cI cJ cZ n0 n1 n2 n3 n4 n5 n6 N_postCount N_roadCount N_first N_second N_number N_allowed N_at N_beside) s.heap.size := ⟨_, rfl⟩
  have hA : ∀ q : Nat, s.heap.size ≤ q → A q := fun q h => by rw [hAe]; exact Or.inr h
  have hI : WI D A s.heap (wN cI cJ cZ n0 n1 n2 n3 n4 n5 n6 N_postCount N_roadCount N_first N_second N_number N_allowed N_at N_beside) s.heap [] := ⟨hP, by rw [hAe]; exact hD0.self, va_S.rf⟩
  have hl := lv_entry [.ref n0, .int a1] (n := 2) (Nat.le_of_ble_eq_true rfl)
  rw [lg_entry_eq]
  generalize (lg_sl [.ref n0, .int a1] ++ List.replicate (2 - (lg_sl [.ref n0, .int a1]).length) Slot.unset).toArray = ls at hl ⊢
  replace hl : lv_has ls 2 [(0, .ref n0), (1, .int a1)] := hl
  obtain ⟨x, hf, hM⟩ : ∃ x, FX3_hasRoad N_roadCount a1 = some x ∧ x = out := ⟨out, hf, rfl⟩
  refine lv_iload_n hx hb dX3_hasRoad_0 rfl (lv_at hl 1 rfl) ?_
  refine lv_if_lt (tgt := 16) hx hb dX3_hasRoad_1 (by decide) (fun hc => ?_) (fun hc => ?_)
  · replace hf := ite_t hc hf
    refine lv_iconst (v := 0) hx hb dX3_hasRoad_16 (by decide) ?_
    replace hf := Option.some.inj hf
    subst hf
    replace hM : (0 : Int32) = out := hM
    subst hM
    exact rt_i (u := ()) hx hb hr hlocks (by decide) hI hAe rfl dX3_hasRoad_17
  · replace hf := ite_f hc hf
    refine lv_iload_n hx hb dX3_hasRoad_4 rfl (lv_at hl 1 rfl) ?_
    refine lv_aload_n hx hb dX3_hasRoad_5 rfl (lv_at hl 0 rfl) ?_
    refine w_get hx hb hg hown hK hI iX3 0 rfl rfl 1 (by decide) wF_RX3_34 rfl dX3_hasRoad_6 ?_
    refine lv_icmp_ge (tgt := 16) hx hb dX3_hasRoad_9 (by decide) (fun hc => ?_) (fun hc => ?_)
    · replace hf := ite_t hc hf
      refine lv_iconst (v := 0) hx hb dX3_hasRoad_16 (by decide) ?_
      replace hf := Option.some.inj hf
      subst hf
      replace hM : (0 : Int32) = out := hM
      subst hM
      exact rt_i (u := ()) hx hb hr hlocks (by decide) hI hAe rfl dX3_hasRoad_17
    · replace hf := ite_f hc hf
      refine lv_iconst (v := 1) hx hb dX3_hasRoad_12 (by decide) ?_
      refine lv_goto (tgt := 17) hx hb dX3_hasRoad_13 (by decide) ?_
      replace hf := Option.some.inj hf
      subst hf
      replace hM : (1 : Int32) = out := hM
      subst hM
      exact rt_i (u := ()) hx hb hr hlocks (by decide) hI hAe rfl dX3_hasRoad_17
noncomputable def FX3_allRoads (N_roadCount : Int32)  : Option (Int32) :=
  some (((1 : Int32) <<< (N_roadCount &&& (31 : Int32))) - (1 : Int32))
abbrev GX3_allRoads (p : Program) (l : Launch) (e : Env) (s : State) (m : MethodId) (below : List Frame) (meth : Method) (c : Code) (D : va_G) (cI cJ cZ : ClassId) (n0 n1 n2 n3 n4 n5 n6 : Nat) (N_postCount : Int32) (N_roadCount : Int32) (N_first : Nat → Int32) (N_second : Nat → Int32) (N_number : Nat → Int32) (N_allowed : Nat → Int32) (N_at : Nat → Int32) (N_beside : Nat → Int32)  (out : Int32) (H : Heap) (locs : List Loc) (g : JFrame) : Prop := W p l e (headSpec (Cond.code yX3_allRoads cX3_allRoads 1 (some .int) :: GW) { frames := 0, cells := 0, slots := 0, locals := 0 }).room s m ([.ref n0] : List Value).toArray below meth c H locs 0 0 (MQ below (va_Qi (fun r (_ : Unit) => r = out) (BW D (wN cI cJ cZ n0 n1 n2 n3 n4 n5 n6 N_postCount N_roadCount N_first N_second N_number N_allowed N_at N_beside) s.heap.size (fun _ => (wN cI cJ cZ n0 n1 n2 n3 n4 n5 n6 N_postCount N_roadCount N_first N_second N_number N_allowed N_at N_beside))) (va_A (wN cI cJ cZ n0 n1 n2 n3 n4 n5 n6 N_postCount N_roadCount N_first N_second N_number N_allowed N_at N_beside) s.heap.size)) ([.ref n0] : List Value).toArray s 0 0 (va_A (wN cI cJ cZ n0 n1 n2 n3 n4 n5 n6 N_postCount N_roadCount N_first N_second N_number N_allowed N_at N_beside) s.heap.size)) g
theorem kvX3_allRoads : CalV RX3 yX3_allRoads cX3_allRoads 1 (some .int) 0 := ⟨wC_yX3_allRoads, wM_yX3_allRoads, wS_yX3_allRoads, wI_RX3, by decide +kernel⟩
set_option maxHeartbeats 4000000 in
set_option maxRecDepth 100000 in
theorem kX3_allRoads (l : Launch) (D : va_G) (cI cJ cZ : ClassId) (n0 n1 n2 n3 n4 n5 n6 : Nat) (N_postCount : Int32) (N_roadCount : Int32) (N_first : Nat → Int32) (N_second : Nat → Int32) (N_number : Nat → Int32) (N_allowed : Nat → Int32) (N_at : Nat → Int32) (N_beside : Nat → Int32)  (out : Int32) (hf : FX3_allRoads N_roadCount = some out) : MI l yX3_allRoads (Cond.code yX3_allRoads cX3_allRoads 1 (some .int) :: GW) { frames := 0, cells := 0, slots := 0, locals := 0 } D cI cJ cZ [.ref n0] (wN cI cJ cZ n0 n1 n2 n3 n4 n5 n6 N_postCount N_roadCount N_first N_second N_number N_allowed N_at N_beside) (fun r (_ : Unit) => r = out) (fun _ => (wN cI cJ cZ n0 n1 n2 n3 n4 n5 n6 N_postCount N_roadCount N_first N_second N_number N_allowed N_at N_beside)) := by
  intro sz
  refine Met.ofW (cc := cX3_allRoads) (maxL := 1) (ret := (some .int)) (by decide +kernel) rfl ?_
  intro p e s m args below meth c s₁ B hml hv
  obtain ⟨rfl, hsz, hP, hK, hD0⟩ := hv
  have hx := B.exec
  have hb := B.bytes
  have hr := B.returns
  have hlocks := B.notSynchronized
  have hg : ∀ w ∈ GW, w.before _ s = true := fun w h => atoms_spec (ws := Cond.code yX3_allRoads cX3_allRoads 1 (some .int) :: GW) B.pre w (List.mem_cons_of_mem _ h)
  have hown : s.vm.findClass RX3 = some m.cls := findClass_of_methodNamed B.named
  subst hsz
  obtain ⟨A, hAe⟩ : ∃ A, A = va_A (wN cI cJ cZ n0 n1 n2 n3 n4 n5 n6 N_postCount N_roadCount N_first N_second N_number N_allowed N_at N_beside) s.heap.size := ⟨_, rfl⟩
  have hA : ∀ q : Nat, s.heap.size ≤ q → A q := fun q h => by rw [hAe]; exact Or.inr h
  have hI : WI D A s.heap (wN cI cJ cZ n0 n1 n2 n3 n4 n5 n6 N_postCount N_roadCount N_first N_second N_number N_allowed N_at N_beside) s.heap [] := ⟨hP, by rw [hAe]; exact hD0.self, va_S.rf⟩
  have hl := lv_entry [.ref n0] (n := 1) (Nat.le_of_ble_eq_true rfl)
  rw [lg_entry_eq]
  generalize (lg_sl [.ref n0] ++ List.replicate (1 - (lg_sl [.ref n0]).length) Slot.unset).toArray = ls at hl ⊢
  replace hl : lv_has ls 1 [(0, .ref n0)] := hl
  obtain ⟨x, hf, hM⟩ : ∃ x, FX3_allRoads N_roadCount = some x ∧ x = out := ⟨out, hf, rfl⟩
  refine lv_iconst (v := 1) hx hb dX3_allRoads_0 (by decide) ?_
  refine lv_aload_n hx hb dX3_allRoads_1 rfl (lv_at hl 0 rfl) ?_
  refine w_get hx hb hg hown hK hI iX3 0 rfl rfl 1 (by decide) wF_RX3_34 rfl dX3_allRoads_2 ?_
  refine lv_ishl hx hb dX3_allRoads_5 ?_
  refine lv_iconst (v := 1) hx hb dX3_allRoads_6 (by decide) ?_
  refine lv_isub hx hb dX3_allRoads_7 ?_
  replace hf := Option.some.inj hf
  subst hf
  replace hM : (((1 : Int32) <<< (N_roadCount &&& (31 : Int32))) - (1 : Int32)) = out := hM
  subst hM
  exact rt_i (u := ()) hx hb hr hlocks rfl hI hAe rfl dX3_allRoads_8
noncomputable def FX3_addPost (N_postCount_0 : Int32) (N_at_0 : Nat → Int32)  : Option (Int32 × Int32 × (Nat → Int32)) :=
  wr N_at_0 12 N_postCount_0 (0 : Int32) (fun g1 => bnd (N_postCount_0 + (1 : Int32)) (fun x2 => some ((x2 - (1 : Int32)), x2, g1)))
abbrev GX3_addPost (p : Program) (l : Launch) (e : Env) (s : State) (m : MethodId) (below : List Frame) (meth : Method) (c : Code) (D : va_G) (cI cJ cZ : ClassId) (n0 n1 n2 n3 n4 n5 n6 : Nat) (N_postCount_0 : Int32) (N_roadCount : Int32) (N_first : Nat → Int32) (N_second : Nat → Int32) (N_number : Nat → Int32) (N_allowed : Nat → Int32) (N_at_0 : Nat → Int32) (N_beside : Nat → Int32)  (out : Int32 × Int32 × (Nat → Int32)) (H : Heap) (locs : List Loc) (g : JFrame) : Prop := W p l e (headSpec (Cond.code yX3_addPost cX3_addPost 1 (some .int) :: GW) { frames := 0, cells := 0, slots := 0, locals := 0 }).room s m ([.ref n0] : List Value).toArray below meth c H locs 0 0 (MQ below (va_Qi (fun r (_ : Unit) => r = out.1) (BW D (wN cI cJ cZ n0 n1 n2 n3 n4 n5 n6 N_postCount_0 N_roadCount N_first N_second N_number N_allowed N_at_0 N_beside) s.heap.size (fun _ => (wN cI cJ cZ n0 n1 n2 n3 n4 n5 n6 out.2.1 N_roadCount N_first N_second N_number N_allowed out.2.2 N_beside))) (va_A (wN cI cJ cZ n0 n1 n2 n3 n4 n5 n6 N_postCount_0 N_roadCount N_first N_second N_number N_allowed N_at_0 N_beside) s.heap.size)) ([.ref n0] : List Value).toArray s 0 0 (va_A (wN cI cJ cZ n0 n1 n2 n3 n4 n5 n6 N_postCount_0 N_roadCount N_first N_second N_number N_allowed N_at_0 N_beside) s.heap.size)) g
theorem kvX3_addPost : CalV RX3 yX3_addPost cX3_addPost 1 (some .int) 0 := ⟨wC_yX3_addPost, wM_yX3_addPost, wS_yX3_addPost, wI_RX3, by decide +kernel⟩
set_option maxHeartbeats 4000000 in
set_option maxRecDepth 100000 in
theorem kX3_addPost (l : Launch) (D : va_G) (cI cJ cZ : ClassId) (n0 n1 n2 n3 n4 n5 n6 : Nat) (N_postCount_0 : Int32) (N_roadCount : Int32) (N_first : Nat → Int32) (N_second : Nat → Int32) (N_number : Nat → Int32) (N_allowed : Nat → Int32) (N_at_0 : Nat → Int32) (N_beside : Nat → Int32)  (out : Int32 × Int32 × (Nat → Int32)) (hf : FX3_addPost N_postCount_0 N_at_0 = some out) : MI l yX3_addPost (Cond.code yX3_addPost cX3_addPost 1 (some .int) :: GW) { frames := 0, cells := 0, slots := 0, locals := 0 } D cI cJ cZ [.ref n0] (wN cI cJ cZ n0 n1 n2 n3 n4 n5 n6 N_postCount_0 N_roadCount N_first N_second N_number N_allowed N_at_0 N_beside) (fun r (_ : Unit) => r = out.1) (fun _ => (wN cI cJ cZ n0 n1 n2 n3 n4 n5 n6 out.2.1 N_roadCount N_first N_second N_number N_allowed out.2.2 N_beside)) := by
  intro sz
  refine Met.ofW (cc := cX3_addPost) (maxL := 1) (ret := (some .int)) (by decide +kernel) rfl ?_
  intro p e s m args below meth c s₁ B hml hv
  obtain ⟨rfl, hsz, hP, hK, hD0⟩ := hv
  have hx := B.exec
  have hb := B.bytes
  have hr := B.returns
  have hlocks := B.notSynchronized
  have hg : ∀ w ∈ GW, w.before _ s = true := fun w h => atoms_spec (ws := Cond.code yX3_addPost cX3_addPost 1 (some .int) :: GW) B.pre w (List.mem_cons_of_mem _ h)
  have hown : s.vm.findClass RX3 = some m.cls := findClass_of_methodNamed B.named
  subst hsz
  obtain ⟨A, hAe⟩ : ∃ A, A = va_A (wN cI cJ cZ n0 n1 n2 n3 n4 n5 n6 N_postCount_0 N_roadCount N_first N_second N_number N_allowed N_at_0 N_beside) s.heap.size := ⟨_, rfl⟩
  have hA : ∀ q : Nat, s.heap.size ≤ q → A q := fun q h => by rw [hAe]; exact Or.inr h
  have hI : WI D A s.heap (wN cI cJ cZ n0 n1 n2 n3 n4 n5 n6 N_postCount_0 N_roadCount N_first N_second N_number N_allowed N_at_0 N_beside) s.heap [] := ⟨hP, by rw [hAe]; exact hD0.self, va_S.rf⟩
  have hl := lv_entry [.ref n0] (n := 1) (Nat.le_of_ble_eq_true rfl)
  rw [lg_entry_eq]
  generalize (lg_sl [.ref n0] ++ List.replicate (1 - (lg_sl [.ref n0]).length) Slot.unset).toArray = ls at hl ⊢
  replace hl : lv_has ls 1 [(0, .ref n0)] := hl
  obtain ⟨x, hf, hM⟩ : ∃ x, FX3_addPost N_postCount_0 N_at_0 = some x ∧ x = out := ⟨out, hf, rfl⟩
  refine lv_aload_n hx hb dX3_addPost_0 rfl (lv_at hl 0 rfl) ?_
  refine w_get hx hb hg hown hK hI iX3 0 rfl rfl 6 (by decide) wF_RX3_24 rfl dX3_addPost_1 ?_
  refine lv_aload_n hx hb dX3_addPost_4 rfl (lv_at hl 0 rfl) ?_
  refine w_get hx hb hg hown hK hI iX3 0 rfl rfl 0 (by decide) wF_RX3_30 rfl dX3_addPost_5 ?_
  refine lv_iconst (v := 0) hx hb dX3_addPost_8 (by decide) ?_
  obtain ⟨hin, hf⟩ := wr_e hf
  obtain ⟨g1, eg1⟩ : ∃ g : Nat → Int32, g = upd N_at_0 (N_postCount_0).toNatClampNeg (0 : Int32) := ⟨_, rfl⟩
  replace hf := hf g1 eg1
  refine w_iast (g := g1) (W1 := (wN cI cJ cZ n0 n1 n2 n3 n4 n5 n6 N_postCount_0 N_roadCount N_first N_second N_number N_allowed g1 N_beside)) hx hb hK hI 5 rfl hin eg1 dX3_addPost_9 rfl (fun H locs hI => ?_)
  refine lv_aload_n hx hb dX3_addPost_10 rfl (lv_at hl 0 rfl) ?_
  refine lv_dup hx hb dX3_addPost_11 rfl ?_
  refine w_get hx hb hg hown hK hI iX3 0 rfl rfl 0 (by decide) wF_RX3_30 rfl dX3_addPost_12 ?_
  refine lv_iconst (v := 1) hx hb dX3_addPost_15 (by decide) ?_
  refine lv_iadd hx hb dX3_addPost_16 ?_
  refine lv_topi (fun x2 ex2 => ?_)
  replace hf := bnd_e hf x2 ex2
  refine w_put (W1 := (wN cI cJ cZ n0 n1 n2 n3 n4 n5 n6 x2 N_roadCount N_first N_second N_number N_allowed g1 N_beside)) hx hb hg hown hK hI iX3 tyX3 tyX3_ok nmX3 0 rfl rfl 0 (by decide) wF_RX3_30 rfl (tyX3_ok 0 (by decide)) rfl rfl (Nat.le_of_ble_eq_true rfl) dX3_addPost_17 rfl (fun H locs hI => ?_)
  refine lv_aload_n hx hb dX3_addPost_20 rfl (lv_at hl 0 rfl) ?_
  refine w_get hx hb hg hown hK hI iX3 0 rfl rfl 0 (by decide) wF_RX3_30 rfl dX3_addPost_21 ?_
  refine lv_iconst (v := 1) hx hb dX3_addPost_24 (by decide) ?_
  refine lv_isub hx hb dX3_addPost_25 ?_
  replace hf := Option.some.inj hf
  subst hf
  replace hM : ((x2 - (1 : Int32)), x2, g1) = out := hM
  subst hM
  exact rt_i (u := ()) hx hb hr hlocks rfl hI hAe rfl dX3_addPost_26
noncomputable def X3_addRoad_J95 (N_roadCount : Int32) (N_first : Nat → Int32) (N_second : Nat → Int32) (N_number : Nat → Int32) (N_allowed : Nat → Int32) (N_at : Nat → Int32) (N_beside : Nat → Int32) (l1 : Int32) (l2 : Int32) (l3 : Int32) : Option (Int32 × Int32 × (Nat → Int32) × (Nat → Int32) × (Nat → Int32) × (Nat → Int32) × (Nat → Int32) × (Nat → Int32)) :=
  rd N_at 12 l1 (fun x8 => wr N_at 12 l1 (x8 ||| ((1 : Int32) <<< (l3 &&& (31 : Int32)))) (fun g9 => rd g9 12 l2 (fun x10 => wr g9 12 l2 (x10 ||| ((1 : Int32) <<< (l3 &&& (31 : Int32)))) (fun g11 => bnd (N_roadCount + (1 : Int32)) (fun x12 => some (l3, x12, N_first, N_second, N_number, N_allowed, g11, N_beside))))))
noncomputable def X3_addRoad_L56 (N_roadCount : Int32) (N_first : Nat → Int32) (N_second : Nat → Int32) (N_number : Nat → Int32) (N_allowed : Nat → Int32) (N_at : Nat → Int32) (l1 : Int32) (l2 : Int32) (l3 : Int32) (v : (Nat → Int32) × Int32) : Option (((Nat → Int32) × Int32) ⊕ (Int32 × Int32 × (Nat → Int32) × (Nat → Int32) × (Nat → Int32) × (Nat → Int32) × (Nat → Int32) × (Nat → Int32))) :=
  if l3 ≤ v.2 then ((X3_addRoad_J95 N_roadCount N_first N_second N_number N_allowed N_at v.1 l1 l2 l3).map (fun z => (.inr z))) else (rd v.1 24 l3 (fun x13 => (FX7_isIn x13 v.2).bind (fun x14 => if x14 = (0 : Int32) then (bnd (v.2 + (1 : Int32)) (fun x15 => some (.inl (v.1, x15)))) else (rd v.1 24 v.2 (fun x16 => wr v.1 24 v.2 (x16 ||| ((1 : Int32) <<< (l3 &&& (31 : Int32)))) (fun g17 => bnd (v.2 + (1 : Int32)) (fun x18 => some (.inl (g17, x18)))))))))
noncomputable def FX3_addRoad (N_roadCount_0 : Int32) (N_first_0 : Nat → Int32) (N_second_0 : Nat → Int32) (N_number_0 : Nat → Int32) (N_allowed_0 : Nat → Int32) (N_at_0 : Nat → Int32) (N_beside_0 : Nat → Int32) (a1 : Int32) (a2 : Int32) : Option (Int32 × Int32 × (Nat → Int32) × (Nat → Int32) × (Nat → Int32) × (Nat → Int32) × (Nat → Int32) × (Nat → Int32)) :=
  wr N_first_0 24 N_roadCount_0 a1 (fun g1 => wr N_second_0 24 N_roadCount_0 a2 (fun g2 => wr N_number_0 24 N_roadCount_0 (-1 : Int32) (fun g3 => wr N_allowed_0 24 N_roadCount_0 (65535 : Int32) (fun g4 => rd N_at_0 12 a1 (fun x5 => rd N_at_0 12 a2 (fun x6 => wr N_beside_0 24 N_roadCount_0 (x5 ||| x6) (fun g7 => loopO (X3_addRoad_L56 N_roadCount_0 g1 g2 g3 g4 N_at_0 a1 a2 N_roadCount_0) (g7, (0 : Int32)))))))))
abbrev GX3_addRoad (p : Program) (l : Launch) (e : Env) (s : State) (m : MethodId) (below : List Frame) (meth : Method) (c : Code) (D : va_G) (cI cJ cZ : ClassId) (n0 n1 n2 n3 n4 n5 n6 : Nat) (N_postCount : Int32) (N_roadCount_0 : Int32) (N_first_0 : Nat → Int32) (N_second_0 : Nat → Int32) (N_number_0 : Nat → Int32) (N_allowed_0 : Nat → Int32) (N_at_0 : Nat → Int32) (N_beside_0 : Nat → Int32) (a1 : Int32) (a2 : Int32) (out : Int32 × Int32 × (Nat → Int32) × (Nat → Int32) × (Nat → Int32) × (Nat → Int32) × (Nat → Int32) × (Nat → Int32)) (H : Heap) (locs : List Loc) (g : JFrame) : Prop := W p l e (headSpec (Cond.code yX3_addRoad cX3_addRoad 5 (some .int) :: GW) { frames := 1, cells := 0, slots := 0, locals := 21 }).room s m ([.ref n0, .int a1, .int a2] : List Value).toArray below meth c H locs 0 0 (MQ below (va_Qi (fun r (_ : Unit) => r = out.1) (BW D (wN cI cJ cZ n0 n1 n2 n3 n4 n5 n6 N_postCount N_roadCount_0 N_first_0 N_second_0 N_number_0 N_allowed_0 N_at_0 N_beside_0) s.heap.size (fun _ => (wN cI cJ cZ n0 n1 n2 n3 n4 n5 n6 N_postCount out.2.1 out.2.2.1 out.2.2.2.1 out.2.2.2.2.1 out.2.2.2.2.2.1 out.2.2.2.2.2.2.1 out.2.2.2.2.2.2.2))) (va_A (wN cI cJ cZ n0 n1 n2 n3 n4 n5 n6 N_postCount N_roadCount_0 N_first_0 N_second_0 N_number_0 N_allowed_0 N_at_0 N_beside_0) s.heap.size)) ([.ref n0, .int a1, .int a2] : List Value).toArray s 0 0 (va_A (wN cI cJ cZ n0 n1 n2 n3 n4 n5 n6 N_postCount N_roadCount_0 N_first_0 N_second_0 N_number_0 N_allowed_0 N_at_0 N_beside_0) s.heap.size)) g
theorem kvX3_addRoad : CalV RX3 yX3_addRoad cX3_addRoad 5 (some .int) 2 := ⟨wC_yX3_addRoad, wM_yX3_addRoad, wS_yX3_addRoad, wI_RX3, by decide +kernel⟩
set_option maxHeartbeats 4000000 in
set_option maxRecDepth 100000 in
theorem kX3_addRoad (l : Launch) (D : va_G) (cI cJ cZ : ClassId) (n0 n1 n2 n3 n4 n5 n6 : Nat) (N_postCount : Int32) (N_roadCount_0 : Int32) (N_first_0 : Nat → Int32) (N_second_0 : Nat → Int32) (N_number_0 : Nat → Int32) (N_allowed_0 : Nat → Int32) (N_at_0 : Nat → Int32) (N_beside_0 : Nat → Int32) (a1 : Int32) (a2 : Int32) (out : Int32 × Int32 × (Nat → Int32) × (Nat → Int32) × (Nat → Int32) × (Nat → Int32) × (Nat → Int32) × (Nat → Int32)) (hf : FX3_addRoad N_roadCount_0 N_first_0 N_second_0 N_number_0 N_allowed_0 N_at_0 N_beside_0 a1 a2 = some out) : MI l yX3_addRoad (Cond.code yX3_addRoad cX3_addRoad 5 (some .int) :: GW) { frames := 1, cells := 0, slots := 0, locals := 21 } D cI cJ cZ [.ref n0, .int a1, .int a2] (wN cI cJ cZ n0 n1 n2 n3 n4 n5 n6 N_postCount N_roadCount_0 N_first_0 N_second_0 N_number_0 N_allowed_0 N_at_0 N_beside_0) (fun r (_ : Unit) => r = out.1) (fun _ => (wN cI cJ cZ n0 n1 n2 n3 n4 n5 n6 N_postCount out.2.1 out.2.2.1 out.2.2.2.1 out.2.2.2.2.1 out.2.2.2.2.2.1 out.2.2.2.2.2.2.1 out.2.2.2.2.2.2.2)) := by
  intro sz
  refine Met.ofW (cc := cX3_addRoad) (maxL := 5) (ret := (some .int)) (by decide +kernel) rfl ?_
  intro p e s m args below meth c s₁ B hml hv
  obtain ⟨rfl, hsz, hP, hK, hD0⟩ := hv
  have hx := B.exec
  have hb := B.bytes
  have hr := B.returns
  have hlocks := B.notSynchronized
  have hg : ∀ w ∈ GW, w.before _ s = true := fun w h => atoms_spec (ws := Cond.code yX3_addRoad cX3_addRoad 5 (some .int) :: GW) B.pre w (List.mem_cons_of_mem _ h)
  have hown : s.vm.findClass RX3 = some m.cls := findClass_of_methodNamed B.named
  subst hsz
  obtain ⟨A, hAe⟩ : ∃ A, A = va_A (wN cI cJ cZ n0 n1 n2 n3 n4 n5 n6 N_postCount N_roadCount_0 N_first_0 N_second_0 N_number_0 N_allowed_0 N_at_0 N_beside_0) s.heap.size := ⟨_, rfl⟩
  have hA : ∀ q : Nat, s.heap.size ≤ q → A q := fun q h => by rw [hAe]; exact Or.inr h
  have hI : WI D A s.heap (wN cI cJ cZ n0 n1 n2 n3 n4 n5 n6 N_postCount N_roadCount_0 N_first_0 N_second_0 N_number_0 N_allowed_0 N_at_0 N_beside_0) s.heap [] := ⟨hP, by rw [hAe]; exact hD0.self, va_S.rf⟩
  have hl := lv_entry [.ref n0, .int a1, .int a2] (n := 5) (Nat.le_of_ble_eq_true rfl)
  rw [lg_entry_eq]
  generalize (lg_sl [.ref n0, .int a1, .int a2] ++ List.replicate (5 - (lg_sl [.ref n0, .int a1, .int a2]).length) Slot.unset).toArray = ls at hl ⊢
  replace hl : lv_has ls 5 [(0, .ref n0), (1, .int a1), (2, .int a2)] := hl
  have J95 : ∀ (N_roadCount : Int32) (N_first : Nat → Int32) (N_second : Nat → Int32) (N_number : Nat → Int32) (N_allowed : Nat → Int32) (N_at : Nat → Int32) (N_beside : Nat → Int32) (l1 : Int32) (l2 : Int32) (l3 : Int32) (x : Int32 × Int32 × (Nat → Int32) × (Nat → Int32) × (Nat → Int32) × (Nat → Int32) × (Nat → Int32) × (Nat → Int32)), X3_addRoad_J95 N_roadCount N_first N_second N_number N_allowed N_at N_beside l1 l2 l3 = some x → (fun z : Int32 × Int32 × (Nat → Int32) × (Nat → Int32) × (Nat → Int32) × (Nat → Int32) × (Nat → Int32) × (Nat → Int32) => z = out) x → ∀ (H : Heap) (locs : List Loc) (ls : Array Slot), WI D A s.heap (wN cI cJ cZ n0 n1 n2 n3 n4 n5 n6 N_postCount N_roadCount N_first N_second N_number N_allowed N_at N_beside) H locs → lv_has ls 5 [(0, .ref n0), (1, .int l1), (2, .int l2), (3, .int l3)] → GX3_addRoad p l e s m below meth c D cI cJ cZ n0 n1 n2 n3 n4 n5 n6 N_postCount N_roadCount_0 N_first_0 N_second_0 N_number_0 N_allowed_0 N_at_0 N_beside_0 a1 a2 out H locs (F0 m 95 ls []) := by
    intro N_roadCount N_first N_second N_number N_allowed N_at N_beside l1 l2 l3 x hf hM H locs ls hI hl
    refine lv_aload_n hx hb dX3_addRoad_95 rfl (lv_at hl 0 rfl) ?_
    refine w_get hx hb hg hown hK hI iX3 0 rfl rfl 6 (by decide) wF_RX3_24 rfl dX3_addRoad_96 ?_
    refine lv_iload_n hx hb dX3_addRoad_99 rfl (lv_at hl 1 rfl) ?_
    refine lv_dup2_11 hx hb dX3_addRoad_100 rfl rfl ?_
    obtain ⟨hin, hf⟩ := rd_e hf
    refine w_iald hx hb hK hI 5 rfl hin dX3_addRoad_101 (fun x8 ex8 => ?_)
    replace hf := hf x8 ex8
    refine lv_iconst (v := 1) hx hb dX3_addRoad_102 (by decide) ?_
    refine lv_iload_n hx hb dX3_addRoad_103 rfl (lv_at hl 3 rfl) ?_
    refine lv_ishl hx hb dX3_addRoad_104 ?_
    refine lv_ior hx hb dX3_addRoad_105 ?_
    obtain ⟨hin, hf⟩ := wr_e hf
    obtain ⟨g9, eg9⟩ : ∃ g : Nat → Int32, g = upd N_at (l1).toNatClampNeg (x8 ||| ((1 : Int32) <<< (l3 &&& (31 : Int32)))) := ⟨_, rfl⟩
    replace hf := hf g9 eg9
    refine w_iast (g := g9) (W1 := (wN cI cJ cZ n0 n1 n2 n3 n4 n5 n6 N_postCount N_roadCount N_first N_second N_number N_allowed g9 N_beside)) hx hb hK hI 5 rfl hin eg9 dX3_addRoad_106 rfl (fun H locs hI => ?_)
    refine lv_aload_n hx hb dX3_addRoad_107 rfl (lv_at hl 0 rfl) ?_
    refine w_get hx hb hg hown hK hI iX3 0 rfl rfl 6 (by decide) wF_RX3_24 rfl dX3_addRoad_108 ?_
    refine lv_iload_n hx hb dX3_addRoad_111 rfl (lv_at hl 2 rfl) ?_
    refine lv_dup2_11 hx hb dX3_addRoad_112 rfl rfl ?_
    obtain ⟨hin, hf⟩ := rd_e hf
    refine w_iald hx hb hK hI 5 rfl hin dX3_addRoad_113 (fun x10 ex10 => ?_)
    replace hf := hf x10 ex10
    refine lv_iconst (v := 1) hx hb dX3_addRoad_114 (by decide) ?_
    refine lv_iload_n hx hb dX3_addRoad_115 rfl (lv_at hl 3 rfl) ?_
    refine lv_ishl hx hb dX3_addRoad_116 ?_
    refine lv_ior hx hb dX3_addRoad_117 ?_
    obtain ⟨hin, hf⟩ := wr_e hf
    obtain ⟨g11, eg11⟩ : ∃ g : Nat → Int32, g = upd g9 (l2).toNatClampNeg (x10 ||| ((1 : Int32) <<< (l3 &&& (31 : Int32)))) := ⟨_, rfl⟩
    replace hf := hf g11 eg11
    refine w_iast (g := g11) (W1 := (wN cI cJ cZ n0 n1 n2 n3 n4 n5 n6 N_postCount N_roadCount N_first N_second N_number N_allowed g11 N_beside)) hx hb hK hI 5 rfl hin eg11 dX3_addRoad_118 rfl (fun H locs hI => ?_)
    refine lv_aload_n hx hb dX3_addRoad_119 rfl (lv_at hl 0 rfl) ?_
    refine lv_dup hx hb dX3_addRoad_120 rfl ?_
    refine w_get hx hb hg hown hK hI iX3 0 rfl rfl 1 (by decide) wF_RX3_34 rfl dX3_addRoad_121 ?_
    refine lv_iconst (v := 1) hx hb dX3_addRoad_124 (by decide) ?_
    refine lv_iadd hx hb dX3_addRoad_125 ?_
    refine lv_topi (fun x12 ex12 => ?_)
    replace hf := bnd_e hf x12 ex12
    refine w_put (W1 := (wN cI cJ cZ n0 n1 n2 n3 n4 n5 n6 N_postCount x12 N_first N_second N_number N_allowed g11 N_beside)) hx hb hg hown hK hI iX3 tyX3 tyX3_ok nmX3 0 rfl rfl 1 (by decide) wF_RX3_34 rfl (tyX3_ok 1 (by decide)) rfl rfl (Nat.le_of_ble_eq_true rfl) dX3_addRoad_126 rfl (fun H locs hI => ?_)
    refine lv_iload_n hx hb dX3_addRoad_129 rfl (lv_at hl 3 rfl) ?_
    replace hf := Option.some.inj hf
    subst hf
    replace hM : (l3, x12, N_first, N_second, N_number, N_allowed, g11, N_beside) = out := hM
    subst hM
    exact rt_i (u := ()) hx hb hr hlocks rfl hI hAe rfl dX3_addRoad_130
  have L56 : ∀ (N_roadCount : Int32) (N_first : Nat → Int32) (N_second : Nat → Int32) (N_number : Nat → Int32) (N_allowed : Nat → Int32) (N_at : Nat → Int32) (l1 : Int32) (l2 : Int32) (l3 : Int32), ∀ (v : (Nat → Int32) × Int32) (x : Int32 × Int32 × (Nat → Int32) × (Nat → Int32) × (Nat → Int32) × (Nat → Int32) × (Nat → Int32) × (Nat → Int32)), loopO (X3_addRoad_L56 N_roadCount N_first N_second N_number N_allowed N_at l1 l2 l3) v = some x → (fun z : Int32 × Int32 × (Nat → Int32) × (Nat → Int32) × (Nat → Int32) × (Nat → Int32) × (Nat → Int32) × (Nat → Int32) => z = out) x → (fun (v : (Nat → Int32) × Int32) => ∀ (H : Heap) (locs : List Loc) (ls : Array Slot), WI D A s.heap (wN cI cJ cZ n0 n1 n2 n3 n4 n5 n6 N_postCount N_roadCount N_first N_second N_number N_allowed N_at v.1) H locs → lv_has ls 5 [(0, .ref n0), (1, .int l1), (2, .int l2), (3, .int l3), (4, .int v.2)] → GX3_addRoad p l e s m below meth c D cI cJ cZ n0 n1 n2 n3 n4 n5 n6 N_postCount N_roadCount_0 N_first_0 N_second_0 N_number_0 N_allowed_0 N_at_0 N_beside_0 a1 a2 out H locs (F0 m 56 ls [])) v := by
    intro N_roadCount N_first N_second N_number N_allowed N_at l1 l2 l3
    refine loopO_ind (fun (v : (Nat → Int32) × Int32) => ∀ (H : Heap) (locs : List Loc) (ls : Array Slot), WI D A s.heap (wN cI cJ cZ n0 n1 n2 n3 n4 n5 n6 N_postCount N_roadCount N_first N_second N_number N_allowed N_at v.1) H locs → lv_has ls 5 [(0, .ref n0), (1, .int l1), (2, .int l2), (3, .int l3), (4, .int v.2)] → GX3_addRoad p l e s m below meth c D cI cJ cZ n0 n1 n2 n3 n4 n5 n6 N_postCount N_roadCount_0 N_first_0 N_second_0 N_number_0 N_allowed_0 N_at_0 N_beside_0 a1 a2 out H locs (F0 m 56 ls [])) (fun z : Int32 × Int32 × (Nat → Int32) × (Nat → Int32) × (Nat → Int32) × (Nat → Int32) × (Nat → Int32) × (Nat → Int32) => z = out) ?_
    intro v x hf hM H locs ls hI hl
    refine lv_iload hx hb dX3_addRoad_56 (lv_at hl 4 rfl) ?_
    refine lv_iload_n hx hb dX3_addRoad_58 rfl (lv_at hl 3 rfl) ?_
    refine lv_icmp_ge (tgt := 95) hx hb dX3_addRoad_59 (by decide) (fun hc => ?_) (fun hc => ?_)
    · replace hf := ite_t hc hf
      obtain ⟨z, hf2, ez⟩ := mp_e hf
      clear hf
      subst ez
      exact J95 N_roadCount N_first N_second N_number N_allowed N_at v.1 l1 l2 l3 _ hf2 hM _ _ _ hI (lv_sub hl [0, 1, 2, 3] rfl)
    · replace hf := ite_f hc hf
      refine lv_aload_n hx hb dX3_addRoad_62 rfl (lv_at hl 0 rfl) ?_
      refine w_get hx hb hg hown hK hI iX3 0 rfl rfl 7 (by decide) wF_RX3_27 rfl dX3_addRoad_63 ?_
      refine lv_iload_n hx hb dX3_addRoad_66 rfl (lv_at hl 3 rfl) ?_
      obtain ⟨hin, hf⟩ := rd_e hf
      refine w_iald hx hb hK hI 6 rfl hin dX3_addRoad_67 (fun x13 ex13 => ?_)
      replace hf := hf x13 ex13
      refine lv_iload hx hb dX3_addRoad_68 (lv_at hl 4 rfl) ?_
      obtain ⟨x14, hx14, hf⟩ := bd_e hf
      refine w_N (rest := []) hx hb hml hg hown hK (kX7_isIn l D cI cJ cZ x13 v.2 x14 hx14) ksX7_isIn (List.mem_of_getElem? (i := 3) rfl) ⟨Nat.le_of_ble_eq_true rfl, Nat.le_of_ble_eq_true rfl⟩ ⟨rfl, rfl⟩ rfl rfl hl.1 (Nat.le_of_ble_eq_true rfl) dX3_addRoad_70 ⟨Nat.zero_le _, Nat.zero_le _⟩ ?_
      refine lv_if_eq (tgt := 89) hx hb dX3_addRoad_73 (by decide) (fun hc => ?_) (fun hc => ?_)
      · replace hf := ite_t hc hf
        obtain ⟨x15, ex15⟩ : ∃ y : Int32, y = (v.2 + (1 : Int32)) := ⟨_, rfl⟩
        replace hf := bnd_e hf x15 ex15
        refine lv_iinc (v := x15) (lv' := [(4, .int x15), (0, .ref n0), (1, .int l1), (2, .int l2), (3, .int l3)]) hx hb dX3_addRoad_89 hl (k := 4) rfl (by rw [ex15]; rfl) (by decide) rfl (fun ls hl => ?_)
        refine lv_goto (tgt := 56) hx hb dX3_addRoad_92 (by decide) ?_
        replace hf := Option.some.inj hf
        subst hf
        exact hM _ _ _ hI (lv_sub hl [1, 2, 3, 4, 0] rfl)
      · replace hf := ite_f hc hf
        refine lv_aload_n hx hb dX3_addRoad_76 rfl (lv_at hl 0 rfl) ?_
        refine w_get hx hb hg hown hK hI iX3 0 rfl rfl 7 (by decide) wF_RX3_27 rfl dX3_addRoad_77 ?_
        refine lv_iload hx hb dX3_addRoad_80 (lv_at hl 4 rfl) ?_
        refine lv_dup2_11 hx hb dX3_addRoad_82 rfl rfl ?_
        obtain ⟨hin, hf⟩ := rd_e hf
        refine w_iald hx hb hK hI 6 rfl hin dX3_addRoad_83 (fun x16 ex16 => ?_)
        replace hf := hf x16 ex16
        refine lv_iconst (v := 1) hx hb dX3_addRoad_84 (by decide) ?_
        refine lv_iload_n hx hb dX3_addRoad_85 rfl (lv_at hl 3 rfl) ?_
        refine lv_ishl hx hb dX3_addRoad_86 ?_
        refine lv_ior hx hb dX3_addRoad_87 ?_
        obtain ⟨hin, hf⟩ := wr_e hf
        obtain ⟨g17, eg17⟩ : ∃ g : Nat → Int32, g = upd v.1 (v.2).toNatClampNeg (x16 ||| ((1 : Int32) <<< (l3 &&& (31 : Int32)))) := ⟨_, rfl⟩
        replace hf := hf g17 eg17
        refine w_iast (g := g17) (W1 := (wN cI cJ cZ n0 n1 n2 n3 n4 n5 n6 N_postCount N_roadCount N_first N_second N_number N_allowed N_at g17)) hx hb hK hI 6 rfl hin eg17 dX3_addRoad_88 rfl (fun H locs hI => ?_)
        obtain ⟨x18, ex18⟩ : ∃ y : Int32, y = (v.2 + (1 : Int32)) := ⟨_, rfl⟩
        replace hf := bnd_e hf x18 ex18
        refine lv_iinc (v := x18) (lv' := [(4, .int x18), (0, .ref n0), (1, .int l1), (2, .int l2), (3, .int l3)]) hx hb dX3_addRoad_89 hl (k := 4) rfl (by rw [ex18]; rfl) (by decide) rfl (fun ls hl => ?_)
        refine lv_goto (tgt := 56) hx hb dX3_addRoad_92 (by decide) ?_
        replace hf := Option.some.inj hf
        subst hf
        exact hM _ _ _ hI (lv_sub hl [1, 2, 3, 4, 0] rfl)
  obtain ⟨x, hf, hM⟩ : ∃ x, FX3_addRoad N_roadCount_0 N_first_0 N_second_0 N_number_0 N_allowed_0 N_at_0 N_beside_0 a1 a2 = some x ∧ x = out := ⟨out, hf, rfl⟩
  refine lv_aload_n hx hb dX3_addRoad_0 rfl (lv_at hl 0 rfl) ?_
  refine w_get hx hb hg hown hK hI iX3 0 rfl rfl 1 (by decide) wF_RX3_34 rfl dX3_addRoad_1 ?_
  refine lv_istore_n (lv' := [(3, .int N_roadCount_0), (0, .ref n0), (1, .int a1), (2, .int a2)]) hx hb dX3_addRoad_4 rfl hl (by decide) rfl (fun ls hl => ?_)
  refine lv_aload_n hx hb dX3_addRoad_5 rfl (lv_at hl 1 rfl) ?_
  refine w_get hx hb hg hown hK hI iX3 0 rfl rfl 2 (by decide) wF_RX3_9 rfl dX3_addRoad_6 ?_
  refine lv_iload_n hx hb dX3_addRoad_9 rfl (lv_at hl 0 rfl) ?_
  refine lv_iload_n hx hb dX3_addRoad_10 rfl (lv_at hl 2 rfl) ?_
  obtain ⟨hin, hf⟩ := wr_e hf
  obtain ⟨g1, eg1⟩ : ∃ g : Nat → Int32, g = upd N_first_0 (N_roadCount_0).toNatClampNeg a1 := ⟨_, rfl⟩
  replace hf := hf g1 eg1
  refine w_iast (g := g1) (W1 := (wN cI cJ cZ n0 n1 n2 n3 n4 n5 n6 N_postCount N_roadCount_0 g1 N_second_0 N_number_0 N_allowed_0 N_at_0 N_beside_0)) hx hb hK hI 1 rfl hin eg1 dX3_addRoad_11 rfl (fun H locs hI => ?_)
  refine lv_aload_n hx hb dX3_addRoad_12 rfl (lv_at hl 1 rfl) ?_
  refine w_get hx hb hg hown hK hI iX3 0 rfl rfl 3 (by decide) wF_RX3_15 rfl dX3_addRoad_13 ?_
  refine lv_iload_n hx hb dX3_addRoad_16 rfl (lv_at hl 0 rfl) ?_
  refine lv_iload_n hx hb dX3_addRoad_17 rfl (lv_at hl 3 rfl) ?_
  obtain ⟨hin, hf⟩ := wr_e hf
  obtain ⟨g2, eg2⟩ : ∃ g : Nat → Int32, g = upd N_second_0 (N_roadCount_0).toNatClampNeg a2 := ⟨_, rfl⟩
  replace hf := hf g2 eg2
  refine w_iast (g := g2) (W1 := (wN cI cJ cZ n0 n1 n2 n3 n4 n5 n6 N_postCount N_roadCount_0 g1 g2 N_number_0 N_allowed_0 N_at_0 N_beside_0)) hx hb hK hI 2 rfl hin eg2 dX3_addRoad_18 rfl (fun H locs hI => ?_)
  refine lv_aload_n hx hb dX3_addRoad_19 rfl (lv_at hl 1 rfl) ?_
  refine w_get hx hb hg hown hK hI iX3 0 rfl rfl 4 (by decide) wF_RX3_18 rfl dX3_addRoad_20 ?_
  refine lv_iload_n hx hb dX3_addRoad_23 rfl (lv_at hl 0 rfl) ?_
  refine lv_iconst (v := -1) hx hb dX3_addRoad_24 (by decide) ?_
  obtain ⟨hin, hf⟩ := wr_e hf
  obtain ⟨g3, eg3⟩ : ∃ g : Nat → Int32, g = upd N_number_0 (N_roadCount_0).toNatClampNeg (-1 : Int32) := ⟨_, rfl⟩
  replace hf := hf g3 eg3
  refine w_iast (g := g3) (W1 := (wN cI cJ cZ n0 n1 n2 n3 n4 n5 n6 N_postCount N_roadCount_0 g1 g2 g3 N_allowed_0 N_at_0 N_beside_0)) hx hb hK hI 3 rfl hin eg3 dX3_addRoad_25 rfl (fun H locs hI => ?_)
  refine lv_aload_n hx hb dX3_addRoad_26 rfl (lv_at hl 1 rfl) ?_
  refine w_get hx hb hg hown hK hI iX3 0 rfl rfl 5 (by decide) wF_RX3_21 rfl dX3_addRoad_27 ?_
  refine lv_iload_n hx hb dX3_addRoad_30 rfl (lv_at hl 0 rfl) ?_
  refine lv_ldc hx hb hown (hg _ wV_RX3_37) dX3_addRoad_31 ?_
  obtain ⟨hin, hf⟩ := wr_e hf
  obtain ⟨g4, eg4⟩ : ∃ g : Nat → Int32, g = upd N_allowed_0 (N_roadCount_0).toNatClampNeg (65535 : Int32) := ⟨_, rfl⟩
  replace hf := hf g4 eg4
  refine w_iast (g := g4) (W1 := (wN cI cJ cZ n0 n1 n2 n3 n4 n5 n6 N_postCount N_roadCount_0 g1 g2 g3 g4 N_at_0 N_beside_0)) hx hb hK hI 4 rfl hin eg4 dX3_addRoad_33 rfl (fun H locs hI => ?_)
  refine lv_aload_n hx hb dX3_addRoad_34 rfl (lv_at hl 1 rfl) ?_
  refine w_get hx hb hg hown hK hI iX3 0 rfl rfl 7 (by decide) wF_RX3_27 rfl dX3_addRoad_35 ?_
  refine lv_iload_n hx hb dX3_addRoad_38 rfl (lv_at hl 0 rfl) ?_
  refine lv_aload_n hx hb dX3_addRoad_39 rfl (lv_at hl 1 rfl) ?_
  refine w_get hx hb hg hown hK hI iX3 0 rfl rfl 6 (by decide) wF_RX3_24 rfl dX3_addRoad_40 ?_
  refine lv_iload_n hx hb dX3_addRoad_43 rfl (lv_at hl 2 rfl) ?_
  obtain ⟨hin, hf⟩ := rd_e hf
  refine w_iald hx hb hK hI 5 rfl hin dX3_addRoad_44 (fun x5 ex5 => ?_)
  replace hf := hf x5 ex5
  refine lv_aload_n hx hb dX3_addRoad_45 rfl (lv_at hl 1 rfl) ?_
  refine w_get hx hb hg hown hK hI iX3 0 rfl rfl 6 (by decide) wF_RX3_24 rfl dX3_addRoad_46 ?_
  refine lv_iload_n hx hb dX3_addRoad_49 rfl (lv_at hl 3 rfl) ?_
  obtain ⟨hin, hf⟩ := rd_e hf
  refine w_iald hx hb hK hI 5 rfl hin dX3_addRoad_50 (fun x6 ex6 => ?_)
  replace hf := hf x6 ex6
  refine lv_ior hx hb dX3_addRoad_51 ?_
  obtain ⟨hin, hf⟩ := wr_e hf
  obtain ⟨g7, eg7⟩ : ∃ g : Nat → Int32, g = upd N_beside_0 (N_roadCount_0).toNatClampNeg (x5 ||| x6) := ⟨_, rfl⟩
  replace hf := hf g7 eg7
  refine w_iast (g := g7) (W1 := (wN cI cJ cZ n0 n1 n2 n3 n4 n5 n6 N_postCount N_roadCount_0 g1 g2 g3 g4 N_at_0 g7)) hx hb hK hI 6 rfl hin eg7 dX3_addRoad_52 rfl (fun H locs hI => ?_)
  refine lv_iconst (v := 0) hx hb dX3_addRoad_53 (by decide) ?_
  refine lv_istore (lv' := [(4, .int (0 : Int32)), (3, .int N_roadCount_0), (0, .ref n0), (1, .int a1), (2, .int a2)]) hx hb dX3_addRoad_54 hl (by decide) rfl (fun ls hl => ?_)
  exact L56 N_roadCount_0 g1 g2 g3 g4 N_at_0 a1 a2 N_roadCount_0 (g7, (0 : Int32)) _ hf hM _ _ _ hI (lv_sub hl [2, 3, 4, 1, 0] rfl)
