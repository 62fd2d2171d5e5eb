noncomputable def X0_countNumbers_L2 (E_limit : Int32) (N_roadCount : Int32) (N_number : Nat → Int32) (v : (Nat → Int32) × Int32) : Option (((Nat → Int32) × Int32) ⊕ ((Nat → Int32))) :=
  if E_limit ≤ v.2 then (some (.inr v.1)) else ((FX3_roadsNumbered N_roadCount N_number v.2).bind (fun o1 => (FJ6_bitCount_0f7a4 o1).bind (fun x2 => wr v.1 16 v.2 x2 (fun g3 => bnd (v.2 + (1 : Int32)) (fun x4 => some (.inl (g3, x4)))))))
noncomputable def FX0_countNumbers (E_limit : Int32) (E_counts_0 : Nat → Int32) (N_roadCount : Int32) (N_number : Nat → Int32)  : Option ((Nat → Int32)) :=
  loopO (X0_countNumbers_L2 E_limit N_roadCount N_number) (E_counts_0, (0 : Int32))
abbrev GX0_countNumbers (p : Program) (l : Launch) (e : Env) (s : State) (m : MethodId) (below : List Frame) (meth : Method) (c : Code) (D : va_G) (cI cJ cZ : ClassId) (e0 e1 n0 n1 n2 n3 n4 n5 n6 : Nat) (E_limit : Int32) (E_counts_0 : Nat → Int32) (N_postCount : Int32) (N_roadCount : Int32) (N_first : Nat → Int32) (N_second : Nat → Int32) (N_number : Nat → Int32) (N_allowed : Nat → Int32) (N_at : Nat → Int32) (N_beside : Nat → Int32)  (out : (Nat → Int32)) (H : Heap) (locs : List Loc) (g : JFrame) : Prop := W p l e (headSpec (Cond.code yX0_countNumbers cX0_countNumbers 2 none :: GW) { frames := 1, cells := 0, slots := 0, locals := 23 }).room s m ([.ref e0] : List Value).toArray below meth c H locs 0 0 (MQ below (va_Qv (fun (_ : Unit) => True) (BW D (wE cI cJ cZ e0 e1 n0 n1 n2 n3 n4 n5 n6 E_limit E_counts_0 N_postCount N_roadCount N_first N_second N_number N_allowed N_at N_beside) s.heap.size (fun _ => (wE cI cJ cZ e0 e1 n0 n1 n2 n3 n4 n5 n6 E_limit out N_postCount N_roadCount N_first N_second N_number N_allowed N_at N_beside))) (va_A (wE cI cJ cZ e0 e1 n0 n1 n2 n3 n4 n5 n6 E_limit E_counts_0 N_postCount N_roadCount N_first N_second N_number N_allowed N_at N_beside) s.heap.size)) ([.ref e0] : List Value).toArray s 0 0 (va_A (wE cI cJ cZ e0 e1 n0 n1 n2 n3 n4 n5 n6 E_limit E_counts_0 N_postCount N_roadCount N_first N_second N_number N_allowed N_at N_beside) s.heap.size)) g
theorem kvX0_countNumbers : CalV RX0 yX0_countNumbers cX0_countNumbers 2 none 0 := ⟨wC_yX0_countNumbers, wM_yX0_countNumbers, wS_yX0_countNumbers, wI_RX0, by decide +kernel⟩
set_option maxHeartbeats 4000000 in
set_option maxRecDepth 100000 in
theorem kX0_countNumbers (l : Launch) (D : va_G) (cI cJ cZ : ClassId) (e0 e1 n0 n1 n2 n3 n4 n5 n6 : Nat) (E_limit : Int32) (E_counts_0 : Nat → Int32) (N_postCount : Int32) (N_roadCount : Int32) (N_first : Nat → Int32) (N_second : Nat → Int32) (N_number : Nat → Int32) (N_allowed : Nat → Int32) (N_at : Nat → Int32) (N_beside : Nat → Int32)  (out : (Nat → Int32)) (hf : FX0_countNumbers E_limit E_counts_0 N_roadCount N_number = some out) : MV l yX0_countNumbers (Cond.code yX0_countNumbers cX0_countNumbers 2 none :: GW) { frames := 1, cells := 0, slots := 0, locals := 23 } D cI cJ cZ [.ref e0] (wE cI cJ cZ e0 e1 n0 n1 n2 n3 n4 n5 n6 E_limit E_counts_0 N_postCount N_roadCount N_first N_second N_number N_allowed N_at N_beside) (fun (_ : Unit) => True) (fun _ => (wE cI cJ cZ e0 e1 n0 n1 n2 n3 n4 n5 n6 E_limit out N_postCount N_roadCount N_first N_second N_number N_allowed N_at N_beside)) := by
  intro sz
  refine Met.ofW (cc := cX0_countNumbers) (maxL := 2) (ret := none) (by decide +kernel) rfl ?_
  intro p e s m args below meth c s₁ B hml hv
  obtain ⟨rfl, hsz, hP, hK, hD0⟩ := hv
  have hx := B.exec
  have hb := B.bytes
  have hr := B.returns
  have hlocks := B.notSynchronized
  have hg : ∀ w ∈ GW, w.before _ s = true := fun w h => atoms_spec (ws := Cond.code yX0_countNumbers cX0_countNumbers 2 none :: GW) B.pre w (List.mem_cons_of_mem _ h)
  have hown : s.vm.findClass RX0 = some m.cls := findClass_of_methodNamed B.named
  subst hsz
  obtain ⟨A, hAe⟩ : ∃ A, A = va_A (wE cI cJ cZ e0 e1 n0 n1 n2 n3 n4 n5 n6 E_limit E_counts_0 N_postCount N_roadCount N_first N_second N_number N_allowed N_at N_beside) s.heap.size := ⟨_, rfl⟩
  have hA : ∀ q : Nat, s.heap.size ≤ q → A q := fun q h => by rw [hAe]; exact Or.inr h
  have hI : WI D A s.heap (wE cI cJ cZ e0 e1 n0 n1 n2 n3 n4 n5 n6 E_limit E_counts_0 N_postCount N_roadCount N_first N_second N_number N_allowed N_at N_beside) s.heap [] := ⟨hP, by rw [hAe]; exact hD0.self, va_S.rf⟩
  have hl := lv_entry [.ref e0] (n := 2) (Nat.le_of_ble_eq_true rfl)
  rw [lg_entry_eq]
  generalize (lg_sl [.ref e0] ++ List.replicate (2 - (lg_sl [.ref e0]).length) Slot.unset).toArray = ls at hl ⊢
  replace hl : lv_has ls 2 [(0, .ref e0)] := hl
  have L2 : ∀ (v : (Nat → Int32) × Int32) (x : (Nat → Int32)), loopO (X0_countNumbers_L2 E_limit N_roadCount N_number) v = some x → (fun z : (Nat → Int32) => z = out) x → (fun (v : (Nat → Int32) × Int32) => ∀ (H : Heap) (locs : List Loc) (ls : Array Slot), WI D A s.heap (wE cI cJ cZ e0 e1 n0 n1 n2 n3 n4 n5 n6 E_limit v.1 N_postCount N_roadCount N_first N_second N_number N_allowed N_at N_beside) H locs → lv_has ls 2 [(0, .ref e0), (1, .int v.2)] → GX0_countNumbers p l e s m below meth c D cI cJ cZ e0 e1 n0 n1 n2 n3 n4 n5 n6 E_limit E_counts_0 N_postCount N_roadCount N_first N_second N_number N_allowed N_at N_beside  out H locs (F0 m 2 ls [])) v := by
    refine loopO_ind (fun (v : (Nat → Int32) × Int32) => ∀ (H : Heap) (locs : List Loc) (ls : Array Slot), WI D A s.heap (wE cI cJ cZ e0 e1 n0 n1 n2 n3 n4 n5 n6 E_limit v.1 N_postCount N_roadCount N_first N_second N_number N_allowed N_at N_beside) H locs → lv_has ls 2 [(0, .ref e0), (1, .int v.2)] → GX0_countNumbers p l e s m below meth c D cI cJ cZ e0 e1 n0 n1 n2 n3 n4 n5 n6 E_limit E_counts_0 N_postCount N_roadCount N_first N_second N_number N_allowed N_at N_beside  out H locs (F0 m 2 ls [])) (fun z : (Nat → Int32) => z = out) ?_
    intro v x hf hM H locs ls hI hl
    refine lv_iload_n hx hb dX0_countNumbers_2 rfl (lv_at hl 1 rfl) ?_
    refine lv_aload_n hx hb dX0_countNumbers_3 rfl (lv_at hl 0 rfl) ?_
    refine w_get hx hb hg hown hK hI iX0 0 rfl rfl 1 (by decide) wF_RX0_19 rfl dX0_countNumbers_4 ?_
    refine lv_icmp_ge (tgt := 33) hx hb dX0_countNumbers_7 (by decide) (fun hc => ?_) (fun hc => ?_)
    · replace hf := ite_t hc hf
      replace hf := Option.some.inj hf
      subst hf
      replace hM : v.1 = out := hM
      subst hM
      exact rt_v (u := ()) hx hb hr hlocks hI hAe trivial dX0_countNumbers_33
    · replace hf := ite_f hc hf
      refine lv_aload_n hx hb dX0_countNumbers_10 rfl (lv_at hl 0 rfl) ?_
      refine w_get hx hb hg hown hK hI iX0 0 rfl rfl 2 (by decide) wF_RX0_9 rfl dX0_countNumbers_11 ?_
      refine lv_iload_n hx hb dX0_countNumbers_14 rfl (lv_at hl 1 rfl) ?_
      refine lv_aload_n hx hb dX0_countNumbers_15 rfl (lv_at hl 0 rfl) ?_
      refine w_get hx hb hg hown hK hI iX0 0 rfl rfl 0 (by decide) wF_RX0_15 rfl dX0_countNumbers_16 ?_
      refine lv_iload_n hx hb dX0_countNumbers_19 rfl (lv_at hl 1 rfl) ?_
      obtain ⟨o1, ho1, hf⟩ := bd_e hf
      refine w_Vi0 (wc := (wN cI cJ cZ n0 n1 n2 n3 n4 n5 n6 N_postCount N_roadCount N_first N_second N_number N_allowed N_at N_beside)) (wr := [(e0, .inr (0, [.ref n0, .int E_limit, .ref e1])), (e1, .inl (cI, 16, .inl v.1))]) (rest := [.int v.2, .ref e1]) hx hb hml hg hown hK hA hI (kX3_roadsNumbered l D cI cJ cZ n0 n1 n2 n3 n4 n5 n6 N_postCount N_roadCount N_first N_second N_number N_allowed N_at N_beside v.2 o1 ho1) kvX3_roadsNumbered wL_RX0_43 ⟨Nat.le_of_ble_eq_true rfl, Nat.le_of_ble_eq_true rfl⟩ rfl rfl [2, 3, 4, 5, 6, 7, 8] [0, 1] rfl rfl rfl rfl (by decide) rfl rfl hl.1 (Nat.le_of_ble_eq_true rfl) dX0_countNumbers_20 ⟨Nat.zero_le _, Nat.zero_le _⟩ ⟨rfl, rfl⟩ (fun r u H locs hp hI => ?_)
      replace hp : r = o1 := hp
      rw [hp]
      clear hp
      replace hI : WI D A s.heap (wE cI cJ cZ e0 e1 n0 n1 n2 n3 n4 n5 n6 E_limit v.1 N_postCount N_roadCount N_first N_second N_number N_allowed N_at N_beside) H locs := hI
      obtain ⟨x2, hx2, hf⟩ := bd_e hf
      refine w_S (rest := [.int v.2, .ref e1]) hx hb hml hg hown hK (kJ6_bitCount_0f7a4 l D cI cJ cZ o1 x2 hx2) ksJ6_bitCount_0f7a4 wL_RX0_47 ⟨Nat.le_of_ble_eq_true rfl, Nat.le_of_ble_eq_true rfl⟩ ⟨rfl, rfl⟩ rfl rfl hl.1 (Nat.le_of_ble_eq_true rfl) dX0_countNumbers_23 ⟨Nat.zero_le _, Nat.zero_le _⟩ ?_
      obtain ⟨hin, hf⟩ := wr_e hf
      obtain ⟨g3, eg3⟩ : ∃ g : Nat → Int32, g = upd v.1 (v.2).toNatClampNeg x2 := ⟨_, rfl⟩
      replace hf := hf g3 eg3
      refine w_iast (g := g3) (W1 := (wE cI cJ cZ e0 e1 n0 n1 n2 n3 n4 n5 n6 E_limit g3 N_postCount N_roadCount N_first N_second N_number N_allowed N_at N_beside)) hx hb hK hI 1 rfl hin eg3 dX0_countNumbers_26 rfl (fun H locs hI => ?_)
      obtain ⟨x4, ex4⟩ : ∃ y : Int32, y = (v.2 + (1 : Int32)) := ⟨_, rfl⟩
      replace hf := bnd_e hf x4 ex4
      refine lv_iinc (v := x4) (lv' := [(1, .int x4), (0, .ref e0)]) hx hb dX0_countNumbers_27 hl (k := 1) rfl (by rw [ex4]; rfl) (by decide) rfl (fun ls hl => ?_)
      refine lv_goto (tgt := 2) hx hb dX0_countNumbers_30 (by decide) ?_
      replace hf := Option.some.inj hf
      subst hf
      exact hM _ _ _ hI (lv_sub hl [1, 0] rfl)
  obtain ⟨x, hf, hM⟩ : ∃ x, FX0_countNumbers E_limit E_counts_0 N_roadCount N_number = some x ∧ x = out := ⟨out, hf, rfl⟩
  refine lv_iconst (v := 0) hx hb dX0_countNumbers_0 (by decide) ?_
  refine lv_istore_n (lv' := [(1, .int (0 : Int32)), (0, .ref e0)]) hx hb dX0_countNumbers_1 rfl hl (by decide) rfl (fun ls hl => ?_)
  exact L2  (E_counts_0, (0 : Int32)) _ hf hM _ _ _ hI (lv_sub hl [1, 0] rfl)
noncomputable def X0_leastOfMost_L4 (E_limit : Int32) (E_counts : Nat → Int32) (v : Int32 × Int32) : Option ((Int32 × Int32) ⊕ (Int32)) :=
  if E_limit ≤ v.2 then (some (.inr v.1)) else (rd E_counts 16 v.2 (fun x1 => rd E_counts 16 v.1 (fun x2 => if x1 ≤ x2 then (bnd (v.2 + (1 : Int32)) (fun x3 => some (.inl (v.1, x3)))) else (bnd (v.2 + (1 : Int32)) (fun x4 => some (.inl (v.2, x4)))))))
noncomputable def FX0_leastOfMost (E_limit : Int32) (E_counts : Nat → Int32)  : Option (Int32) :=
  loopO (X0_leastOfMost_L4 E_limit E_counts) ((0 : Int32), (1 : Int32))
abbrev GX0_leastOfMost (p : Program) (l : Launch) (e : Env) (s : State) (m : MethodId) (below : List Frame) (meth : Method) (c : Code) (D : va_G) (cI cJ cZ : ClassId) (e0 e1 n0 n1 n2 n3 n4 n5 n6 : Nat) (E_limit : Int32) (E_counts : Nat → Int32) (N_postCount : Int32) (N_roadCount : Int32) (N_first : Nat → Int32) (N_second : Nat → Int32) (N_number : Nat → Int32) (N_allowed : Nat → Int32) (N_at : Nat → Int32) (N_beside : Nat → Int32)  (out : Int32) (H : Heap) (locs : List Loc) (g : JFrame) : Prop := W p l e (headSpec (Cond.code yX0_leastOfMost cX0_leastOfMost 3 (some .int) :: GW) { frames := 0, cells := 0, slots := 0, locals := 0 }).room s m ([.ref e0] : List Value).toArray below meth c H locs 0 0 (MQ below (va_Qi (fun r (_ : Unit) => r = out) (BW D (wE cI cJ cZ e0 e1 n0 n1 n2 n3 n4 n5 n6 E_limit E_counts N_postCount N_roadCount N_first N_second N_number N_allowed N_at N_beside) s.heap.size (fun _ => (wE cI cJ cZ e0 e1 n0 n1 n2 n3 n4 n5 n6 E_limit E_counts N_postCount N_roadCount N_first N_second N_number N_allowed N_at N_beside))) (va_A (wE cI cJ cZ e0 e1 n0 n1 n2 n3 n4 n5 n6 E_limit E_counts N_postCount N_roadCount N_first N_second N_number N_allowed N_at N_beside) s.heap.size)) ([.ref e0] : List Value).toArray s 0 0 (va_A (wE cI cJ cZ e0 e1 n0 n1 n2 n3 n4 n5 n6 E_limit E_counts N_postCount N_roadCount N_first N_second N_number N_allowed N_at N_beside) s.heap.size)) g
theorem kvX0_leastOfMost : CalV RX0 yX0_leastOfMost cX0_leastOfMost 3 (some .int) 0 := ⟨wC_yX0_leastOfMost, wM_yX0_leastOfMost, wS_yX0_leastOfMost, wI_RX0, by decide +kernel⟩
set_option maxHeartbeats 4000000 in
set_option maxRecDepth 100000 in
theorem kX0_leastOfMost (l : Launch) (D : va_G) (cI cJ cZ : ClassId) (e0 e1 n0 n1 n2 n3 n4 n5 n6 : Nat) (E_limit : Int32) (E_counts : Nat → Int32) (N_postCount : Int32) (N_roadCount : Int32) (N_first : Nat → Int32) (N_second : Nat → Int32) (N_number : Nat → Int32) (N_allowed : Nat → Int32) (N_at : Nat → Int32) (N_beside : Nat → Int32)  (out : Int32) (hf : FX0_leastOfMost E_limit E_counts = some out) : MI l yX0_leastOfMost (Cond.code yX0_leastOfMost cX0_leastOfMost 3 (some .int) :: GW) { frames := 0, cells := 0, slots := 0, locals := 0 } D cI cJ cZ [.ref e0] (wE cI cJ cZ e0 e1 n0 n1 n2 n3 n4 n5 n6 E_limit E_counts N_postCount N_roadCount N_first N_second N_number N_allowed N_at N_beside) (fun r (_ : Unit) => r = out) (fun _ => (wE cI cJ cZ e0 e1 n0 n1 n2 n3 n4 n5 n6 E_limit E_counts N_postCount N_roadCount N_first N_second N_number N_allowed N_at N_beside)) := by
  intro sz
  refine Met.ofW (cc := cX0_leastOfMost) (maxL := 3) (ret := (some .int)) (by decide +kernel) rfl ?_
  intro p e s m args below meth c s₁ B hml hv
  obtain ⟨rfl, hsz, hP, hK, hD0⟩ := hv
  have hx := B.exec
  have hb := B.bytes
  have hr := B.returns
  have hlocks := B.notSynchronized
  have hg : ∀ w ∈ GW, w.before _ s = true := fun w h => atoms_spec (ws := Cond.code yX0_leastOfMost cX0_leastOfMost 3 (some .int) :: GW) B.pre w (List.mem_cons_of_mem _ h)
  have hown : s.vm.findClass RX0 = some m.cls := findClass_of_methodNamed B.named
  subst hsz
  obtain ⟨A, hAe⟩ : ∃ A, A = va_A (wE cI cJ cZ e0 e1 n0 n1 n2 n3 n4 n5 n6 E_limit E_counts N_postCount N_roadCount N_first N_second N_number N_allowed N_at N_beside) s.heap.size := ⟨_, rfl⟩
  have hA : ∀ q : Nat, s.heap.size ≤ q → A q := fun q h => by rw [hAe]; exact Or.inr h
  have hI : WI D A s.heap (wE cI cJ cZ e0 e1 n0 n1 n2 n3 n4 n5 n6 E_limit E_counts N_postCount N_roadCount N_first N_second N_number N_allowed N_at N_beside) s.heap [] := ⟨hP, by rw [hAe]; exact hD0.self, va_S.rf⟩
  have hl := lv_entry [.ref e0] (n := 3) (Nat.le_of_ble_eq_true rfl)
  rw [lg_entry_eq]
  generalize (lg_sl [.ref e0] ++ List.replicate (3 - (lg_sl [.ref e0]).length) Slot.unset).toArray = ls at hl ⊢
  replace hl : lv_has ls 3 [(0, .ref e0)] := hl
  have L4 : ∀ (v : Int32 × Int32) (x : Int32), loopO (X0_leastOfMost_L4 E_limit E_counts) v = some x → (fun z : Int32 => z = out) x → (fun (v : Int32 × Int32) => ∀ (H : Heap) (locs : List Loc) (ls : Array Slot), WI D A s.heap (wE cI cJ cZ e0 e1 n0 n1 n2 n3 n4 n5 n6 E_limit E_counts N_postCount N_roadCount N_first N_second N_number N_allowed N_at N_beside) H locs → lv_has ls 3 [(0, .ref e0), (1, .int v.1), (2, .int v.2)] → GX0_leastOfMost p l e s m below meth c D cI cJ cZ e0 e1 n0 n1 n2 n3 n4 n5 n6 E_limit E_counts N_postCount N_roadCount N_first N_second N_number N_allowed N_at N_beside  out H locs (F0 m 4 ls [])) v := by
    refine loopO_ind (fun (v : Int32 × Int32) => ∀ (H : Heap) (locs : List Loc) (ls : Array Slot), WI D A s.heap (wE cI cJ cZ e0 e1 n0 n1 n2 n3 n4 n5 n6 E_limit E_counts N_postCount N_roadCount N_first N_second N_number N_allowed N_at N_beside) H locs → lv_has ls 3 [(0, .ref e0), (1, .int v.1), (2, .int v.2)] → GX0_leastOfMost p l e s m below meth c D cI cJ cZ e0 e1 n0 n1 n2 n3 n4 n5 n6 E_limit E_counts N_postCount N_roadCount N_first N_second N_number N_allowed N_at N_beside  out H locs (F0 m 4 ls [])) (fun z : Int32 => z = out) ?_
    intro v x hf hM H locs ls hI hl
    refine lv_iload_n hx hb dX0_leastOfMost_4 rfl (lv_at hl 2 rfl) ?_
    refine lv_aload_n hx hb dX0_leastOfMost_5 rfl (lv_at hl 0 rfl) ?_
    refine w_get hx hb hg hown hK hI iX0 0 rfl rfl 1 (by decide) wF_RX0_19 rfl dX0_leastOfMost_6 ?_
    refine lv_icmp_ge (tgt := 35) hx hb dX0_leastOfMost_9 (by decide) (fun hc => ?_) (fun hc => ?_)
    · replace hf := ite_t hc hf
      refine lv_iload_n hx hb dX0_leastOfMost_35 rfl (lv_at hl 1 rfl) ?_
      replace hf := Option.some.inj hf
      subst hf
      replace hM : v.1 = out := hM
      subst hM
      exact rt_i (u := ()) hx hb hr hlocks rfl hI hAe rfl dX0_leastOfMost_36
    · replace hf := ite_f hc hf
      refine lv_aload_n hx hb dX0_leastOfMost_12 rfl (lv_at hl 0 rfl) ?_
      refine w_get hx hb hg hown hK hI iX0 0 rfl rfl 2 (by decide) wF_RX0_9 rfl dX0_leastOfMost_13 ?_
      refine lv_iload_n hx hb dX0_leastOfMost_16 rfl (lv_at hl 2 rfl) ?_
      obtain ⟨hin, hf⟩ := rd_e hf
      refine w_iald hx hb hK hI 1 rfl hin dX0_leastOfMost_17 (fun x1 ex1 => ?_)
      replace hf := hf x1 ex1
      refine lv_aload_n hx hb dX0_leastOfMost_18 rfl (lv_at hl 0 rfl) ?_
      refine w_get hx hb hg hown hK hI iX0 0 rfl rfl 2 (by decide) wF_RX0_9 rfl dX0_leastOfMost_19 ?_
      refine lv_iload_n hx hb dX0_leastOfMost_22 rfl (lv_at hl 1 rfl) ?_
      obtain ⟨hin, hf⟩ := rd_e hf
      refine w_iald hx hb hK hI 1 rfl hin dX0_leastOfMost_23 (fun x2 ex2 => ?_)
      replace hf := hf x2 ex2
      refine lv_icmp_le (tgt := 29) hx hb dX0_leastOfMost_24 (by decide) (fun hc => ?_) (fun hc => ?_)
      · replace hf := ite_t hc hf
        obtain ⟨x3, ex3⟩ : ∃ y : Int32, y = (v.2 + (1 : Int32)) := ⟨_, rfl⟩
        replace hf := bnd_e hf x3 ex3
        refine lv_iinc (v := x3) (lv' := [(2, .int x3), (0, .ref e0), (1, .int v.1)]) hx hb dX0_leastOfMost_29 hl (k := 2) rfl (by rw [ex3]; rfl) (by decide) rfl (fun ls hl => ?_)
        refine lv_goto (tgt := 4) hx hb dX0_leastOfMost_32 (by decide) ?_
        replace hf := Option.some.inj hf
        subst hf
        exact hM _ _ _ hI (lv_sub hl [1, 2, 0] rfl)
      · replace hf := ite_f hc hf
        refine lv_iload_n hx hb dX0_leastOfMost_27 rfl (lv_at hl 2 rfl) ?_
        refine lv_istore_n (lv' := [(1, .int v.2), (0, .ref e0), (2, .int v.2)]) hx hb dX0_leastOfMost_28 rfl hl (by decide) rfl (fun ls hl => ?_)
        obtain ⟨x4, ex4⟩ : ∃ y : Int32, y = (v.2 + (1 : Int32)) := ⟨_, rfl⟩
        replace hf := bnd_e hf x4 ex4
        refine lv_iinc (v := x4) (lv' := [(2, .int x4), (1, .int v.2), (0, .ref e0)]) hx hb dX0_leastOfMost_29 hl (k := 2) rfl (by rw [ex4]; rfl) (by decide) rfl (fun ls hl => ?_)
        refine lv_goto (tgt := 4) hx hb dX0_leastOfMost_32 (by decide) ?_
        replace hf := Option.some.inj hf
        subst hf
        exact hM _ _ _ hI (lv_sub hl [2, 1, 0] rfl)
  obtain ⟨x, hf, hM⟩ : ∃ x, FX0_leastOfMost E_limit E_counts = some x ∧ x = out := ⟨out, hf, rfl⟩
  refine lv_iconst (v := 0) hx hb dX0_leastOfMost_0 (by decide) ?_
  refine lv_istore_n (lv' := [(1, .int (0 : Int32)), (0, .ref e0)]) hx hb dX0_leastOfMost_1 rfl hl (by decide) rfl (fun ls hl => ?_)
  refine lv_iconst (v := 1) hx hb dX0_leastOfMost_2 (by decide) ?_
  refine lv_istore_n (lv' := [(2, .int (1 : Int32)), (1, .int (0 : Int32)), (0, .ref e0)]) hx hb dX0_leastOfMost_3 rfl hl (by decide) rfl (fun ls hl => ?_)
  exact L4  ((0 : Int32), (1 : Int32)) _ hf hM _ _ _ hI (lv_sub hl [2, 1, 0] rfl)
noncomputable def X0_leastOfFewest_L4 (E_limit : Int32) (E_counts : Nat → Int32) (v : Int32 × Int32) : Option ((Int32 × Int32) ⊕ (Int32)) :=
  if E_limit ≤ v.2 then (some (.inr v.1)) else (rd E_counts 16 v.2 (fun x1 => rd E_counts 16 v.1 (fun x2 => if x2 ≤ x1 then (bnd (v.2 + (1 : Int32)) (fun x3 => some (.inl (v.1, x3)))) else (bnd (v.2 + (1 : Int32)) (fun x4 => some (.inl (v.2, x4)))))))
noncomputable def FX0_leastOfFewest (E_limit : Int32) (E_counts : Nat → Int32)  : Option (Int32) :=
  loopO (X0_leastOfFewest_L4 E_limit E_counts) ((0 : Int32), (1 : Int32))
abbrev GX0_leastOfFewest (p : Program) (l : Launch) (e : Env) (s : State) (m : MethodId) (below : List Frame) (meth : Method) (c : Code) (D : va_G) (cI cJ cZ : ClassId) (e0 e1 n0 n1 n2 n3 n4 n5 n6 : Nat) (E_limit : Int32) (E_counts : Nat → Int32) (N_postCount : Int32) (N_roadCount : Int32) (N_first : Nat → Int32) (N_second : Nat → Int32) (N_number : Nat → Int32) (N_allowed : Nat → Int32) (N_at : Nat → Int32) (N_beside : Nat → Int32)  (out : Int32) (H : Heap) (locs : List Loc) (g : JFrame) : Prop := W p l e (headSpec (Cond.code yX0_leastOfFewest cX0_leastOfFewest 3 (some .int) :: GW) { frames := 0, cells := 0, slots := 0, locals := 0 }).room s m ([.ref e0] : List Value).toArray below meth c H locs 0 0 (MQ below (va_Qi (fun r (_ : Unit) => r = out) (BW D (wE cI cJ cZ e0 e1 n0 n1 n2 n3 n4 n5 n6 E_limit E_counts N_postCount N_roadCount N_first N_second N_number N_allowed N_at N_beside) s.heap.size (fun _ => (wE cI cJ cZ e0 e1 n0 n1 n2 n3 n4 n5 n6 E_limit E_counts N_postCount N_roadCount N_first N_second N_number N_allowed N_at N_beside))) (va_A (wE cI cJ cZ e0 e1 n0 n1 n2 n3 n4 n5 n6 E_limit E_counts N_postCount N_roadCount N_first N_second N_number N_allowed N_at N_beside) s.heap.size)) ([.ref e0] : List Value).toArray s 0 0 (va_A (wE cI cJ cZ e0 e1 n0 n1 n2 n3 n4 n5 n6 E_limit E_counts N_postCount N_roadCount N_first N_second N_number N_allowed N_at N_beside) s.heap.size)) g
theorem kvX0_leastOfFewest : CalV RX0 yX0_leastOfFewest cX0_leastOfFewest 3 (some .int) 0 := ⟨wC_yX0_leastOfFewest, wM_yX0_leastOfFewest, wS_yX0_leastOfFewest, wI_RX0, by decide +kernel⟩
set_option maxHeartbeats 4000000 in
set_option maxRecDepth 100000 in
theorem kX0_leastOfFewest (l : Launch) (D : va_G) (cI cJ cZ : ClassId) (e0 e1 n0 n1 n2 n3 n4 n5 n6 : Nat) (E_limit : Int32) (E_counts : Nat → Int32) (N_postCount : Int32) (N_roadCount : Int32) (N_first : Nat → Int32) (N_second : Nat → Int32) (N_number : Nat → Int32) (N_allowed : Nat → Int32) (N_at : Nat → Int32) (N_beside : Nat → Int32)  (out : Int32) (hf : FX0_leastOfFewest E_limit E_counts = some out) : MI l yX0_leastOfFewest (Cond.code yX0_leastOfFewest cX0_leastOfFewest 3 (some .int) :: GW) { frames := 0, cells := 0, slots := 0, locals := 0 } D cI cJ cZ [.ref e0] (wE cI cJ cZ e0 e1 n0 n1 n2 n3 n4 n5 n6 E_limit E_counts N_postCount N_roadCount N_first N_second N_number N_allowed N_at N_beside) (fun r (_ : Unit) => r = out) (fun _ => (wE cI cJ cZ e0 e1 n0 n1 n2 n3 n4 n5 n6 E_limit E_counts N_postCount N_roadCount N_first N_second N_number N_allowed N_at N_beside)) := by
  intro sz
  refine Met.ofW (cc := cX0_leastOfFewest) (maxL := 3) (ret := (some .int)) (by decide +kernel) rfl ?_
  intro p e s m args below meth c s₁ B hml hv
  obtain ⟨rfl, hsz, hP, hK, hD0⟩ := hv
  have hx := B.exec
  have hb := B.bytes
  have hr := B.returns
  have hlocks := B.notSynchronized
  have hg : ∀ w ∈ GW, w.before _ s = true := fun w h => atoms_spec (ws := Cond.code yX0_leastOfFewest cX0_leastOfFewest 3 (some .int) :: GW) B.pre w (List.mem_cons_of_mem _ h)
  have hown : s.vm.findClass RX0 = some m.cls := findClass_of_methodNamed B.named
  subst hsz
  obtain ⟨A, hAe⟩ : ∃ A, A = va_A (wE cI cJ cZ e0 e1 n0 n1 n2 n3 n4 n5 n6 E_limit E_counts N_postCount N_roadCount N_first N_second N_number N_allowed N_at N_beside) s.heap.size := ⟨_, rfl⟩
  have hA : ∀ q : Nat, s.heap.size ≤ q → A q := fun q h => by rw [hAe]; exact Or.inr h
  have hI : WI D A s.heap (wE cI cJ cZ e0 e1 n0 n1 n2 n3 n4 n5 n6 E_limit E_counts N_postCount N_roadCount N_first N_second N_number N_allowed N_at N_beside) s.heap [] := ⟨hP, by rw [hAe]; exact hD0.self, va_S.rf⟩
  have hl := lv_entry [.ref e0] (n := 3) (Nat.le_of_ble_eq_true rfl)
  rw [lg_entry_eq]
  generalize (lg_sl [.ref e0] ++ List.replicate (3 - (lg_sl [.ref e0]).length) Slot.unset).toArray = ls at hl ⊢
  replace hl : lv_has ls 3 [(0, .ref e0)] := hl
  have L4 : ∀ (v : Int32 × Int32) (x : Int32), loopO (X0_leastOfFewest_L4 E_limit E_counts) v = some x → (fun z : Int32 => z = out) x → (fun (v : Int32 × Int32) => ∀ (H : Heap) (locs : List Loc) (ls : Array Slot), WI D A s.heap (wE cI cJ cZ e0 e1 n0 n1 n2 n3 n4 n5 n6 E_limit E_counts N_postCount N_roadCount N_first N_second N_number N_allowed N_at N_beside) H locs → lv_has ls 3 [(0, .ref e0), (1, .int v.1), (2, .int v.2)] → GX0_leastOfFewest p l e s m below meth c D cI cJ cZ e0 e1 n0 n1 n2 n3 n4 n5 n6 E_limit E_counts N_postCount N_roadCount N_first N_second N_number N_allowed N_at N_beside  out H locs (F0 m 4 ls [])) v := by
    refine loopO_ind (fun (v : Int32 × Int32) => ∀ (H : Heap) (locs : List Loc) (ls : Array Slot), WI D A s.heap (wE cI cJ cZ e0 e1 n0 n1 n2 n3 n4 n5 n6 E_limit E_counts N_postCount N_roadCount N_first N_second N_number N_allowed N_at N_beside) H locs → lv_has ls 3 [(0, .ref e0), (1, .int v.1), (2, .int v.2)] → GX0_leastOfFewest p l e s m below meth c D cI cJ cZ e0 e1 n0 n1 n2 n3 n4 n5 n6 E_limit E_counts N_postCount N_roadCount N_first N_second N_number N_allowed N_at N_beside  out H locs (F0 m 4 ls [])) (fun z : Int32 => z = out) ?_
    intro v x hf hM H locs ls hI hl
    refine lv_iload_n hx hb dX0_leastOfFewest_4 rfl (lv_at hl 2 rfl) ?_
    refine lv_aload_n hx hb dX0_leastOfFewest_5 rfl (lv_at hl 0 rfl) ?_
    refine w_get hx hb hg hown hK hI iX0 0 rfl rfl 1 (by decide) wF_RX0_19 rfl dX0_leastOfFewest_6 ?_
    refine lv_icmp_ge (tgt := 35) hx hb dX0_leastOfFewest_9 (by decide) (fun hc => ?_) (fun hc => ?_)
    · replace hf := ite_t hc hf
      refine lv_iload_n hx hb dX0_leastOfFewest_35 rfl (lv_at hl 1 rfl) ?_
      replace hf := Option.some.inj hf
      subst hf
      replace hM : v.1 = out := hM
      subst hM
      exact rt_i (u := ()) hx hb hr hlocks rfl hI hAe rfl dX0_leastOfFewest_36
    · replace hf := ite_f hc hf
      refine lv_aload_n hx hb dX0_leastOfFewest_12 rfl (lv_at hl 0 rfl) ?_
      refine w_get hx hb hg hown hK hI iX0 0 rfl rfl 2 (by decide) wF_RX0_9 rfl dX0_leastOfFewest_13 ?_
      refine lv_iload_n hx hb dX0_leastOfFewest_16 rfl (lv_at hl 2 rfl) ?_
      obtain ⟨hin, hf⟩ := rd_e hf
      refine w_iald hx hb hK hI 1 rfl hin dX0_leastOfFewest_17 (fun x1 ex1 => ?_)
      replace hf := hf x1 ex1
      refine lv_aload_n hx hb dX0_leastOfFewest_18 rfl (lv_at hl 0 rfl) ?_
      refine w_get hx hb hg hown hK hI iX0 0 rfl rfl 2 (by decide) wF_RX0_9 rfl dX0_leastOfFewest_19 ?_
      refine lv_iload_n hx hb dX0_leastOfFewest_22 rfl (lv_at hl 1 rfl) ?_
      obtain ⟨hin, hf⟩ := rd_e hf
      refine w_iald hx hb hK hI 1 rfl hin dX0_leastOfFewest_23 (fun x2 ex2 => ?_)
      replace hf := hf x2 ex2
      refine lv_icmp_ge (tgt := 29) hx hb dX0_leastOfFewest_24 (by decide) (fun hc => ?_) (fun hc => ?_)
      · replace hf := ite_t hc hf
        obtain ⟨x3, ex3⟩ : ∃ y : Int32, y = (v.2 + (1 : Int32)) := ⟨_, rfl⟩
        replace hf := bnd_e hf x3 ex3
        refine lv_iinc (v := x3) (lv' := [(2, .int x3), (0, .ref e0), (1, .int v.1)]) hx hb dX0_leastOfFewest_29 hl (k := 2) rfl (by rw [ex3]; rfl) (by decide) rfl (fun ls hl => ?_)
        refine lv_goto (tgt := 4) hx hb dX0_leastOfFewest_32 (by decide) ?_
        replace hf := Option.some.inj hf
        subst hf
        exact hM _ _ _ hI (lv_sub hl [1, 2, 0] rfl)
      · replace hf := ite_f hc hf
        refine lv_iload_n hx hb dX0_leastOfFewest_27 rfl (lv_at hl 2 rfl) ?_
        refine lv_istore_n (lv' := [(1, .int v.2), (0, .ref e0), (2, .int v.2)]) hx hb dX0_leastOfFewest_28 rfl hl (by decide) rfl (fun ls hl => ?_)
        obtain ⟨x4, ex4⟩ : ∃ y : Int32, y = (v.2 + (1 : Int32)) := ⟨_, rfl⟩
        replace hf := bnd_e hf x4 ex4
        refine lv_iinc (v := x4) (lv' := [(2, .int x4), (1, .int v.2), (0, .ref e0)]) hx hb dX0_leastOfFewest_29 hl (k := 2) rfl (by rw [ex4]; rfl) (by decide) rfl (fun ls hl => ?_)
        refine lv_goto (tgt := 4) hx hb dX0_leastOfFewest_32 (by decide) ?_
        replace hf := Option.some.inj hf
        subst hf
        exact hM _ _ _ hI (lv_sub hl [2, 1, 0] rfl)
  obtain ⟨x, hf, hM⟩ : ∃ x, FX0_leastOfFewest E_limit E_counts = some x ∧ x = out := ⟨out, hf, rfl⟩
  refine lv_iconst (v := 0) hx hb dX0_leastOfFewest_0 (by decide) ?_
  refine lv_istore_n (lv' := [(1, .int (0 : Int32)), (0, .ref e0)]) hx hb dX0_leastOfFewest_1 rfl hl (by decide) rfl (fun ls hl => ?_)
  refine lv_iconst (v := 1) hx hb dX0_leastOfFewest_2 (by decide) ?_
  refine lv_istore_n (lv' := [(2, .int (1 : Int32)), (1, .int (0 : Int32)), (0, .ref e0)]) hx hb dX0_leastOfFewest_3 rfl hl (by decide) rfl (fun ls hl => ?_)
  exact L4  ((0 : Int32), (1 : Int32)) _ hf hM _ _ _ hI (lv_sub hl [2, 1, 0] rfl)
noncomputable def X0_firstHeavyChain_L24 (N_roadCount : Int32) (N_number : Nat → Int32) (N_beside : Nat → Int32) (l1 : Int32) (l2 : Int32) (l3 : Int32) (v : Int32 × Int32) : Option ((Int32 × Int32) ⊕ (Int32)) :=
  if N_roadCount ≤ v.2 then (some (.inr (0 : Int32))) else ((FX7_isIn v.1 v.2).bind (fun x4 => if x4 = (0 : Int32) then (bnd (v.2 + (1 : Int32)) (fun x5 => some (.inl (v.1, x5)))) else ((FX3_chainOf N_roadCount N_number N_beside v.2 l1 l2).bind (fun o6 => (FJ6_bitCount_0f7a4 (o6 &&& l3)).bind (fun x7 => (FJ6_bitCount_0f7a4 (o6 &&& (l3 ^^^ (-1 : Int32)))).bind (fun x8 => if x7 ≤ x8 then (bnd (v.1 &&& (o6 ^^^ (-1 : Int32))) (fun x9 => bnd (v.2 + (1 : Int32)) (fun x10 => some (.inl (x9, x10))))) else (some (.inr o6))))))))
noncomputable def FX0_firstHeavyChain (N_roadCount : Int32) (N_number : Nat → Int32) (N_beside : Nat → Int32) (a1 : Int32) (a2 : Int32) : Option (Int32) :=
  (FX3_roadsNumbered N_roadCount N_number a1).bind (fun o1 => (FX3_roadsNumbered N_roadCount N_number a2).bind (fun o2 => bnd (o1 ||| o2) (fun x3 => loopO (X0_firstHeavyChain_L24 N_roadCount N_number N_beside a1 a2 o1) (x3, (0 : Int32)))))
abbrev GX0_firstHeavyChain (p : Program) (l : Launch) (e : Env) (s : State) (m : MethodId) (below : List Frame) (meth : Method) (c : Code) (D : va_G) (cI cJ cZ : ClassId) (e0 e1 n0 n1 n2 n3 n4 n5 n6 : Nat) (E_limit : Int32) (E_counts : Nat → Int32) (N_postCount : Int32) (N_roadCount : Int32) (N_first : Nat → Int32) (N_second : Nat → Int32) (N_number : Nat → Int32) (N_allowed : Nat → Int32) (N_at : Nat → Int32) (N_beside : Nat → Int32) (a1 : Int32) (a2 : Int32) (out : Int32) (H : Heap) (locs : List Loc) (g : JFrame) : Prop := W p l e (headSpec (Cond.code yX0_firstHeavyChain cX0_firstHeavyChain 7 (some .int) :: GW) { frames := 3, cells := 0, slots := 0, locals := 71 }).room s m ([.ref e0, .int a1, .int a2] : List Value).toArray below meth c H locs 0 0 (MQ below (va_Qi (fun r (_ : Unit) => r = out) (BW D (wE cI cJ cZ e0 e1 n0 n1 n2 n3 n4 n5 n6 E_limit E_counts N_postCount N_roadCount N_first N_second N_number N_allowed N_at N_beside) s.heap.size (fun _ => (wE cI cJ cZ e0 e1 n0 n1 n2 n3 n4 n5 n6 E_limit E_counts N_postCount N_roadCount N_first N_second N_number N_allowed N_at N_beside))) (va_A (wE cI cJ cZ e0 e1 n0 n1 n2 n3 n4 n5 n6 E_limit E_counts N_postCount N_roadCount N_first N_second N_number N_allowed N_at N_beside) s.heap.size)) ([.ref e0, .int a1, .int a2] : List Value).toArray s 0 0 (va_A (wE cI cJ cZ e0 e1 n0 n1 n2 n3 n4 n5 n6 E_limit E_counts N_postCount N_roadCount N_first N_second N_number N_allowed N_at N_beside) s.heap.size)) g
theorem kvX0_firstHeavyChain : CalV RX0 yX0_firstHeavyChain cX0_firstHeavyChain 7 (some .int) 2 := ⟨wC_yX0_firstHeavyChain, wM_yX0_firstHeavyChain, wS_yX0_firstHeavyChain, wI_RX0, by decide +kernel⟩
set_option maxHeartbeats 4000000 in
set_option maxRecDepth 100000 in
theorem kX0_firstHeavyChain (l : Launch) (D : va_G) (cI cJ cZ : ClassId) (e0 e1 n0 n1 n2 n3 n4 n5 n6 : Nat) (E_limit : Int32) (E_counts : Nat → Int32) (N_postCount : Int32) (N_roadCount : Int32) (N_first : Nat → Int32) (N_second : Nat → Int32) (N_number : Nat → Int32) (N_allowed : Nat → Int32) (N_at : Nat → Int32) (N_beside : Nat → Int32) (a1 : Int32) (a2 : Int32) (out : Int32) (hf : FX0_firstHeavyChain N_roadCount N_number N_beside a1 a2 = some out) : MI l yX0_firstHeavyChain (Cond.code yX0_firstHeavyChain cX0_firstHeavyChain 7 (some .int) :: GW) { frames := 3, cells := 0, slots := 0, locals := 71 } D cI cJ cZ [.ref e0, .int a1, .int a2] (wE cI cJ cZ e0 e1 n0 n1 n2 n3 n4 n5 n6 E_limit E_counts N_postCount N_roadCount N_first N_second N_number N_allowed N_at N_beside) (fun r (_ : Unit) => r = out) (fun _ => (wE cI cJ cZ e0 e1 n0 n1 n2 n3 n4 n5 n6 E_limit E_counts N_postCount N_roadCount N_first N_second N_number N_allowed N_at N_beside)) := by
  intro sz
  refine Met.ofW (cc := cX0_firstHeavyChain) (maxL := 7) (ret := (some .int)) (by decide +kernel) rfl ?_
  intro p e s m args below meth c s₁ B hml hv
  obtain ⟨rfl, hsz, hP, hK, hD0⟩ := hv
  have hx := B.exec
  have hb := B.bytes
  have hr := B.returns
  have hlocks := B.notSynchronized
  have hg : ∀ w ∈ GW, w.before _ s = true := fun w h => atoms_spec (ws := Cond.code yX0_firstHeavyChain cX0_firstHeavyChain 7 (some .int) :: GW) B.pre w (List.mem_cons_of_mem _ h)
  have hown : s.vm.findClass RX0 = some m.cls := findClass_of_methodNamed B.named
  subst hsz
  obtain ⟨A, hAe⟩ : ∃ A, A = va_A (wE cI cJ cZ e0 e1 n0 n1 n2 n3 n4 n5 n6 E_limit E_counts N_postCount N_roadCount N_first N_second N_number N_allowed N_at N_beside) s.heap.size := ⟨_, rfl⟩
  have hA : ∀ q : Nat, s.heap.size ≤ q → A q := fun q h => by rw [hAe]; exact Or.inr h
  have hI : WI D A s.heap (wE cI cJ cZ e0 e1 n0 n1 n2 n3 n4 n5 n6 E_limit E_counts N_postCount N_roadCount N_first N_second N_number N_allowed N_at N_beside) s.heap [] := ⟨hP, by rw [hAe]; exact hD0.self, va_S.rf⟩
  have hl := lv_entry [.ref e0, .int a1, .int a2] (n := 7) (Nat.le_of_ble_eq_true rfl)
  rw [lg_entry_eq]
  generalize (lg_sl [.ref e0, .int a1, .int a2] ++ List.replicate (7 - (lg_sl [.ref e0, .int a1, .int a2]).length) Slot.unset).toArray = ls at hl ⊢
  replace hl : lv_has ls 7 [(0, .ref e0), (1, .int a1), (2, .int a2)] := hl
  have L24 : ∀ (l1 : Int32) (l2 : Int32) (l3 : Int32), ∀ (v : Int32 × Int32) (x : Int32), loopO (X0_firstHeavyChain_L24 N_roadCount N_number N_beside l1 l2 l3) v = some x → (fun z : Int32 => z = out) x → (fun (v : Int32 × Int32) => ∀ (H : Heap) (locs : List Loc) (ls : Array Slot), WI D A s.heap (wE cI cJ cZ e0 e1 n0 n1 n2 n3 n4 n5 n6 E_limit E_counts N_postCount N_roadCount N_first N_second N_number N_allowed N_at N_beside) H locs → lv_has ls 7 [(0, .ref e0), (1, .int l1), (2, .int l2), (3, .int l3), (4, .int v.1), (5, .int v.2)] → GX0_firstHeavyChain p l e s m below meth c D cI cJ cZ e0 e1 n0 n1 n2 n3 n4 n5 n6 E_limit E_counts N_postCount N_roadCount N_first N_second N_number N_allowed N_at N_beside a1 a2 out H locs (F0 m 24 ls [])) v := by
    intro l1 l2 l3
    refine loopO_ind (fun (v : Int32 × Int32) => ∀ (H : Heap) (locs : List Loc) (ls : Array Slot), WI D A s.heap (wE cI cJ cZ e0 e1 n0 n1 n2 n3 n4 n5 n6 E_limit E_counts N_postCount N_roadCount N_first N_second N_number N_allowed N_at N_beside) H locs → lv_has ls 7 [(0, .ref e0), (1, .int l1), (2, .int l2), (3, .int l3), (4, .int v.1), (5, .int v.2)] → GX0_firstHeavyChain p l e s m below meth c D cI cJ cZ e0 e1 n0 n1 n2 n3 n4 n5 n6 E_limit E_counts N_postCount N_roadCount N_first N_second N_number N_allowed N_at N_beside a1 a2 out H locs (F0 m 24 ls [])) (fun z : Int32 => z = out) ?_
    intro v x hf hM H locs ls hI hl
    refine lv_iload hx hb dX0_firstHeavyChain_24 (lv_at hl 5 rfl) ?_
    refine lv_aload_n hx hb dX0_firstHeavyChain_26 rfl (lv_at hl 0 rfl) ?_
    refine w_get hx hb hg hown hK hI iX0 0 rfl rfl 0 (by decide) wF_RX0_15 rfl dX0_firstHeavyChain_27 ?_
    refine w_get hx hb hg hown hK hI iX3 2 rfl rfl 1 (by decide) wF_RX0_52 rfl dX0_firstHeavyChain_30 ?_
    refine lv_icmp_ge (tgt := 96) hx hb dX0_firstHeavyChain_33 (by decide) (fun hc => ?_) (fun hc => ?_)
    · replace hf := ite_t hc hf
      refine lv_iconst (v := 0) hx hb dX0_firstHeavyChain_96 (by decide) ?_
      replace hf := Option.some.inj hf
      subst hf
      replace hM : (0 : Int32) = out := hM
      subst hM
      exact rt_i (u := ()) hx hb hr hlocks rfl hI hAe rfl dX0_firstHeavyChain_97
    · replace hf := ite_f hc hf
      refine lv_iload hx hb dX0_firstHeavyChain_36 (lv_at hl 4 rfl) ?_
      refine lv_iload hx hb dX0_firstHeavyChain_38 (lv_at hl 5 rfl) ?_
      obtain ⟨x4, hx4, hf⟩ := bd_e hf
      refine w_N (rest := []) hx hb hml hg hown hK (kX7_isIn l D cI cJ cZ v.1 v.2 x4 hx4) ksX7_isIn (List.mem_of_getElem? (i := 0) rfl) ⟨Nat.le_of_ble_eq_true rfl, Nat.le_of_ble_eq_true rfl⟩ ⟨rfl, rfl⟩ rfl rfl hl.1 (Nat.le_of_ble_eq_true rfl) dX0_firstHeavyChain_40 ⟨Nat.zero_le _, Nat.zero_le _⟩ ?_
      refine lv_if_eq (tgt := 90) hx hb dX0_firstHeavyChain_43 (by decide) (fun hc => ?_) (fun hc => ?_)
      · replace hf := ite_t hc hf
        obtain ⟨x5, ex5⟩ : ∃ y : Int32, y = (v.2 + (1 : Int32)) := ⟨_, rfl⟩
        replace hf := bnd_e hf x5 ex5
        refine lv_iinc (v := x5) (lv' := [(5, .int x5), (0, .ref e0), (1, .int l1), (2, .int l2), (3, .int l3), (4, .int v.1)]) hx hb dX0_firstHeavyChain_90 hl (k := 5) rfl (by rw [ex5]; rfl) (by decide) rfl (fun ls hl => ?_)
        refine lv_goto (tgt := 24) hx hb dX0_firstHeavyChain_93 (by decide) ?_
        replace hf := Option.some.inj hf
        subst hf
        exact hM _ _ _ hI (lv_sub hl [1, 2, 3, 4, 5, 0] rfl)
      · replace hf := ite_f hc hf
        refine lv_aload_n hx hb dX0_firstHeavyChain_46 rfl (lv_at hl 0 rfl) ?_
        refine w_get hx hb hg hown hK hI iX0 0 rfl rfl 0 (by decide) wF_RX0_15 rfl dX0_firstHeavyChain_47 ?_
        refine lv_iload hx hb dX0_firstHeavyChain_50 (lv_at hl 5 rfl) ?_
        refine lv_iload_n hx hb dX0_firstHeavyChain_52 rfl (lv_at hl 1 rfl) ?_
        refine lv_iload_n hx hb dX0_firstHeavyChain_53 rfl (lv_at hl 2 rfl) ?_
        obtain ⟨o6, ho6, hf⟩ := bd_e hf
        refine w_Vi0 (wc := (wN cI cJ cZ n0 n1 n2 n3 n4 n5 n6 N_postCount N_roadCount N_first N_second N_number N_allowed N_at N_beside)) (wr := [(e0, .inr (0, [.ref n0, .int E_limit, .ref e1])), (e1, .inl (cI, 16, .inl E_counts))]) (rest := []) hx hb hml hg hown hK hA hI (kX3_chainOf l D cI cJ cZ n0 n1 n2 n3 n4 n5 n6 N_postCount N_roadCount N_first N_second N_number N_allowed N_at N_beside v.2 l1 l2 o6 ho6) kvX3_chainOf wL_RX0_59 ⟨Nat.le_of_ble_eq_true rfl, Nat.le_of_ble_eq_true rfl⟩ rfl rfl [2, 3, 4, 5, 6, 7, 8] [0, 1] rfl rfl rfl rfl (by decide) rfl rfl hl.1 (Nat.le_of_ble_eq_true rfl) dX0_firstHeavyChain_54 ⟨Nat.zero_le _, Nat.zero_le _⟩ ⟨rfl, rfl⟩ (fun r u H locs hp hI => ?_)
        replace hp : r = o6 := hp
        rw [hp]
        clear hp
        replace hI : WI D A s.heap (wE cI cJ cZ e0 e1 n0 n1 n2 n3 n4 n5 n6 E_limit E_counts N_postCount N_roadCount N_first N_second N_number N_allowed N_at N_beside) H locs := hI
        refine lv_istore (lv' := [(6, .int o6), (0, .ref e0), (1, .int l1), (2, .int l2), (3, .int l3), (4, .int v.1), (5, .int v.2)]) hx hb dX0_firstHeavyChain_57 hl (by decide) rfl (fun ls hl => ?_)
        refine lv_iload hx hb dX0_firstHeavyChain_59 (lv_at hl 0 rfl) ?_
        refine lv_iload_n hx hb dX0_firstHeavyChain_61 rfl (lv_at hl 4 rfl) ?_
        refine lv_iand hx hb dX0_firstHeavyChain_62 ?_
        obtain ⟨x7, hx7, hf⟩ := bd_e hf
        refine w_S (rest := []) hx hb hml hg hown hK (kJ6_bitCount_0f7a4 l D cI cJ cZ (o6 &&& l3) x7 hx7) ksJ6_bitCount_0f7a4 wL_RX0_47 ⟨Nat.le_of_ble_eq_true rfl, Nat.le_of_ble_eq_true rfl⟩ ⟨rfl, rfl⟩ rfl rfl hl.1 (Nat.le_of_ble_eq_true rfl) dX0_firstHeavyChain_63 ⟨Nat.zero_le _, Nat.zero_le _⟩ ?_
        refine lv_iload hx hb dX0_firstHeavyChain_66 (lv_at hl 0 rfl) ?_
        refine lv_iload_n hx hb dX0_firstHeavyChain_68 rfl (lv_at hl 4 rfl) ?_
        refine lv_iconst (v := -1) hx hb dX0_firstHeavyChain_69 (by decide) ?_
        refine lv_ixor hx hb dX0_firstHeavyChain_70 ?_
        refine lv_iand hx hb dX0_firstHeavyChain_71 ?_
        obtain ⟨x8, hx8, hf⟩ := bd_e hf
        refine w_S (rest := [.int x7]) hx hb hml hg hown hK (kJ6_bitCount_0f7a4 l D cI cJ cZ (o6 &&& (l3 ^^^ (-1 : Int32))) x8 hx8) ksJ6_bitCount_0f7a4 wL_RX0_47 ⟨Nat.le_of_ble_eq_true rfl, Nat.le_of_ble_eq_true rfl⟩ ⟨rfl, rfl⟩ rfl rfl hl.1 (Nat.le_of_ble_eq_true rfl) dX0_firstHeavyChain_72 ⟨Nat.zero_le _, Nat.zero_le _⟩ ?_
        refine lv_icmp_le (tgt := 81) hx hb dX0_firstHeavyChain_75 (by decide) (fun hc => ?_) (fun hc => ?_)
        · replace hf := ite_t hc hf
          refine lv_iload hx hb dX0_firstHeavyChain_81 (lv_at hl 5 rfl) ?_
          refine lv_iload hx hb dX0_firstHeavyChain_83 (lv_at hl 0 rfl) ?_
          refine lv_iconst (v := -1) hx hb dX0_firstHeavyChain_85 (by decide) ?_
          refine lv_ixor hx hb dX0_firstHeavyChain_86 ?_
          refine lv_iand hx hb dX0_firstHeavyChain_87 ?_
          refine lv_topi (fun x9 ex9 => ?_)
          replace hf := bnd_e hf x9 ex9
          refine lv_istore (lv' := [(4, .int x9), (6, .int o6), (0, .ref e0), (1, .int l1), (2, .int l2), (3, .int l3), (5, .int v.2)]) hx hb dX0_firstHeavyChain_88 hl (by decide) rfl (fun ls hl => ?_)
          obtain ⟨x10, ex10⟩ : ∃ y : Int32, y = (v.2 + (1 : Int32)) := ⟨_, rfl⟩
          replace hf := bnd_e hf x10 ex10
          refine lv_iinc (v := x10) (lv' := [(5, .int x10), (4, .int x9), (6, .int o6), (0, .ref e0), (1, .int l1), (2, .int l2), (3, .int l3)]) hx hb dX0_firstHeavyChain_90 hl (k := 6) rfl (by rw [ex10]; rfl) (by decide) rfl (fun ls hl => ?_)
          refine lv_goto (tgt := 24) hx hb dX0_firstHeavyChain_93 (by decide) ?_
          replace hf := Option.some.inj hf
          subst hf
          exact hM _ _ _ hI (lv_sub hl [3, 4, 5, 6, 1, 0] rfl)
        · replace hf := ite_f hc hf
          refine lv_iload hx hb dX0_firstHeavyChain_78 (lv_at hl 0 rfl) ?_
          replace hf := Option.some.inj hf
          subst hf
          replace hM : o6 = out := hM
          subst hM
          exact rt_i (u := ()) hx hb hr hlocks rfl hI hAe rfl dX0_firstHeavyChain_80
  obtain ⟨x, hf, hM⟩ : ∃ x, FX0_firstHeavyChain N_roadCount N_number N_beside a1 a2 = some x ∧ x = out := ⟨out, hf, rfl⟩
  refine lv_aload_n hx hb dX0_firstHeavyChain_0 rfl (lv_at hl 0 rfl) ?_
  refine w_get hx hb hg hown hK hI iX0 0 rfl rfl 0 (by decide) wF_RX0_15 rfl dX0_firstHeavyChain_1 ?_
  refine lv_iload_n hx hb dX0_firstHeavyChain_4 rfl (lv_at hl 1 rfl) ?_
  obtain ⟨o1, ho1, hf⟩ := bd_e hf
  refine w_Vi0 (wc := (wN cI cJ cZ n0 n1 n2 n3 n4 n5 n6 N_postCount N_roadCount N_first N_second N_number N_allowed N_at N_beside)) (wr := [(e0, .inr (0, [.ref n0, .int E_limit, .ref e1])), (e1, .inl (cI, 16, .inl E_counts))]) (rest := []) hx hb hml hg hown hK hA hI (kX3_roadsNumbered l D cI cJ cZ n0 n1 n2 n3 n4 n5 n6 N_postCount N_roadCount N_first N_second N_number N_allowed N_at N_beside a1 o1 ho1) kvX3_roadsNumbered wL_RX0_43 ⟨Nat.le_of_ble_eq_true rfl, Nat.le_of_ble_eq_true rfl⟩ rfl rfl [2, 3, 4, 5, 6, 7, 8] [0, 1] rfl rfl rfl rfl (by decide) rfl rfl hl.1 (Nat.le_of_ble_eq_true rfl) dX0_firstHeavyChain_5 ⟨Nat.zero_le _, Nat.zero_le _⟩ ⟨rfl, rfl⟩ (fun r u H locs hp hI => ?_)
  replace hp : r = o1 := hp
  rw [hp]
  clear hp
  replace hI : WI D A s.heap (wE cI cJ cZ e0 e1 n0 n1 n2 n3 n4 n5 n6 E_limit E_counts N_postCount N_roadCount N_first N_second N_number N_allowed N_at N_beside) H locs := hI
  refine lv_istore_n (lv' := [(3, .int o1), (0, .ref e0), (1, .int a1), (2, .int a2)]) hx hb dX0_firstHeavyChain_8 rfl hl (by decide) rfl (fun ls hl => ?_)
  refine lv_iload_n hx hb dX0_firstHeavyChain_9 rfl (lv_at hl 0 rfl) ?_
  refine lv_aload_n hx hb dX0_firstHeavyChain_10 rfl (lv_at hl 1 rfl) ?_
  refine w_get hx hb hg hown hK hI iX0 0 rfl rfl 0 (by decide) wF_RX0_15 rfl dX0_firstHeavyChain_11 ?_
  refine lv_iload_n hx hb dX0_firstHeavyChain_14 rfl (lv_at hl 3 rfl) ?_
  obtain ⟨o2, ho2, hf⟩ := bd_e hf
  refine w_Vi0 (wc := (wN cI cJ cZ n0 n1 n2 n3 n4 n5 n6 N_postCount N_roadCount N_first N_second N_number N_allowed N_at N_beside)) (wr := [(e0, .inr (0, [.ref n0, .int E_limit, .ref e1])), (e1, .inl (cI, 16, .inl E_counts))]) (rest := [.int o1]) hx hb hml hg hown hK hA hI (kX3_roadsNumbered l D cI cJ cZ n0 n1 n2 n3 n4 n5 n6 N_postCount N_roadCount N_first N_second N_number N_allowed N_at N_beside a2 o2 ho2) kvX3_roadsNumbered wL_RX0_43 ⟨Nat.le_of_ble_eq_true rfl, Nat.le_of_ble_eq_true rfl⟩ rfl rfl [2, 3, 4, 5, 6, 7, 8] [0, 1] rfl rfl rfl rfl (by decide) rfl rfl hl.1 (Nat.le_of_ble_eq_true rfl) dX0_firstHeavyChain_15 ⟨Nat.zero_le _, Nat.zero_le _⟩ ⟨rfl, rfl⟩ (fun r u H locs hp hI => ?_)
  replace hp : r = o2 := hp
  rw [hp]
  clear hp
  replace hI : WI D A s.heap (wE cI cJ cZ e0 e1 n0 n1 n2 n3 n4 n5 n6 E_limit E_counts N_postCount N_roadCount N_first N_second N_number N_allowed N_at N_beside) H locs := hI
  refine lv_ior hx hb dX0_firstHeavyChain_18 ?_
  refine lv_topi (fun x3 ex3 => ?_)
  replace hf := bnd_e hf x3 ex3
  refine lv_istore (lv' := [(4, .int x3), (3, .int o1), (0, .ref e0), (1, .int a1), (2, .int a2)]) hx hb dX0_firstHeavyChain_19 hl (by decide) rfl (fun ls hl => ?_)
  refine lv_iconst (v := 0) hx hb dX0_firstHeavyChain_21 (by decide) ?_
  refine lv_istore (lv' := [(5, .int (0 : Int32)), (4, .int x3), (3, .int o1), (0, .ref e0), (1, .int a1), (2, .int a2)]) hx hb dX0_firstHeavyChain_22 hl (by decide) rfl (fun ls hl => ?_)
  exact L24 a1 a2 o1 (x3, (0 : Int32)) _ hf hM _ _ _ hI (lv_sub hl [3, 4, 5, 2, 1, 0] rfl)
noncomputable def X0_makeEven_L4 (E_limit : Int32) (N_roadCount : Int32) (N_beside : Nat → Int32) (v : (Nat → Int32) × (Nat → Int32) × Int32 × Int32) : Option (((Nat → Int32) × (Nat → Int32) × Int32 × Int32) ⊕ (Int32 × (Nat → Int32) × (Nat → Int32))) :=
  if (300 : Int32) ≤ v.2.2.2 then (some (.inr (v.2.2.1, v.1, v.2.1))) else ((FX0_countNumbers E_limit v.1 N_roadCount v.2.1).bind (fun o1 => (FX0_leastOfMost E_limit o1).bind (fun o2 => (FX0_leastOfFewest E_limit o1).bind (fun o3 => rd o1 16 o2 (fun x4 => rd o1 16 o3 (fun x5 => if (2 : Int32) ≤ (x4 - x5) then ((FX0_firstHeavyChain N_roadCount v.2.1 N_beside o2 o3).bind (fun o6 => (FX3_exchange N_roadCount v.2.1 o6 o2 o3).bind (fun o7 => bnd (v.2.2.1 + (1 : Int32)) (fun x8 => bnd (v.2.2.2 + (1 : Int32)) (fun x9 => some (.inl (o1, o7, x8, x9))))))) else (some (.inr (v.2.2.1, o1, v.2.1)))))))))
noncomputable def FX0_makeEven (E_limit : Int32) (E_counts_0 : Nat → Int32) (N_roadCount : Int32) (N_number_0 : Nat → Int32) (N_beside : Nat → Int32)  : Option (Int32 × (Nat → Int32) × (Nat → Int32)) :=
  loopO (X0_makeEven_L4 E_limit N_roadCount N_beside) (E_counts_0, N_number_0, (0 : Int32), (0 : Int32))
abbrev GX0_makeEven (p : Program) (l : Launch) (e : Env) (s : State) (m : MethodId) (below : List Frame) (meth : Method) (c : Code) (D : va_G) (cI cJ cZ : ClassId) (e0 e1 n0 n1 n2 n3 n4 n5 n6 : Nat) (E_limit : Int32) (E_counts_0 : Nat → Int32) (N_postCount : Int32) (N_roadCount : Int32) (N_first : Nat → Int32) (N_second : Nat → Int32) (N_number_0 : Nat → Int32) (N_allowed : Nat → Int32) (N_at : Nat → Int32) (N_beside : Nat → Int32)  (out : Int32 × (Nat → Int32) × (Nat → Int32)) (H : Heap) (locs : List Loc) (g : JFrame) : Prop := W p l e (headSpec (Cond.code yX0_makeEven cX0_makeEven 5 (some .int) :: GW) { frames := 4, cells := 0, slots := 0, locals := 97 }).room s m ([.ref e0] : List Value).toArray below meth c H locs 0 0 (MQ below (va_Qi (fun r (_ : Unit) => r = out.1) (BW D (wE cI cJ cZ e0 e1 n0 n1 n2 n3 n4 n5 n6 E_limit E_counts_0 N_postCount N_roadCount N_first N_second N_number_0 N_allowed N_at N_beside) s.heap.size (fun _ => (wE cI cJ cZ e0 e1 n0 n1 n2 n3 n4 n5 n6 E_limit out.2.1 N_postCount N_roadCount N_first N_second out.2.2 N_allowed N_at N_beside))) (va_A (wE cI cJ cZ e0 e1 n0 n1 n2 n3 n4 n5 n6 E_limit E_counts_0 N_postCount N_roadCount N_first N_second N_number_0 N_allowed N_at N_beside) s.heap.size)) ([.ref e0] : List Value).toArray s 0 0 (va_A (wE cI cJ cZ e0 e1 n0 n1 n2 n3 n4 n5 n6 E_limit E_counts_0 N_postCount N_roadCount N_first N_second N_number_0 N_allowed N_at N_beside) s.heap.size)) g
theorem kvX0_makeEven : CalV RX0 yX0_makeEven cX0_makeEven 5 (some .int) 0 := ⟨wC_yX0_makeEven, wM_yX0_makeEven, wS_yX0_makeEven, wI_RX0, by decide +kernel⟩
set_option maxHeartbeats 4000000 in
set_option maxRecDepth 100000 in
theorem kX0_makeEven (l : Launch) (D : va_G) (cI cJ cZ : ClassId) (e0 e1 n0 n1 n2 n3 n4 n5 n6 : Nat) (E_limit : Int32) (E_counts_0 : Nat → Int32) (N_postCount : Int32) (N_roadCount : Int32) (N_first : Nat → Int32) (N_second : Nat → Int32) (N_number_0 : Nat → Int32) (N_allowed : Nat → Int32) (N_at : Nat → Int32) (N_beside : Nat → Int32)  (out : Int32 × (Nat → Int32) × (Nat → Int32)) (hf : FX0_makeEven E_limit E_counts_0 N_roadCount N_number_0 N_beside = some out) : MI l yX0_makeEven (Cond.code yX0_makeEven cX0_makeEven 5 (some .int) :: GW) { frames := 4, cells := 0, slots := 0, locals := 97 } D cI cJ cZ [.ref e0] (wE cI cJ cZ e0 e1 n0 n1 n2 n3 n4 n5 n6 E_limit E_counts_0 N_postCount N_roadCount N_first N_second N_number_0 N_allowed N_at N_beside) (fun r (_ : Unit) => r = out.1) (fun _ => (wE cI cJ cZ e0 e1 n0 n1 n2 n3 n4 n5 n6 E_limit out.2.1 N_postCount N_roadCount N_first N_second out.2.2 N_allowed N_at N_beside)) := by
  intro sz
  refine Met.ofW (cc := cX0_makeEven) (maxL := 5) (ret := (some .int)) (by decide +kernel) rfl ?_
  intro p e s m args below meth c s₁ B hml hv
  obtain ⟨rfl, hsz, hP, hK, hD0⟩ := hv
  have hx := B.exec
  have hb := B.bytes
  have hr := B.returns
  have hlocks := B.notSynchronized
  have hg : ∀ w ∈ GW, w.before _ s = true := fun w h => atoms_spec (ws := Cond.code yX0_makeEven cX0_makeEven 5 (some .int) :: GW) B.pre w (List.mem_cons_of_mem _ h)
  have hown : s.vm.findClass RX0 = some m.cls := findClass_of_methodNamed B.named
  subst hsz
  obtain ⟨A, hAe⟩ : ∃ A, A = va_A (wE cI cJ cZ e0 e1 n0 n1 n2 n3 n4 n5 n6 E_limit E_counts_0 N_postCount N_roadCount N_first N_second N_number_0 N_allowed N_at N_beside) s.heap.size := ⟨_, rfl⟩
  have hA : ∀ q : Nat, s.heap.size ≤ q → A q := fun q h => by rw [hAe]; exact Or.inr h
  have hI : WI D A s.heap (wE cI cJ cZ e0 e1 n0 n1 n2 n3 n4 n5 n6 E_limit E_counts_0 N_postCount N_roadCount N_first N_second N_number_0 N_allowed N_at N_beside) s.heap [] := ⟨hP, by rw [hAe]; exact hD0.self, va_S.rf⟩
  have hl := lv_entry [.ref e0] (n := 5) (Nat.le_of_ble_eq_true rfl)
  rw [lg_entry_eq]
  generalize (lg_sl [.ref e0] ++ List.replicate (5 - (lg_sl [.ref e0]).length) Slot.unset).toArray = ls at hl ⊢
  replace hl : lv_has ls 5 [(0, .ref e0)] := hl
  have L4 : ∀ (v : (Nat → Int32) × (Nat → Int32) × Int32 × Int32) (x : Int32 × (Nat → Int32) × (Nat → Int32)), loopO (X0_makeEven_L4 E_limit N_roadCount N_beside) v = some x → (fun z : Int32 × (Nat → Int32) × (Nat → Int32) => z = out) x → (fun (v : (Nat → Int32) × (Nat → Int32) × Int32 × Int32) => ∀ (H : Heap) (locs : List Loc) (ls : Array Slot), WI D A s.heap (wE cI cJ cZ e0 e1 n0 n1 n2 n3 n4 n5 n6 E_limit v.1 N_postCount N_roadCount N_first N_second v.2.1 N_allowed N_at N_beside) H locs → lv_has ls 5 [(0, .ref e0), (1, .int v.2.2.1), (2, .int v.2.2.2)] → GX0_makeEven p l e s m below meth c D cI cJ cZ e0 e1 n0 n1 n2 n3 n4 n5 n6 E_limit E_counts_0 N_postCount N_roadCount N_first N_second N_number_0 N_allowed N_at N_beside  out H locs (F0 m 4 ls [])) v := by
    refine loopO_ind (fun (v : (Nat → Int32) × (Nat → Int32) × Int32 × Int32) => ∀ (H : Heap) (locs : List Loc) (ls : Array Slot), WI D A s.heap (wE cI cJ cZ e0 e1 n0 n1 n2 n3 n4 n5 n6 E_limit v.1 N_postCount N_roadCount N_first N_second v.2.1 N_allowed N_at N_beside) H locs → lv_has ls 5 [(0, .ref e0), (1, .int v.2.2.1), (2, .int v.2.2.2)] → GX0_makeEven p l e s m below meth c D cI cJ cZ e0 e1 n0 n1 n2 n3 n4 n5 n6 E_limit E_counts_0 N_postCount N_roadCount N_first N_second N_number_0 N_allowed N_at N_beside  out H locs (F0 m 4 ls [])) (fun z : Int32 × (Nat → Int32) × (Nat → Int32) => z = out) ?_
    intro v x hf hM H locs ls hI hl
    refine lv_iload_n hx hb dX0_makeEven_4 rfl (lv_at hl 2 rfl) ?_
    refine lv_sipush (v := 300) hx hb dX0_makeEven_5 (by decide) ?_
    refine lv_icmp_ge (tgt := 73) hx hb dX0_makeEven_8 (by decide) (fun hc => ?_) (fun hc => ?_)
    · replace hf := ite_t hc hf
      refine lv_iload_n hx hb dX0_makeEven_73 rfl (lv_at hl 1 rfl) ?_
      replace hf := Option.some.inj hf
      subst hf
      replace hM : (v.2.2.1, v.1, v.2.1) = out := hM
      subst hM
      exact rt_i (u := ()) hx hb hr hlocks rfl hI hAe rfl dX0_makeEven_74
    · replace hf := ite_f hc hf
      refine lv_aload_n hx hb dX0_makeEven_11 rfl (lv_at hl 0 rfl) ?_
      obtain ⟨o1, ho1, hf⟩ := bd_e hf
      refine w_Vv0 (wc := (wE cI cJ cZ e0 e1 n0 n1 n2 n3 n4 n5 n6 E_limit v.1 N_postCount N_roadCount N_first N_second v.2.1 N_allowed N_at N_beside)) (wr := []) (rest := []) hx hb hml hg hown hK hA hI (kX0_countNumbers l D cI cJ cZ e0 e1 n0 n1 n2 n3 n4 n5 n6 E_limit v.1 N_postCount N_roadCount N_first N_second v.2.1 N_allowed N_at N_beside  o1 ho1) kvX0_countNumbers wL_RX0_23 ⟨Nat.le_of_ble_eq_true rfl, Nat.le_of_ble_eq_true rfl⟩ rfl rfl [0, 1, 2, 3, 4, 5, 6, 7, 8] [] rfl rfl rfl rfl (by decide) rfl rfl hl.1 (Nat.le_of_ble_eq_true rfl) dX0_makeEven_12 ⟨Nat.zero_le _, Nat.zero_le _⟩ ⟨rfl, rfl⟩ (fun  u H locs hp hI => ?_)
      replace hI : WI D A s.heap (wE cI cJ cZ e0 e1 n0 n1 n2 n3 n4 n5 n6 E_limit o1 N_postCount N_roadCount N_first N_second v.2.1 N_allowed N_at N_beside) H locs := hI
      refine lv_aload_n hx hb dX0_makeEven_15 rfl (lv_at hl 0 rfl) ?_
      obtain ⟨o2, ho2, hf⟩ := bd_e hf
      refine w_Vi0 (wc := (wE cI cJ cZ e0 e1 n0 n1 n2 n3 n4 n5 n6 E_limit o1 N_postCount N_roadCount N_first N_second v.2.1 N_allowed N_at N_beside)) (wr := []) (rest := []) hx hb hml hg hown hK hA hI (kX0_leastOfMost l D cI cJ cZ e0 e1 n0 n1 n2 n3 n4 n5 n6 E_limit o1 N_postCount N_roadCount N_first N_second v.2.1 N_allowed N_at N_beside  o2 ho2) kvX0_leastOfMost wL_RX0_26 ⟨Nat.le_of_ble_eq_true rfl, Nat.le_of_ble_eq_true rfl⟩ rfl rfl [0, 1, 2, 3, 4, 5, 6, 7, 8] [] rfl rfl rfl rfl (by decide) rfl rfl hl.1 (Nat.le_of_ble_eq_true rfl) dX0_makeEven_16 ⟨Nat.zero_le _, Nat.zero_le _⟩ ⟨rfl, rfl⟩ (fun r u H locs hp hI => ?_)
      replace hp : r = o2 := hp
      rw [hp]
      clear hp
      replace hI : WI D A s.heap (wE cI cJ cZ e0 e1 n0 n1 n2 n3 n4 n5 n6 E_limit o1 N_postCount N_roadCount N_first N_second v.2.1 N_allowed N_at N_beside) H locs := hI
      refine lv_istore_n (lv' := [(3, .int o2), (0, .ref e0), (1, .int v.2.2.1), (2, .int v.2.2.2)]) hx hb dX0_makeEven_19 rfl hl (by decide) rfl (fun ls hl => ?_)
      refine lv_aload_n hx hb dX0_makeEven_20 rfl (lv_at hl 1 rfl) ?_
      obtain ⟨o3, ho3, hf⟩ := bd_e hf
      refine w_Vi0 (wc := (wE cI cJ cZ e0 e1 n0 n1 n2 n3 n4 n5 n6 E_limit o1 N_postCount N_roadCount N_first N_second v.2.1 N_allowed N_at N_beside)) (wr := []) (rest := []) hx hb hml hg hown hK hA hI (kX0_leastOfFewest l D cI cJ cZ e0 e1 n0 n1 n2 n3 n4 n5 n6 E_limit o1 N_postCount N_roadCount N_first N_second v.2.1 N_allowed N_at N_beside  o3 ho3) kvX0_leastOfFewest wL_RX0_30 ⟨Nat.le_of_ble_eq_true rfl, Nat.le_of_ble_eq_true rfl⟩ rfl rfl [0, 1, 2, 3, 4, 5, 6, 7, 8] [] rfl rfl rfl rfl (by decide) rfl rfl hl.1 (Nat.le_of_ble_eq_true rfl) dX0_makeEven_21 ⟨Nat.zero_le _, Nat.zero_le _⟩ ⟨rfl, rfl⟩ (fun r u H locs hp hI => ?_)
      replace hp : r = o3 := hp
      rw [hp]
      clear hp
      replace hI : WI D A s.heap (wE cI cJ cZ e0 e1 n0 n1 n2 n3 n4 n5 n6 E_limit o1 N_postCount N_roadCount N_first N_second v.2.1 N_allowed N_at N_beside) H locs := hI
      refine lv_istore (lv' := [(4, .int o3), (3, .int o2), (0, .ref e0), (1, .int v.2.2.1), (2, .int v.2.2.2)]) hx hb dX0_makeEven_24 hl (by decide) rfl (fun ls hl => ?_)
      refine lv_aload_n hx hb dX0_makeEven_26 rfl (lv_at hl 2 rfl) ?_
      refine w_get hx hb hg hown hK hI iX0 0 rfl rfl 2 (by decide) wF_RX0_9 rfl dX0_makeEven_27 ?_
      refine lv_iload_n hx hb dX0_makeEven_30 rfl (lv_at hl 1 rfl) ?_
      obtain ⟨hin, hf⟩ := rd_e hf
      refine w_iald hx hb hK hI 1 rfl hin dX0_makeEven_31 (fun x4 ex4 => ?_)
      replace hf := hf x4 ex4
      refine lv_aload_n hx hb dX0_makeEven_32 rfl (lv_at hl 2 rfl) ?_
      refine w_get hx hb hg hown hK hI iX0 0 rfl rfl 2 (by decide) wF_RX0_9 rfl dX0_makeEven_33 ?_
      refine lv_iload hx hb dX0_makeEven_36 (lv_at hl 0 rfl) ?_
      obtain ⟨hin, hf⟩ := rd_e hf
      refine w_iald hx hb hK hI 1 rfl hin dX0_makeEven_38 (fun x5 ex5 => ?_)
      replace hf := hf x5 ex5
      refine lv_isub hx hb dX0_makeEven_39 ?_
      refine lv_iconst (v := 2) hx hb dX0_makeEven_40 (by decide) ?_
      refine lv_icmp_ge (tgt := 47) hx hb dX0_makeEven_41 (by decide) (fun hc => ?_) (fun hc => ?_)
      · replace hf := ite_t hc hf
        refine lv_aload_n hx hb dX0_makeEven_47 rfl (lv_at hl 2 rfl) ?_
        refine w_get hx hb hg hown hK hI iX0 0 rfl rfl 0 (by decide) wF_RX0_15 rfl dX0_makeEven_48 ?_
        refine lv_aload_n hx hb dX0_makeEven_51 rfl (lv_at hl 2 rfl) ?_
        refine lv_iload_n hx hb dX0_makeEven_52 rfl (lv_at hl 1 rfl) ?_
        refine lv_iload hx hb dX0_makeEven_53 (lv_at hl 0 rfl) ?_
        obtain ⟨o6, ho6, hf⟩ := bd_e hf
        refine w_Vi0 (wc := (wE cI cJ cZ e0 e1 n0 n1 n2 n3 n4 n5 n6 E_limit o1 N_postCount N_roadCount N_first N_second v.2.1 N_allowed N_at N_beside)) (wr := []) (rest := [.ref n0]) hx hb hml hg hown hK hA hI (kX0_firstHeavyChain l D cI cJ cZ e0 e1 n0 n1 n2 n3 n4 n5 n6 E_limit o1 N_postCount N_roadCount N_first N_second v.2.1 N_allowed N_at N_beside o2 o3 o6 ho6) kvX0_firstHeavyChain wL_RX0_33 ⟨Nat.le_of_ble_eq_true rfl, Nat.le_of_ble_eq_true rfl⟩ rfl rfl [0, 1, 2, 3, 4, 5, 6, 7, 8] [] rfl rfl rfl rfl (by decide) rfl rfl hl.1 (Nat.le_of_ble_eq_true rfl) dX0_makeEven_55 ⟨Nat.zero_le _, Nat.zero_le _⟩ ⟨rfl, rfl⟩ (fun r u H locs hp hI => ?_)
        replace hp : r = o6 := hp
        rw [hp]
        clear hp
        replace hI : WI D A s.heap (wE cI cJ cZ e0 e1 n0 n1 n2 n3 n4 n5 n6 E_limit o1 N_postCount N_roadCount N_first N_second v.2.1 N_allowed N_at N_beside) H locs := hI
        refine lv_iload_n hx hb dX0_makeEven_58 rfl (lv_at hl 1 rfl) ?_
        refine lv_iload hx hb dX0_makeEven_59 (lv_at hl 0 rfl) ?_
        obtain ⟨o7, ho7, hf⟩ := bd_e hf
        refine w_Vv0 (wc := (wN cI cJ cZ n0 n1 n2 n3 n4 n5 n6 N_postCount N_roadCount N_first N_second v.2.1 N_allowed N_at N_beside)) (wr := [(e0, .inr (0, [.ref n0, .int E_limit, .ref e1])), (e1, .inl (cI, 16, .inl o1))]) (rest := []) hx hb hml hg hown hK hA hI (kX3_exchange l D cI cJ cZ n0 n1 n2 n3 n4 n5 n6 N_postCount N_roadCount N_first N_second v.2.1 N_allowed N_at N_beside o6 o2 o3 o7 ho7) kvX3_exchange wL_RX0_37 ⟨Nat.le_of_ble_eq_true rfl, Nat.le_of_ble_eq_true rfl⟩ rfl rfl [2, 3, 4, 5, 6, 7, 8] [0, 1] rfl rfl rfl rfl (by decide) rfl rfl hl.1 (Nat.le_of_ble_eq_true rfl) dX0_makeEven_61 ⟨Nat.zero_le _, Nat.zero_le _⟩ ⟨rfl, rfl⟩ (fun  u H locs hp hI => ?_)
        replace hI : WI D A s.heap (wE cI cJ cZ e0 e1 n0 n1 n2 n3 n4 n5 n6 E_limit o1 N_postCount N_roadCount N_first N_second o7 N_allowed N_at N_beside) H locs := hI
        obtain ⟨x8, ex8⟩ : ∃ y : Int32, y = (v.2.2.1 + (1 : Int32)) := ⟨_, rfl⟩
        replace hf := bnd_e hf x8 ex8
        refine lv_iinc (v := x8) (lv' := [(1, .int x8), (4, .int o3), (3, .int o2), (0, .ref e0), (2, .int v.2.2.2)]) hx hb dX0_makeEven_64 hl (k := 3) rfl (by rw [ex8]; rfl) (by decide) rfl (fun ls hl => ?_)
        obtain ⟨x9, ex9⟩ : ∃ y : Int32, y = (v.2.2.2 + (1 : Int32)) := ⟨_, rfl⟩
        replace hf := bnd_e hf x9 ex9
        refine lv_iinc (v := x9) (lv' := [(2, .int x9), (1, .int x8), (4, .int o3), (3, .int o2), (0, .ref e0)]) hx hb dX0_makeEven_67 hl (k := 4) rfl (by rw [ex9]; rfl) (by decide) rfl (fun ls hl => ?_)
        refine lv_goto (tgt := 4) hx hb dX0_makeEven_70 (by decide) ?_
        replace hf := Option.some.inj hf
        subst hf
        exact hM _ _ _ hI (lv_sub hl [4, 1, 0] rfl)
      · replace hf := ite_f hc hf
        refine lv_goto (tgt := 73) hx hb dX0_makeEven_44 (by decide) ?_
        refine lv_iload_n hx hb dX0_makeEven_73 rfl (lv_at hl 3 rfl) ?_
        replace hf := Option.some.inj hf
        subst hf
        replace hM : (v.2.2.1, o1, v.2.1) = out := hM
        subst hM
        exact rt_i (u := ()) hx hb hr hlocks rfl hI hAe rfl dX0_makeEven_74
  obtain ⟨x, hf, hM⟩ : ∃ x, FX0_makeEven E_limit E_counts_0 N_roadCount N_number_0 N_beside = some x ∧ x = out := ⟨out, hf, rfl⟩
  refine lv_iconst (v := 0) hx hb dX0_makeEven_0 (by decide) ?_
  refine lv_istore_n (lv' := [(1, .int (0 : Int32)), (0, .ref e0)]) hx hb dX0_makeEven_1 rfl hl (by decide) rfl (fun ls hl => ?_)
  refine lv_iconst (v := 0) hx hb dX0_makeEven_2 (by decide) ?_
  refine lv_istore_n (lv' := [(2, .int (0 : Int32)), (1, .int (0 : Int32)), (0, .ref e0)]) hx hb dX0_makeEven_3 rfl hl (by decide) rfl (fun ls hl => ?_)
  exact L4  (E_counts_0, N_number_0, (0 : Int32), (0 : Int32)) _ hf hM _ _ _ hI (lv_sub hl [2, 1, 0] rfl)
noncomputable def FX1_postAt (F_hub : Int32) (F_road : Nat → Int32) (N_first : Nat → Int32) (N_second : Nat → Int32) (a1 : Int32) : Option (Int32) :=
  rd F_road 24 a1 (fun x1 => rd N_first 24 x1 (fun x2 => if x2 = F_hub then (rd N_second 24 x1 (fun x4 => some x4)) else (rd N_first 24 x1 (fun x3 => some x3))))
abbrev GX1_postAt (p : Program) (l : Launch) (e : Env) (s : State) (m : MethodId) (below : List Frame) (meth : Method) (c : Code) (D : va_G) (cI cJ cZ : ClassId) (f0 f1 n0 n1 n2 n3 n4 n5 n6 : Nat) (F_hub : Int32) (F_size : Int32) (F_road : Nat → Int32) (N_postCount : Int32) (N_roadCount : Int32) (N_first : Nat → Int32) (N_second : Nat → Int32) (N_number : Nat → Int32) (N_allowed : Nat → Int32) (N_at : Nat → Int32) (N_beside : Nat → Int32) (a1 : Int32) (out : Int32) (H : Heap) (locs : List Loc) (g : JFrame) : Prop := W p l e (headSpec (Cond.code yX1_postAt cX1_postAt 3 (some .int) :: GW) { frames := 0, cells := 0, slots := 0, locals := 0 }).room s m ([.ref f0, .int a1] : List Value).toArray below meth c H locs 0 0 (MQ below (va_Qi (fun r (_ : Unit) => r = out) (BW D (wF cI cJ cZ f0 f1 n0 n1 n2 n3 n4 n5 n6 F_hub F_size F_road N_postCount N_roadCount N_first N_second N_number N_allowed N_at N_beside) s.heap.size (fun _ => (wF cI cJ cZ f0 f1 n0 n1 n2 n3 n4 n5 n6 F_hub F_size F_road N_postCount N_roadCount N_first N_second N_number N_allowed N_at N_beside))) (va_A (wF cI cJ cZ f0 f1 n0 n1 n2 n3 n4 n5 n6 F_hub F_size F_road N_postCount N_roadCount N_first N_second N_number N_allowed N_at N_beside) s.heap.size)) ([.ref f0, .int a1] : List Value).toArray s 0 0 (va_A (wF cI cJ cZ f0 f1 n0 n1 n2 n3 n4 n5 n6 F_hub F_size F_road N_postCount N_roadCount N_first N_second N_number N_allowed N_at N_beside) s.heap.size)) g
theorem kvX1_postAt : CalV RX1 yX1_postAt cX1_postAt 3 (some .int) 1 := ⟨wC_yX1_postAt, wM_yX1_postAt, wS_yX1_postAt, wI_RX1, by decide +kernel⟩
set_option maxHeartbeats 4000000 in
set_option maxRecDepth 100000 in
theorem kX1_postAt (l : Launch) (D : va_G) (cI cJ cZ : ClassId) (f0 f1 n0 n1 n2 n3 n4 n5 n6 : Nat) (F_hub : Int32) (F_size : Int32) (F_road : Nat → Int32) (N_postCount : Int32) (N_roadCount : Int32) (N_first : Nat → Int32) (N_second : Nat → Int32) (N_number : Nat → Int32) (N_allowed : Nat → Int32) (N_at : Nat → Int32) (N_beside : Nat → Int32) (a1 : Int32) (out : Int32) (hf : FX1_postAt F_hub F_road N_first N_second a1 = some out) : MI l yX1_postAt (Cond.code yX1_postAt cX1_postAt 3 (some .int) :: GW) { frames := 0, cells := 0, slots := 0, locals := 0 } D cI cJ cZ [.ref f0, .int a1] (wF cI cJ cZ f0 f1 n0 n1 n2 n3 n4 n5 n6 F_hub F_size F_road N_postCount N_roadCount N_first N_second N_number N_allowed N_at N_beside) (fun r (_ : Unit) => r = out) (fun _ => (wF cI cJ cZ f0 f1 n0 n1 n2 n3 n4 n5 n6 F_hub F_size F_road N_postCount N_roadCount N_first N_second N_number N_allowed N_at N_beside)) := by
  intro sz
  refine Met.ofW (cc := cX1_postAt) (maxL := 3) (ret := (some .int)) (by decide +kernel) rfl ?_
  intro p e s m args below meth c s₁ B hml hv
  obtain ⟨rfl, hsz, hP, hK, hD0⟩ := hv
  have hx := B.exec
  have hb := B.bytes
  have hr := B.returns
  have hlocks := B.notSynchronized
  have hg : ∀ w ∈ GW, w.before _ s = true := fun w h => atoms_spec (ws := Cond.code yX1_postAt cX1_postAt 3 (some .int) :: GW) B.pre w (List.mem_cons_of_mem _ h)
  have hown : s.vm.findClass RX1 = some m.cls := findClass_of_methodNamed B.named
  subst hsz
  obtain ⟨A, hAe⟩ : ∃ A, A = va_A (wF cI cJ cZ f0 f1 n0 n1 n2 n3 n4 n5 n6 F_hub F_size F_road N_postCount N_roadCount N_first N_second N_number N_allowed N_at N_beside) s.heap.size := ⟨_, rfl⟩
  have hA : ∀ q : Nat, s.heap.size ≤ q → A q := fun q h => by rw [hAe]; exact Or.inr h
  have hI : WI D A s.heap (wF cI cJ cZ f0 f1 n0 n1 n2 n3 n4 n5 n6 F_hub F_size F_road N_postCount N_roadCount N_first N_second N_number N_allowed N_at N_beside) s.heap [] := ⟨hP, by rw [hAe]; exact hD0.self, va_S.rf⟩
  have hl := lv_entry [.ref f0, .int a1] (n := 3) (Nat.le_of_ble_eq_true rfl)
  rw [lg_entry_eq]
  generalize (lg_sl [.ref f0, .int a1] ++ List.replicate (3 - (lg_sl [.ref f0, .int a1]).length) Slot.unset).toArray = ls at hl ⊢
  replace hl : lv_has ls 3 [(0, .ref f0), (1, .int a1)] := hl
  obtain ⟨x, hf, hM⟩ : ∃ x, FX1_postAt F_hub F_road N_first N_second a1 = some x ∧ x = out := ⟨out, hf, rfl⟩
  refine lv_aload_n hx hb dX1_postAt_0 rfl (lv_at hl 0 rfl) ?_
  refine w_get hx hb hg hown hK hI iX1 0 rfl rfl 2 (by decide) wF_RX1_9 rfl dX1_postAt_1 ?_
  refine lv_iload_n hx hb dX1_postAt_4 rfl (lv_at hl 1 rfl) ?_
  obtain ⟨hin, hf⟩ := rd_e hf
  refine w_iald hx hb hK hI 1 rfl hin dX1_postAt_5 (fun x1 ex1 => ?_)
  replace hf := hf x1 ex1
  refine lv_istore_n (lv' := [(2, .int x1), (0, .ref f0), (1, .int a1)]) hx hb dX1_postAt_6 rfl hl (by decide) rfl (fun ls hl => ?_)
  refine lv_aload_n hx hb dX1_postAt_7 rfl (lv_at hl 1 rfl) ?_
  refine w_get hx hb hg hown hK hI iX1 0 rfl rfl 0 (by decide) wF_RX1_15 rfl dX1_postAt_8 ?_
  refine w_get hx hb hg hown hK hI iX3 2 rfl rfl 2 (by decide) wF_RX1_19 rfl dX1_postAt_11 ?_
  refine lv_iload_n hx hb dX1_postAt_14 rfl (lv_at hl 0 rfl) ?_
  obtain ⟨hin, hf⟩ := rd_e hf
  refine w_iald hx hb hK hI 3 rfl hin dX1_postAt_15 (fun x2 ex2 => ?_)
  replace hf := hf x2 ex2
  refine lv_aload_n hx hb dX1_postAt_16 rfl (lv_at hl 1 rfl) ?_
  refine w_get hx hb hg hown hK hI iX1 0 rfl rfl 1 (by decide) wF_RX1_24 rfl dX1_postAt_17 ?_
  refine lv_icmp_ne (tgt := 35) hx hb dX1_postAt_20 (by decide) (fun hc => ?_) (fun hc => ?_)
  · replace hf := ite_f hc hf
    refine lv_aload_n hx hb dX1_postAt_35 rfl (lv_at hl 1 rfl) ?_
    refine w_get hx hb hg hown hK hI iX1 0 rfl rfl 0 (by decide) wF_RX1_15 rfl dX1_postAt_36 ?_
    refine w_get hx hb hg hown hK hI iX3 2 rfl rfl 2 (by decide) wF_RX1_19 rfl dX1_postAt_39 ?_
    refine lv_iload_n hx hb dX1_postAt_42 rfl (lv_at hl 0 rfl) ?_
    obtain ⟨hin, hf⟩ := rd_e hf
    refine w_iald hx hb hK hI 3 rfl hin dX1_postAt_43 (fun x3 ex3 => ?_)
    replace hf := hf x3 ex3
    replace hf := Option.some.inj hf
    subst hf
    replace hM : x3 = out := hM
    subst hM
    exact rt_i (u := ()) hx hb hr hlocks rfl hI hAe rfl dX1_postAt_44
  · replace hf := ite_t hc hf
    refine lv_aload_n hx hb dX1_postAt_23 rfl (lv_at hl 1 rfl) ?_
    refine w_get hx hb hg hown hK hI iX1 0 rfl rfl 0 (by decide) wF_RX1_15 rfl dX1_postAt_24 ?_
    refine w_get hx hb hg hown hK hI iX3 2 rfl rfl 3 (by decide) wF_RX1_59 rfl dX1_postAt_27 ?_
    refine lv_iload_n hx hb dX1_postAt_30 rfl (lv_at hl 0 rfl) ?_
    obtain ⟨hin, hf⟩ := rd_e hf
    refine w_iald hx hb hK hI 4 rfl hin dX1_postAt_31 (fun x4 ex4 => ?_)
    replace hf := hf x4 ex4
    refine lv_goto (tgt := 44) hx hb dX1_postAt_32 (by decide) ?_
    replace hf := Option.some.inj hf
    subst hf
    replace hM : x4 = out := hM
    subst hM
    exact rt_i (u := ()) hx hb hr hlocks rfl hI hAe rfl dX1_postAt_44
noncomputable def X1_turn_J48 (F_size : Int32) (F_road : Nat → Int32) (N_number : Nat → Int32) (l1 : Int32) : Option ((Nat → Int32)) :=
  rd F_road 24 (F_size - (1 : Int32)) (fun x1 => wr N_number 24 x1 l1 (fun g2 => some g2))
noncomputable def X1_turn_L2 (F_size : Int32) (F_road : Nat → Int32) (l1 : Int32) (v : (Nat → Int32) × Int32) : Option (((Nat → Int32) × Int32) ⊕ ((Nat → Int32))) :=
  if (F_size - (1 : Int32)) ≤ v.2 then ((X1_turn_J48 F_size F_road v.1 l1).map (fun z => (.inr z))) else (rd F_road 24 v.2 (fun x3 => rd F_road 24 (v.2 + (1 : Int32)) (fun x4 => rd v.1 24 x4 (fun x5 => wr v.1 24 x3 x5 (fun g6 => bnd (v.2 + (1 : Int32)) (fun x7 => some (.inl (g6, x7))))))))
noncomputable def FX1_turn (F_size : Int32) (F_road : Nat → Int32) (N_number_0 : Nat → Int32) (a1 : Int32) : Option ((Nat → Int32)) :=
  loopO (X1_turn_L2 F_size F_road a1) (N_number_0, (0 : Int32))
abbrev GX1_turn (p : Program) (l : Launch) (e : Env) (s : State) (m : MethodId) (below : List Frame) (meth : Method) (c : Code) (D : va_G) (cI cJ cZ : ClassId) (f0 f1 n0 n1 n2 n3 n4 n5 n6 : Nat) (F_hub : Int32) (F_size : Int32) (F_road : Nat → Int32) (N_postCount : Int32) (N_roadCount : Int32) (N_first : Nat → Int32) (N_second : Nat → Int32) (N_number_0 : Nat → Int32) (N_allowed : Nat → Int32) (N_at : Nat → Int32) (N_beside : Nat → Int32) (a1 : Int32) (out : (Nat → Int32)) (H : Heap) (locs : List Loc) (g : JFrame) : Prop := W p l e (headSpec (Cond.code yX1_turn cX1_turn 3 none :: GW) { frames := 0, cells := 0, slots := 0, locals := 0 }).room s m ([.ref f0, .int a1] : List Value).toArray below meth c H locs 0 0 (MQ below (va_Qv (fun (_ : Unit) => True) (BW D (wF cI cJ cZ f0 f1 n0 n1 n2 n3 n4 n5 n6 F_hub F_size F_road N_postCount N_roadCount N_first N_second N_number_0 N_allowed N_at N_beside) s.heap.size (fun _ => (wF cI cJ cZ f0 f1 n0 n1 n2 n3 n4 n5 n6 F_hub F_size F_road N_postCount N_roadCount N_first N_second out N_allowed N_at N_beside))) (va_A (wF cI cJ cZ f0 f1 n0 n1 n2 n3 n4 n5 n6 F_hub F_size F_road N_postCount N_roadCount N_first N_second N_number_0 N_allowed N_at N_beside) s.heap.size)) ([.ref f0, .int a1] : List Value).toArray s 0 0 (va_A (wF cI cJ cZ f0 f1 n0 n1 n2 n3 n4 n5 n6 F_hub F_size F_road N_postCount N_roadCount N_first N_second N_number_0 N_allowed N_at N_beside) s.heap.size)) g
theorem kvX1_turn : CalV RX1 yX1_turn cX1_turn 3 none 1 := ⟨wC_yX1_turn, wM_yX1_turn, wS_yX1_turn, wI_RX1, by decide +kernel⟩
set_option maxHeartbeats 4000000 in
set_option maxRecDepth 100000 in
theorem kX1_turn (l : Launch) (D : va_G) (cI cJ cZ : ClassId) (f0 f1 n0 n1 n2 n3 n4 n5 n6 : Nat) (F_hub : Int32) (F_size : Int32) (F_road : Nat → Int32) (N_postCount : Int32) (N_roadCount : Int32) (N_first : Nat → Int32) (N_second : Nat → Int32) (N_number_0 : Nat → Int32) (N_allowed : Nat → Int32) (N_at : Nat → Int32) (N_beside : Nat → Int32) (a1 : Int32) (out : (Nat → Int32)) (hf : FX1_turn F_size F_road N_number_0 a1 = some out) : MV l yX1_turn (Cond.code yX1_turn cX1_turn 3 none :: GW) { frames := 0, cells := 0, slots := 0, locals := 0 } D cI cJ cZ [.ref f0, .int a1] (wF cI cJ cZ f0 f1 n0 n1 n2 n3 n4 n5 n6 F_hub F_size F_road N_postCount N_roadCount N_first N_second N_number_0 N_allowed N_at N_beside) (fun (_ : Unit) => True) (fun _ => (wF cI cJ cZ f0 f1 n0 n1 n2 n3 n4 n5 n6 F_hub F_size F_road N_postCount N_roadCount N_first N_second out N_allowed N_at N_beside)) := by
  intro sz
  refine Met.ofW (cc := cX1_turn) (maxL := 3) (ret := none) (by decide +kernel) rfl ?_
  intro p e s m args below meth c s₁ B hml hv
  obtain ⟨rfl, hsz, hP, hK, hD0⟩ := hv
  have hx := B.exec
  have hb := B.bytes
  have hr := B.returns
  have hlocks := B.notSynchronized
  have hg : ∀ w ∈ GW, w.before _ s = true := fun w h => atoms_spec (ws := Cond.code yX1_turn cX1_turn 3 none :: GW) B.pre w (List.mem_cons_of_mem _ h)
  have hown : s.vm.findClass RX1 = some m.cls := findClass_of_methodNamed B.named
  subst hsz
  obtain ⟨A, hAe⟩ : ∃ A, A = va_A (wF cI cJ cZ f0 f1 n0 n1 n2 n3 n4 n5 n6 F_hub F_size F_road N_postCount N_roadCount N_first N_second N_number_0 N_allowed N_at N_beside) s.heap.size := ⟨_, rfl⟩
  have hA : ∀ q : Nat, s.heap.size ≤ q → A q := fun q h => by rw [hAe]; exact Or.inr h
  have hI : WI D A s.heap (wF cI cJ cZ f0 f1 n0 n1 n2 n3 n4 n5 n6 F_hub F_size F_road N_postCount N_roadCount N_first N_second N_number_0 N_allowed N_at N_beside) s.heap [] := ⟨hP, by rw [hAe]; exact hD0.self, va_S.rf⟩
  have hl := lv_entry [.ref f0, .int a1] (n := 3) (Nat.le_of_ble_eq_true rfl)
  rw [lg_entry_eq]
  generalize (lg_sl [.ref f0, .int a1] ++ List.replicate (3 - (lg_sl [.ref f0, .int a1]).length) Slot.unset).toArray = ls at hl ⊢
  replace hl : lv_has ls 3 [(0, .ref f0), (1, .int a1)] := hl
  have J48 : ∀ (N_number : Nat → Int32) (l1 : Int32) (x : (Nat → Int32)), X1_turn_J48 F_size F_road N_number l1 = some x → (fun z : (Nat → Int32) => z = out) x → ∀ (H : Heap) (locs : List Loc) (ls : Array Slot), WI D A s.heap (wF cI cJ cZ f0 f1 n0 n1 n2 n3 n4 n5 n6 F_hub F_size F_road N_postCount N_roadCount N_first N_second N_number N_allowed N_at N_beside) H locs → lv_has ls 3 [(0, .ref f0), (1, .int l1)] → GX1_turn p l e s m below meth c D cI cJ cZ f0 f1 n0 n1 n2 n3 n4 n5 n6 F_hub F_size F_road N_postCount N_roadCount N_first N_second N_number_0 N_allowed N_at N_beside a1 out H locs (F0 m 48 ls []) := by
    intro N_number l1 x hf hM H locs ls hI hl
    refine lv_aload_n hx hb dX1_turn_48 rfl (lv_at hl 0 rfl) ?_
    refine w_get hx hb hg hown hK hI iX1 0 rfl rfl 0 (by decide) wF_RX1_15 rfl dX1_turn_49 ?_
    refine w_get hx hb hg hown hK hI iX3 2 rfl rfl 4 (by decide) wF_RX1_56 rfl dX1_turn_52 ?_
    refine lv_aload_n hx hb dX1_turn_55 rfl (lv_at hl 0 rfl) ?_
    refine w_get hx hb hg hown hK hI iX1 0 rfl rfl 2 (by decide) wF_RX1_9 rfl dX1_turn_56 ?_
    refine lv_aload_n hx hb dX1_turn_59 rfl (lv_at hl 0 rfl) ?_
    refine w_get hx hb hg hown hK hI iX1 0 rfl rfl 3 (by decide) wF_RX1_28 rfl dX1_turn_60 ?_
    refine lv_iconst (v := 1) hx hb dX1_turn_63 (by decide) ?_
    refine lv_isub hx hb dX1_turn_64 ?_
    obtain ⟨hin, hf⟩ := rd_e hf
    refine w_iald hx hb hK hI 1 rfl hin dX1_turn_65 (fun x1 ex1 => ?_)
    replace hf := hf x1 ex1
    refine lv_iload_n hx hb dX1_turn_66 rfl (lv_at hl 1 rfl) ?_
    obtain ⟨hin, hf⟩ := wr_e hf
    obtain ⟨g2, eg2⟩ : ∃ g : Nat → Int32, g = upd N_number (x1).toNatClampNeg l1 := ⟨_, rfl⟩
    replace hf := hf g2 eg2
    refine w_iast (g := g2) (W1 := (wF cI cJ cZ f0 f1 n0 n1 n2 n3 n4 n5 n6 F_hub F_size F_road N_postCount N_roadCount N_first N_second g2 N_allowed N_at N_beside)) hx hb hK hI 5 rfl hin eg2 dX1_turn_67 rfl (fun H locs hI => ?_)
    replace hf := Option.some.inj hf
    subst hf
    replace hM : g2 = out := hM
    subst hM
    exact rt_v (u := ()) hx hb hr hlocks hI hAe trivial dX1_turn_68
  have L2 : ∀ (l1 : Int32), ∀ (v : (Nat → Int32) × Int32) (x : (Nat → Int32)), loopO (X1_turn_L2 F_size F_road l1) v = some x → (fun z : (Nat → Int32) => z = out) x → (fun (v : (Nat → Int32) × Int32) => ∀ (H : Heap) (locs : List Loc) (ls : Array Slot), WI D A s.heap (wF cI cJ cZ f0 f1 n0 n1 n2 n3 n4 n5 n6 F_hub F_size F_road N_postCount N_roadCount N_first N_second v.1 N_allowed N_at N_beside) H locs → lv_has ls 3 [(0, .ref f0), (1, .int l1), (2, .int v.2)] → GX1_turn p l e s m below meth c D cI cJ cZ f0 f1 n0 n1 n2 n3 n4 n5 n6 F_hub F_size F_road N_postCount N_roadCount N_first N_second N_number_0 N_allowed N_at N_beside a1 out H locs (F0 m 2 ls [])) v := by
    intro l1
    refine loopO_ind (fun (v : (Nat → Int32) × Int32) => ∀ (H : Heap) (locs : List Loc) (ls : Array Slot), WI D A s.heap (wF cI cJ cZ f0 f1 n0 n1 n2 n3 n4 n5 n6 F_hub F_size F_road N_postCount N_roadCount N_first N_second v.1 N_allowed N_at N_beside) H locs → lv_has ls 3 [(0, .ref f0), (1, .int l1), (2, .int v.2)] → GX1_turn p l e s m below meth c D cI cJ cZ f0 f1 n0 n1 n2 n3 n4 n5 n6 F_hub F_size F_road N_postCount N_roadCount N_first N_second N_number_0 N_allowed N_at N_beside a1 out H locs (F0 m 2 ls [])) (fun z : (Nat → Int32) => z = out) ?_
    intro v x hf hM H locs ls hI hl
    refine lv_iload_n hx hb dX1_turn_2 rfl (lv_at hl 2 rfl) ?_
    refine lv_aload_n hx hb dX1_turn_3 rfl (lv_at hl 0 rfl) ?_
    refine w_get hx hb hg hown hK hI iX1 0 rfl rfl 3 (by decide) wF_RX1_28 rfl dX1_turn_4 ?_
    refine lv_iconst (v := 1) hx hb dX1_turn_7 (by decide) ?_
    refine lv_isub hx hb dX1_turn_8 ?_
    refine lv_icmp_ge (tgt := 48) hx hb dX1_turn_9 (by decide) (fun hc => ?_) (fun hc => ?_)
    · replace hf := ite_t hc hf
      obtain ⟨z, hf2, ez⟩ := mp_e hf
      clear hf
      subst ez
      exact J48 v.1 l1 _ hf2 hM _ _ _ hI (lv_sub hl [0, 1] rfl)
    · replace hf := ite_f hc hf
      refine lv_aload_n hx hb dX1_turn_12 rfl (lv_at hl 0 rfl) ?_
      refine w_get hx hb hg hown hK hI iX1 0 rfl rfl 0 (by decide) wF_RX1_15 rfl dX1_turn_13 ?_
      refine w_get hx hb hg hown hK hI iX3 2 rfl rfl 4 (by decide) wF_RX1_56 rfl dX1_turn_16 ?_
      refine lv_aload_n hx hb dX1_turn_19 rfl (lv_at hl 0 rfl) ?_
      refine w_get hx hb hg hown hK hI iX1 0 rfl rfl 2 (by decide) wF_RX1_9 rfl dX1_turn_20 ?_
      refine lv_iload_n hx hb dX1_turn_23 rfl (lv_at hl 2 rfl) ?_
      obtain ⟨hin, hf⟩ := rd_e hf
      refine w_iald hx hb hK hI 1 rfl hin dX1_turn_24 (fun x3 ex3 => ?_)
      replace hf := hf x3 ex3
      refine lv_aload_n hx hb dX1_turn_25 rfl (lv_at hl 0 rfl) ?_
      refine w_get hx hb hg hown hK hI iX1 0 rfl rfl 0 (by decide) wF_RX1_15 rfl dX1_turn_26 ?_
      refine w_get hx hb hg hown hK hI iX3 2 rfl rfl 4 (by decide) wF_RX1_56 rfl dX1_turn_29 ?_
      refine lv_aload_n hx hb dX1_turn_32 rfl (lv_at hl 0 rfl) ?_
      refine w_get hx hb hg hown hK hI iX1 0 rfl rfl 2 (by decide) wF_RX1_9 rfl dX1_turn_33 ?_
      refine lv_iload_n hx hb dX1_turn_36 rfl (lv_at hl 2 rfl) ?_
      refine lv_iconst (v := 1) hx hb dX1_turn_37 (by decide) ?_
      refine lv_iadd hx hb dX1_turn_38 ?_
      obtain ⟨hin, hf⟩ := rd_e hf
      refine w_iald hx hb hK hI 1 rfl hin dX1_turn_39 (fun x4 ex4 => ?_)
      replace hf := hf x4 ex4
      obtain ⟨hin, hf⟩ := rd_e hf
      refine w_iald hx hb hK hI 5 rfl hin dX1_turn_40 (fun x5 ex5 => ?_)
      replace hf := hf x5 ex5
      obtain ⟨hin, hf⟩ := wr_e hf
      obtain ⟨g6, eg6⟩ : ∃ g : Nat → Int32, g = upd v.1 (x3).toNatClampNeg x5 := ⟨_, rfl⟩
      replace hf := hf g6 eg6
      refine w_iast (g := g6) (W1 := (wF cI cJ cZ f0 f1 n0 n1 n2 n3 n4 n5 n6 F_hub F_size F_road N_postCount N_roadCount N_first N_second g6 N_allowed N_at N_beside)) hx hb hK hI 5 rfl hin eg6 dX1_turn_41 rfl (fun H locs hI => ?_)
      obtain ⟨x7, ex7⟩ : ∃ y : Int32, y = (v.2 + (1 : Int32)) := ⟨_, rfl⟩
      replace hf := bnd_e hf x7 ex7
      refine lv_iinc (v := x7) (lv' := [(2, .int x7), (0, .ref f0), (1, .int l1)]) hx hb dX1_turn_42 hl (k := 2) rfl (by rw [ex7]; rfl) (by decide) rfl (fun ls hl => ?_)
      refine lv_goto (tgt := 2) hx hb dX1_turn_45 (by decide) ?_
      replace hf := Option.some.inj hf
      subst hf
      exact hM _ _ _ hI (lv_sub hl [1, 2, 0] rfl)
  obtain ⟨x, hf, hM⟩ : ∃ x, FX1_turn F_size F_road N_number_0 a1 = some x ∧ x = out := ⟨out, hf, rfl⟩
  refine lv_iconst (v := 0) hx hb dX1_turn_0 (by decide) ?_
  refine lv_istore_n (lv' := [(2, .int (0 : Int32)), (0, .ref f0), (1, .int a1)]) hx hb dX1_turn_1 rfl hl (by decide) rfl (fun ls hl => ?_)
  exact L2 a1 (N_number_0, (0 : Int32)) _ hf hM _ _ _ hI (lv_sub hl [1, 2, 0] rfl)
noncomputable def X1_placeInFan_L2 (F_size : Int32) (F_road : Nat → Int32) (l1 : Int32) (v : Int32) : Option ((Int32) ⊕ (Int32)) :=
  if F_size ≤ v then (some (.inr (-1 : Int32))) else (rd F_road 24 v (fun x1 => if x1 = l1 then (some (.inr v)) else (bnd (v + (1 : Int32)) (fun x2 => some (.inl x2)))))
noncomputable def FX1_placeInFan (F_size : Int32) (F_road : Nat → Int32) (a1 : Int32) : Option (Int32) :=
  loopO (X1_placeInFan_L2 F_size F_road a1) (0 : Int32)
abbrev GX1_placeInFan (p : Program) (l : Launch) (e : Env) (s : State) (m : MethodId) (below : List Frame) (meth : Method) (c : Code) (D : va_G) (cI cJ cZ : ClassId) (f0 f1 n0 n1 n2 n3 n4 n5 n6 : Nat) (F_hub : Int32) (F_size : Int32) (F_road : Nat → Int32) (N_postCount : Int32) (N_roadCount : Int32) (N_first : Nat → Int32) (N_second : Nat → Int32) (N_number : Nat → Int32) (N_allowed : Nat → Int32) (N_at : Nat → Int32) (N_beside : Nat → Int32) (a1 : Int32) (out : Int32) (H : Heap) (locs : List Loc) (g : JFrame) : Prop := W p l e (headSpec (Cond.code yX1_placeInFan cX1_placeInFan 3 (some .int) :: GW) { frames := 0, cells := 0, slots := 0, locals := 0 }).room s m ([.ref f0, .int a1] : List Value).toArray below meth c H locs 0 0 (MQ below (va_Qi (fun r (_ : Unit) => r = out) (BW D (wF cI cJ cZ f0 f1 n0 n1 n2 n3 n4 n5 n6 F_hub F_size F_road N_postCount N_roadCount N_first N_second N_number N_allowed N_at N_beside) s.heap.size (fun _ => (wF cI cJ cZ f0 f1 n0 n1 n2 n3 n4 n5 n6 F_hub F_size F_road N_postCount N_roadCount N_first N_second N_number N_allowed N_at N_beside))) (va_A (wF cI cJ cZ f0 f1 n0 n1 n2 n3 n4 n5 n6 F_hub F_size F_road N_postCount N_roadCount N_first N_second N_number N_allowed N_at N_beside) s.heap.size)) ([.ref f0, .int a1] : List Value).toArray s 0 0 (va_A (wF cI cJ cZ f0 f1 n0 n1 n2 n3 n4 n5 n6 F_hub F_size F_road N_postCount N_roadCount N_first N_second N_number N_allowed N_at N_beside) s.heap.size)) g
theorem kvX1_placeInFan : CalV RX1 yX1_placeInFan cX1_placeInFan 3 (some .int) 1 := ⟨wC_yX1_placeInFan, wM_yX1_placeInFan, wS_yX1_placeInFan, wI_RX1, by decide +kernel⟩
set_option maxHeartbeats 4000000 in
set_option maxRecDepth 100000 in
theorem kX1_placeInFan (l : Launch) (D : va_G) (cI cJ cZ : ClassId) (f0 f1 n0 n1 n2 n3 n4 n5 n6 : Nat) (F_hub : Int32) (F_size : Int32) (F_road : Nat → Int32) (N_postCount : Int32) (N_roadCount : Int32) (N_first : Nat → Int32) (N_second : Nat → Int32) (N_number : Nat → Int32) (N_allowed : Nat → Int32) (N_at : Nat → Int32) (N_beside : Nat → Int32) (a1 : Int32) (out : Int32) (hf : FX1_placeInFan F_size F_road a1 = some out) : MI l yX1_placeInFan (Cond.code yX1_placeInFan cX1_placeInFan 3 (some .int) :: GW) { frames := 0, cells := 0, slots := 0, locals := 0 } D cI cJ cZ [.ref f0, .int a1] (wF cI cJ cZ f0 f1 n0 n1 n2 n3 n4 n5 n6 F_hub F_size F_road N_postCount N_roadCount N_first N_second N_number N_allowed N_at N_beside) (fun r (_ : Unit) => r = out) (fun _ => (wF cI cJ cZ f0 f1 n0 n1 n2 n3 n4 n5 n6 F_hub F_size F_road N_postCount N_roadCount N_first N_second N_number N_allowed N_at N_beside)) := by
  intro sz
  refine Met.ofW (cc := cX1_placeInFan) (maxL := 3) (ret := (some .int)) (by decide +kernel) rfl ?_
  intro p e s m args below meth c s₁ B hml hv
  obtain ⟨rfl, hsz, hP, hK, hD0⟩ := hv
  have hx := B.exec
  have hb := B.bytes
  have hr := B.returns
  have hlocks := B.notSynchronized
  have hg : ∀ w ∈ GW, w.before _ s = true := fun w h => atoms_spec (ws := Cond.code yX1_placeInFan cX1_placeInFan 3 (some .int) :: GW) B.pre w (List.mem_cons_of_mem _ h)
  have hown : s.vm.findClass RX1 = some m.cls := findClass_of_methodNamed B.named
  subst hsz
  obtain ⟨A, hAe⟩ : ∃ A, A = va_A (wF cI cJ cZ f0 f1 n0 n1 n2 n3 n4 n5 n6 F_hub F_size F_road N_postCount N_roadCount N_first N_second N_number N_allowed N_at N_beside) s.heap.size := ⟨_, rfl⟩
  have hA : ∀ q : Nat, s.heap.size ≤ q → A q := fun q h => by rw [hAe]; exact Or.inr h
  have hI : WI D A s.heap (wF cI cJ cZ f0 f1 n0 n1 n2 n3 n4 n5 n6 F_hub F_size F_road N_postCount N_roadCount N_first N_second N_number N_allowed N_at N_beside) s.heap [] := ⟨hP, by rw [hAe]; exact hD0.self, va_S.rf⟩
  have hl := lv_entry [.ref f0, .int a1] (n := 3) (Nat.le_of_ble_eq_true rfl)
  rw [lg_entry_eq]
  generalize (lg_sl [.ref f0, .int a1] ++ List.replicate (3 - (lg_sl [.ref f0, .int a1]).length) Slot.unset).toArray = ls at hl ⊢
  replace hl : lv_has ls 3 [(0, .ref f0), (1, .int a1)] := hl
  have L2 : ∀ (l1 : Int32), ∀ (v : Int32) (x : Int32), loopO (X1_placeInFan_L2 F_size F_road l1) v = some x → (fun z : Int32 => z = out) x → (fun (v : Int32) => ∀ (H : Heap) (locs : List Loc) (ls : Array Slot), WI D A s.heap (wF cI cJ cZ f0 f1 n0 n1 n2 n3 n4 n5 n6 F_hub F_size F_road N_postCount N_roadCount N_first N_second N_number N_allowed N_at N_beside) H locs → lv_has ls 3 [(0, .ref f0), (1, .int l1), (2, .int v)] → GX1_placeInFan p l e s m below meth c D cI cJ cZ f0 f1 n0 n1 n2 n3 n4 n5 n6 F_hub F_size F_road N_postCount N_roadCount N_first N_second N_number N_allowed N_at N_beside a1 out H locs (F0 m 2 ls [])) v := by
    intro l1
    refine loopO_ind (fun (v : Int32) => ∀ (H : Heap) (locs : List Loc) (ls : Array Slot), WI D A s.heap (wF cI cJ cZ f0 f1 n0 n1 n2 n3 n4 n5 n6 F_hub F_size F_road N_postCount N_roadCount N_first N_second N_number N_allowed N_at N_beside) H locs → lv_has ls 3 [(0, .ref f0), (1, .int l1), (2, .int v)] → GX1_placeInFan p l e s m below meth c D cI cJ cZ f0 f1 n0 n1 n2 n3 n4 n5 n6 F_hub F_size F_road N_postCount N_roadCount N_first N_second N_number N_allowed N_at N_beside a1 out H locs (F0 m 2 ls [])) (fun z : Int32 => z = out) ?_
    intro v x hf hM H locs ls hI hl
    refine lv_iload_n hx hb dX1_placeInFan_2 rfl (lv_at hl 2 rfl) ?_
    refine lv_aload_n hx hb dX1_placeInFan_3 rfl (lv_at hl 0 rfl) ?_
    refine w_get hx hb hg hown hK hI iX1 0 rfl rfl 3 (by decide) wF_RX1_28 rfl dX1_placeInFan_4 ?_
    refine lv_icmp_ge (tgt := 28) hx hb dX1_placeInFan_7 (by decide) (fun hc => ?_) (fun hc => ?_)
    · replace hf := ite_t hc hf
      refine lv_iconst (v := -1) hx hb dX1_placeInFan_28 (by decide) ?_
      replace hf := Option.some.inj hf
      subst hf
      replace hM : (-1 : Int32) = out := hM
      subst hM
      exact rt_i (u := ()) hx hb hr hlocks rfl hI hAe rfl dX1_placeInFan_29
    · replace hf := ite_f hc hf
      refine lv_aload_n hx hb dX1_placeInFan_10 rfl (lv_at hl 0 rfl) ?_
      refine w_get hx hb hg hown hK hI iX1 0 rfl rfl 2 (by decide) wF_RX1_9 rfl dX1_placeInFan_11 ?_
      refine lv_iload_n hx hb dX1_placeInFan_14 rfl (lv_at hl 2 rfl) ?_
      obtain ⟨hin, hf⟩ := rd_e hf
      refine w_iald hx hb hK hI 1 rfl hin dX1_placeInFan_15 (fun x1 ex1 => ?_)
      replace hf := hf x1 ex1
      refine lv_iload_n hx hb dX1_placeInFan_16 rfl (lv_at hl 1 rfl) ?_
      refine lv_icmp_ne (tgt := 22) hx hb dX1_placeInFan_17 (by decide) (fun hc => ?_) (fun hc => ?_)
      · replace hf := ite_f hc hf
        obtain ⟨x2, ex2⟩ : ∃ y : Int32, y = (v + (1 : Int32)) := ⟨_, rfl⟩
        replace hf := bnd_e hf x2 ex2
        refine lv_iinc (v := x2) (lv' := [(2, .int x2), (0, .ref f0), (1, .int l1)]) hx hb dX1_placeInFan_22 hl (k := 2) rfl (by rw [ex2]; rfl) (by decide) rfl (fun ls hl => ?_)
        refine lv_goto (tgt := 2) hx hb dX1_placeInFan_25 (by decide) ?_
        replace hf := Option.some.inj hf
        subst hf
        exact hM _ _ _ hI (lv_sub hl [1, 2, 0] rfl)
      · replace hf := ite_t hc hf
        refine lv_iload_n hx hb dX1_placeInFan_20 rfl (lv_at hl 2 rfl) ?_
        replace hf := Option.some.inj hf
        subst hf
        replace hM : v = out := hM
        subst hM
        exact rt_i (u := ()) hx hb hr hlocks rfl hI hAe rfl dX1_placeInFan_21
  obtain ⟨x, hf, hM⟩ : ∃ x, FX1_placeInFan F_size F_road a1 = some x ∧ x = out := ⟨out, hf, rfl⟩
  refine lv_iconst (v := 0) hx hb dX1_placeInFan_0 (by decide) ?_
  refine lv_istore_n (lv' := [(2, .int (0 : Int32)), (0, .ref f0), (1, .int a1)]) hx hb dX1_placeInFan_1 rfl hl (by decide) rfl (fun ls hl => ?_)
  exact L2 a1 (0 : Int32) _ hf hM _ _ _ hI (lv_sub hl [1, 2, 0] rfl)
noncomputable def X1_swapAndTurn_J66 (F_size : Int32) (F_road : Nat → Int32) (N_number : Nat → Int32) (l2 : Int32) : Option (Int32 × (Nat → Int32)) :=
  (FX1_turn F_size F_road N_number l2).bind (fun o6 => some (F_size, o6))
noncomputable def X1_swapAndTurn_J43 (F_size : Int32) (F_road : Nat → Int32) (N_roadCount : Int32) (N_number : Nat → Int32) (l1 : Int32) (l2 : Int32) (l3 : Int32) (l4 : Int32) (s0 : Int32) : Option (Int32 × (Nat → Int32)) :=
  (FX3_exchange N_roadCount N_number l4 l2 l3).bind (fun o5 => if s0 = (0 : Int32) then (X1_swapAndTurn_J66 l1 F_road o5 l2) else (X1_swapAndTurn_J66 F_size F_road o5 l2))
noncomputable def FX1_swapAndTurn (F_hub : Int32) (F_size_0 : Int32) (F_road : Nat → Int32) (N_roadCount : Int32) (N_first : Nat → Int32) (N_second : Nat → Int32) (N_number_0 : Nat → Int32) (N_at : Nat → Int32) (N_beside : Nat → Int32) (a1 : Int32) (a2 : Int32) (a3 : Int32) : Option (Int32 × (Nat → Int32)) :=
  rd F_road 24 a1 (fun x1 => (FX3_chainOf N_roadCount N_number_0 N_beside x1 a2 a3).bind (fun o2 => (FX1_postAt F_hub F_road N_first N_second (a1 - (1 : Int32))).bind (fun o3 => rd N_at 12 o3 (fun x4 => if (o2 &&& x4) = (0 : Int32) then (X1_swapAndTurn_J43 F_size_0 F_road N_roadCount N_number_0 a1 a2 a3 o2 (0 : Int32)) else (X1_swapAndTurn_J43 F_size_0 F_road N_roadCount N_number_0 a1 a2 a3 o2 (1 : Int32))))))
abbrev GX1_swapAndTurn (p : Program) (l : Launch) (e : Env) (s : State) (m : MethodId) (below : List Frame) (meth : Method) (c : Code) (D : va_G) (cI cJ cZ : ClassId) (f0 f1 n0 n1 n2 n3 n4 n5 n6 : Nat) (F_hub : Int32) (F_size_0 : Int32) (F_road : Nat → Int32) (N_postCount : Int32) (N_roadCount : Int32) (N_first : Nat → Int32) (N_second : Nat → Int32) (N_number_0 : Nat → Int32) (N_allowed : Nat → Int32) (N_at : Nat → Int32) (N_beside : Nat → Int32) (a1 : Int32) (a2 : Int32) (a3 : Int32) (out : Int32 × (Nat → Int32)) (H : Heap) (locs : List Loc) (g : JFrame) : Prop := W p l e (headSpec (Cond.code yX1_swapAndTurn cX1_swapAndTurn 6 none :: GW) { frames := 3, cells := 0, slots := 0, locals := 71 }).room s m ([.ref f0, .int a1, .int a2, .int a3] : List Value).toArray below meth c H locs 0 0 (MQ below (va_Qv (fun (_ : Unit) => True) (BW D (wF cI cJ cZ f0 f1 n0 n1 n2 n3 n4 n5 n6 F_hub F_size_0 F_road N_postCount N_roadCount N_first N_second N_number_0 N_allowed N_at N_beside) s.heap.size (fun _ => (wF cI cJ cZ f0 f1 n0 n1 n2 n3 n4 n5 n6 F_hub out.1 F_road N_postCount N_roadCount N_first N_second out.2 N_allowed N_at N_beside))) (va_A (wF cI cJ cZ f0 f1 n0 n1 n2 n3 n4 n5 n6 F_hub F_size_0 F_road N_postCount N_roadCount N_first N_second N_number_0 N_allowed N_at N_beside) s.heap.size)) ([.ref f0, .int a1, .int a2, .int a3] : List Value).toArray s 0 0 (va_A (wF cI cJ cZ f0 f1 n0 n1 n2 n3 n4 n5 n6 F_hub F_size_0 F_road N_postCount N_roadCount N_first N_second N_number_0 N_allowed N_at N_beside) s.heap.size)) g
theorem kvX1_swapAndTurn : CalV RX1 yX1_swapAndTurn cX1_swapAndTurn 6 none 3 := ⟨wC_yX1_swapAndTurn, wM_yX1_swapAndTurn, wS_yX1_swapAndTurn, wI_RX1, by decide +kernel⟩
set_option maxHeartbeats 4000000 in
set_option maxRecDepth 100000 in
theorem kX1_swapAndTurn (l : Launch) (D : va_G) (cI cJ cZ : ClassId) (f0 f1 n0 n1 n2 n3 n4 n5 n6 : Nat) (F_hub : Int32) (F_size_0 : Int32) (F_road : Nat → Int32) (N_postCount : Int32) (N_roadCount : Int32) (N_first : Nat → Int32) (N_second : Nat → Int32) (N_number_0 : Nat → Int32) (N_allowed : Nat → Int32) (N_at : Nat → Int32) (N_beside : Nat → Int32) (a1 : Int32) (a2 : Int32) (a3 : Int32) (out : Int32 × (Nat → Int32)) (hf : FX1_swapAndTurn F_hub F_size_0 F_road N_roadCount N_first N_second N_number_0 N_at N_beside a1 a2 a3 = some out) : MV l yX1_swapAndTurn (Cond.code yX1_swapAndTurn cX1_swapAndTurn 6 none :: GW) { frames := 3, cells := 0, slots := 0, locals := 71 } D cI cJ cZ [.ref f0, .int a1, .int a2, .int a3] (wF cI cJ cZ f0 f1 n0 n1 n2 n3 n4 n5 n6 F_hub F_size_0 F_road N_postCount N_roadCount N_first N_second N_number_0 N_allowed N_at N_beside) (fun (_ : Unit) => True) (fun _ => (wF cI cJ cZ f0 f1 n0 n1 n2 n3 n4 n5 n6 F_hub out.1 F_road N_postCount N_roadCount N_first N_second out.2 N_allowed N_at N_beside)) := by
  intro sz
  refine Met.ofW (cc := cX1_swapAndTurn) (maxL := 6) (ret := none) (by decide +kernel) rfl ?_
  intro p e s m args below meth c s₁ B hml hv
  obtain ⟨rfl, hsz, hP, hK, hD0⟩ := hv
  have hx := B.exec
  have hb := B.bytes
  have hr := B.returns
  have hlocks := B.notSynchronized
  have hg : ∀ w ∈ GW, w.before _ s = true := fun w h => atoms_spec (ws := Cond.code yX1_swapAndTurn cX1_swapAndTurn 6 none :: GW) B.pre w (List.mem_cons_of_mem _ h)
  have hown : s.vm.findClass RX1 = some m.cls := findClass_of_methodNamed B.named
  subst hsz
  obtain ⟨A, hAe⟩ : ∃ A, A = va_A (wF cI cJ cZ f0 f1 n0 n1 n2 n3 n4 n5 n6 F_hub F_size_0 F_road N_postCount N_roadCount N_first N_second N_number_0 N_allowed N_at N_beside) s.heap.size := ⟨_, rfl⟩
  have hA : ∀ q : Nat, s.heap.size ≤ q → A q := fun q h => by rw [hAe]; exact Or.inr h
  have hI : WI D A s.heap (wF cI cJ cZ f0 f1 n0 n1 n2 n3 n4 n5 n6 F_hub F_size_0 F_road N_postCount N_roadCount N_first N_second N_number_0 N_allowed N_at N_beside) s.heap [] := ⟨hP, by rw [hAe]; exact hD0.self, va_S.rf⟩
  have hl := lv_entry [.ref f0, .int a1, .int a2, .int a3] (n := 6) (Nat.le_of_ble_eq_true rfl)
  rw [lg_entry_eq]
  generalize (lg_sl [.ref f0, .int a1, .int a2, .int a3] ++ List.replicate (6 - (lg_sl [.ref f0, .int a1, .int a2, .int a3]).length) Slot.unset).toArray = ls at hl ⊢
  replace hl : lv_has ls 6 [(0, .ref f0), (1, .int a1), (2, .int a2), (3, .int a3)] := hl
  have J66 : ∀ (F_size : Int32) (N_number : Nat → Int32) (l2 : Int32) (x : Int32 × (Nat → Int32)), X1_swapAndTurn_J66 F_size F_road N_number l2 = some x → (fun z : Int32 × (Nat → Int32) => z = out) x → ∀ (H : Heap) (locs : List Loc) (ls : Array Slot), WI D A s.heap (wF cI cJ cZ f0 f1 n0 n1 n2 n3 n4 n5 n6 F_hub F_size F_road N_postCount N_roadCount N_first N_second N_number N_allowed N_at N_beside) H locs → lv_has ls 6 [(0, .ref f0), (2, .int l2)] → GX1_swapAndTurn p l e s m below meth c D cI cJ cZ f0 f1 n0 n1 n2 n3 n4 n5 n6 F_hub F_size_0 F_road N_postCount N_roadCount N_first N_second N_number_0 N_allowed N_at N_beside a1 a2 a3 out H locs (F0 m 66 ls []) := by
    intro F_size N_number l2 x hf hM H locs ls hI hl
    refine lv_aload_n hx hb dX1_swapAndTurn_66 rfl (lv_at hl 0 rfl) ?_
    refine lv_iload_n hx hb dX1_swapAndTurn_67 rfl (lv_at hl 1 rfl) ?_
    obtain ⟨o6, ho6, hf⟩ := bd_e hf
    refine w_Vv0 (wc := (wF cI cJ cZ f0 f1 n0 n1 n2 n3 n4 n5 n6 F_hub F_size F_road N_postCount N_roadCount N_first N_second N_number N_allowed N_at N_beside)) (wr := []) (rest := []) hx hb hml hg hown hK hA hI (kX1_turn l D cI cJ cZ f0 f1 n0 n1 n2 n3 n4 n5 n6 F_hub F_size F_road N_postCount N_roadCount N_first N_second N_number N_allowed N_at N_beside l2 o6 ho6) kvX1_turn wL_RX1_42 ⟨Nat.le_of_ble_eq_true rfl, Nat.le_of_ble_eq_true rfl⟩ rfl rfl [0, 1, 2, 3, 4, 5, 6, 7, 8] [] rfl rfl rfl rfl (by decide) rfl rfl hl.1 (Nat.le_of_ble_eq_true rfl) dX1_swapAndTurn_68 ⟨Nat.zero_le _, Nat.zero_le _⟩ ⟨rfl, rfl⟩ (fun  u H locs hp hI => ?_)
    replace hI : WI D A s.heap (wF cI cJ cZ f0 f1 n0 n1 n2 n3 n4 n5 n6 F_hub F_size F_road N_postCount N_roadCount N_first N_second o6 N_allowed N_at N_beside) H locs := hI
    replace hf := Option.some.inj hf
    subst hf
    replace hM : (F_size, o6) = out := hM
    subst hM
    exact rt_v (u := ()) hx hb hr hlocks hI hAe trivial dX1_swapAndTurn_71
  have J43 : ∀ (F_size : Int32) (N_number : Nat → Int32) (l1 : Int32) (l2 : Int32) (l3 : Int32) (l4 : Int32) (s0 : Int32) (x : Int32 × (Nat → Int32)), X1_swapAndTurn_J43 F_size F_road N_roadCount N_number l1 l2 l3 l4 s0 = some x → (fun z : Int32 × (Nat → Int32) => z = out) x → ∀ (H : Heap) (locs : List Loc) (ls : Array Slot), WI D A s.heap (wF cI cJ cZ f0 f1 n0 n1 n2 n3 n4 n5 n6 F_hub F_size F_road N_postCount N_roadCount N_first N_second N_number N_allowed N_at N_beside) H locs → lv_has ls 6 [(0, .ref f0), (1, .int l1), (2, .int l2), (3, .int l3), (4, .int l4)] → GX1_swapAndTurn p l e s m below meth c D cI cJ cZ f0 f1 n0 n1 n2 n3 n4 n5 n6 F_hub F_size_0 F_road N_postCount N_roadCount N_first N_second N_number_0 N_allowed N_at N_beside a1 a2 a3 out H locs (F0 m 43 ls [.int s0]) := by
    intro F_size N_number l1 l2 l3 l4 s0 x hf hM H locs ls hI hl
    refine lv_istore (lv' := [(5, .int s0), (0, .ref f0), (1, .int l1), (2, .int l2), (3, .int l3), (4, .int l4)]) hx hb dX1_swapAndTurn_43 hl (by decide) rfl (fun ls hl => ?_)
    refine lv_aload_n hx hb dX1_swapAndTurn_45 rfl (lv_at hl 1 rfl) ?_
    refine w_get hx hb hg hown hK hI iX1 0 rfl rfl 0 (by decide) wF_RX1_15 rfl dX1_swapAndTurn_46 ?_
    refine lv_iload hx hb dX1_swapAndTurn_49 (lv_at hl 5 rfl) ?_
    refine lv_iload_n hx hb dX1_swapAndTurn_51 rfl (lv_at hl 3 rfl) ?_
    refine lv_iload_n hx hb dX1_swapAndTurn_52 rfl (lv_at hl 4 rfl) ?_
    obtain ⟨o5, ho5, hf⟩ := bd_e hf
    refine w_Vv0 (wc := (wN cI cJ cZ n0 n1 n2 n3 n4 n5 n6 N_postCount N_roadCount N_first N_second N_number N_allowed N_at N_beside)) (wr := [(f0, .inr (1, [.ref n0, .int F_hub, .ref f1, .int F_size])), (f1, .inl (cI, 24, .inl F_road))]) (rest := []) hx hb hml hg hown hK hA hI (kX3_exchange l D cI cJ cZ n0 n1 n2 n3 n4 n5 n6 N_postCount N_roadCount N_first N_second N_number N_allowed N_at N_beside l4 l2 l3 o5 ho5) kvX3_exchange wL_RX1_69 ⟨Nat.le_of_ble_eq_true rfl, Nat.le_of_ble_eq_true rfl⟩ rfl rfl [2, 3, 4, 5, 6, 7, 8] [0, 1] rfl rfl rfl rfl (by decide) rfl rfl hl.1 (Nat.le_of_ble_eq_true rfl) dX1_swapAndTurn_53 ⟨Nat.zero_le _, Nat.zero_le _⟩ ⟨rfl, rfl⟩ (fun  u H locs hp hI => ?_)
    replace hI : WI D A s.heap (wF cI cJ cZ f0 f1 n0 n1 n2 n3 n4 n5 n6 F_hub F_size F_road N_postCount N_roadCount N_first N_second o5 N_allowed N_at N_beside) H locs := hI
    refine lv_iload hx hb dX1_swapAndTurn_56 (lv_at hl 0 rfl) ?_
    refine lv_if_ne (tgt := 66) hx hb dX1_swapAndTurn_58 (by decide) (fun hc => ?_) (fun hc => ?_)
    · replace hf := ite_f hc hf
      exact J66 F_size o5 l2 _ hf hM _ _ _ hI (lv_sub hl [1, 3] rfl)
    · replace hf := ite_t hc hf
      refine lv_aload_n hx hb dX1_swapAndTurn_61 rfl (lv_at hl 1 rfl) ?_
      refine lv_iload_n hx hb dX1_swapAndTurn_62 rfl (lv_at hl 2 rfl) ?_
      refine w_put (W1 := (wF cI cJ cZ f0 f1 n0 n1 n2 n3 n4 n5 n6 F_hub l1 F_road N_postCount N_roadCount N_first N_second o5 N_allowed N_at N_beside)) hx hb hg hown hK hI iX1 tyX1 tyX1_ok nmX1 0 rfl rfl 3 (by decide) wF_RX1_28 rfl (tyX1_ok 3 (by decide)) rfl rfl (Nat.le_of_ble_eq_true rfl) dX1_swapAndTurn_63 rfl (fun H locs hI => ?_)
      exact J66 l1 o5 l2 _ hf hM _ _ _ hI (lv_sub hl [1, 3] rfl)
  obtain ⟨x, hf, hM⟩ : ∃ x, FX1_swapAndTurn F_hub F_size_0 F_road N_roadCount N_first N_second N_number_0 N_at N_beside a1 a2 a3 = some x ∧ x = out := ⟨out, hf, rfl⟩
  refine lv_aload_n hx hb dX1_swapAndTurn_0 rfl (lv_at hl 0 rfl) ?_
  refine w_get hx hb hg hown hK hI iX1 0 rfl rfl 0 (by decide) wF_RX1_15 rfl dX1_swapAndTurn_1 ?_
  refine lv_aload_n hx hb dX1_swapAndTurn_4 rfl (lv_at hl 0 rfl) ?_
  refine w_get hx hb hg hown hK hI iX1 0 rfl rfl 2 (by decide) wF_RX1_9 rfl dX1_swapAndTurn_5 ?_
  refine lv_iload_n hx hb dX1_swapAndTurn_8 rfl (lv_at hl 1 rfl) ?_
  obtain ⟨hin, hf⟩ := rd_e hf
  refine w_iald hx hb hK hI 1 rfl hin dX1_swapAndTurn_9 (fun x1 ex1 => ?_)
  replace hf := hf x1 ex1
  refine lv_iload_n hx hb dX1_swapAndTurn_10 rfl (lv_at hl 2 rfl) ?_
  refine lv_iload_n hx hb dX1_swapAndTurn_11 rfl (lv_at hl 3 rfl) ?_
  obtain ⟨o2, ho2, hf⟩ := bd_e hf
  refine w_Vi0 (wc := (wN cI cJ cZ n0 n1 n2 n3 n4 n5 n6 N_postCount N_roadCount N_first N_second N_number_0 N_allowed N_at N_beside)) (wr := [(f0, .inr (1, [.ref n0, .int F_hub, .ref f1, .int F_size_0])), (f1, .inl (cI, 24, .inl F_road))]) (rest := []) hx hb hml hg hown hK hA hI (kX3_chainOf l D cI cJ cZ n0 n1 n2 n3 n4 n5 n6 N_postCount N_roadCount N_first N_second N_number_0 N_allowed N_at N_beside x1 a2 a3 o2 ho2) kvX3_chainOf wL_RX1_62 ⟨Nat.le_of_ble_eq_true rfl, Nat.le_of_ble_eq_true rfl⟩ rfl rfl [2, 3, 4, 5, 6, 7, 8] [0, 1] rfl rfl rfl rfl (by decide) rfl rfl hl.1 (Nat.le_of_ble_eq_true rfl) dX1_swapAndTurn_12 ⟨Nat.zero_le _, Nat.zero_le _⟩ ⟨rfl, rfl⟩ (fun r u H locs hp hI => ?_)
  replace hp : r = o2 := hp
  rw [hp]
  clear hp
  replace hI : WI D A s.heap (wF cI cJ cZ f0 f1 n0 n1 n2 n3 n4 n5 n6 F_hub F_size_0 F_road N_postCount N_roadCount N_first N_second N_number_0 N_allowed N_at N_beside) H locs := hI
  refine lv_istore (lv' := [(4, .int o2), (0, .ref f0), (1, .int a1), (2, .int a2), (3, .int a3)]) hx hb dX1_swapAndTurn_15 hl (by decide) rfl (fun ls hl => ?_)
  refine lv_iload hx hb dX1_swapAndTurn_17 (lv_at hl 0 rfl) ?_
  refine lv_aload_n hx hb dX1_swapAndTurn_19 rfl (lv_at hl 1 rfl) ?_
  refine w_get hx hb hg hown hK hI iX1 0 rfl rfl 0 (by decide) wF_RX1_15 rfl dX1_swapAndTurn_20 ?_
  refine w_get hx hb hg hown hK hI iX3 2 rfl rfl 6 (by decide) wF_RX1_66 rfl dX1_swapAndTurn_23 ?_
  refine lv_aload_n hx hb dX1_swapAndTurn_26 rfl (lv_at hl 1 rfl) ?_
  refine lv_iload_n hx hb dX1_swapAndTurn_27 rfl (lv_at hl 2 rfl) ?_
  refine lv_iconst (v := 1) hx hb dX1_swapAndTurn_28 (by decide) ?_
  refine lv_isub hx hb dX1_swapAndTurn_29 ?_
  obtain ⟨o3, ho3, hf⟩ := bd_e hf
  refine w_Vi0 (wc := (wF cI cJ cZ f0 f1 n0 n1 n2 n3 n4 n5 n6 F_hub F_size_0 F_road N_postCount N_roadCount N_first N_second N_number_0 N_allowed N_at N_beside)) (wr := []) (rest := [.ref n5, .int o2]) hx hb hml hg hown hK hA hI (kX1_postAt l D cI cJ cZ f0 f1 n0 n1 n2 n3 n4 n5 n6 F_hub F_size_0 F_road N_postCount N_roadCount N_first N_second N_number_0 N_allowed N_at N_beside (a1 - (1 : Int32)) o3 ho3) kvX1_postAt wL_RX1_35 ⟨Nat.le_of_ble_eq_true rfl, Nat.le_of_ble_eq_true rfl⟩ rfl rfl [0, 1, 2, 3, 4, 5, 6, 7, 8] [] rfl rfl rfl rfl (by decide) rfl rfl hl.1 (Nat.le_of_ble_eq_true rfl) dX1_swapAndTurn_30 ⟨Nat.zero_le _, Nat.zero_le _⟩ ⟨rfl, rfl⟩ (fun r u H locs hp hI => ?_)
  replace hp : r = o3 := hp
  rw [hp]
  clear hp
  replace hI : WI D A s.heap (wF cI cJ cZ f0 f1 n0 n1 n2 n3 n4 n5 n6 F_hub F_size_0 F_road N_postCount N_roadCount N_first N_second N_number_0 N_allowed N_at N_beside) H locs := hI
  obtain ⟨hin, hf⟩ := rd_e hf
  refine w_iald hx hb hK hI 7 rfl hin dX1_swapAndTurn_33 (fun x4 ex4 => ?_)
  replace hf := hf x4 ex4
  refine lv_iand hx hb dX1_swapAndTurn_34 ?_
  refine lv_if_eq (tgt := 42) hx hb dX1_swapAndTurn_35 (by decide) (fun hc => ?_) (fun hc => ?_)
  · replace hf := ite_t hc hf
    refine lv_iconst (v := 0) hx hb dX1_swapAndTurn_42 (by decide) ?_
    exact J43 F_size_0 N_number_0 a1 a2 a3 o2 (0 : Int32) _ hf hM _ _ _ hI (lv_sub hl [1, 2, 3, 4, 0] rfl)
  · replace hf := ite_f hc hf
    refine lv_iconst (v := 1) hx hb dX1_swapAndTurn_38 (by decide) ?_
    refine lv_goto (tgt := 43) hx hb dX1_swapAndTurn_39 (by decide) ?_
    exact J43 F_size_0 N_number_0 a1 a2 a3 o2 (1 : Int32) _ hf hM _ _ _ hI (lv_sub hl [1, 2, 3, 4, 0] rfl)
noncomputable def FX1_append (F_size_0 : Int32) (F_road_0 : Nat → Int32) (a1 : Int32) : Option (Int32 × (Nat → Int32)) :=
  if (24 : Int32) ≤ F_size_0 then (some (F_size_0, F_road_0)) else (wr F_road_0 24 F_size_0 a1 (fun g1 => bnd (F_size_0 + (1 : Int32)) (fun x2 => some (x2, g1))))
abbrev GX1_append (p : Program) (l : Launch) (e : Env) (s : State) (m : MethodId) (below : List Frame) (meth : Method) (c : Code) (D : va_G) (cI cJ cZ : ClassId) (f0 f1 n0 n1 n2 n3 n4 n5 n6 : Nat) (F_hub : Int32) (F_size_0 : Int32) (F_road_0 : Nat → Int32) (N_postCount : Int32) (N_roadCount : Int32) (N_first : Nat → Int32) (N_second : Nat → Int32) (N_number : Nat → Int32) (N_allowed : Nat → Int32) (N_at : Nat → Int32) (N_beside : Nat → Int32) (a1 : Int32) (out : Int32 × (Nat → Int32)) (H : Heap) (locs : List Loc) (g : JFrame) : Prop := W p l e (headSpec (Cond.code yX1_append cX1_append 2 none :: GW) { frames := 0, cells := 0, slots := 0, locals := 0 }).room s m ([.ref f0, .int a1] : List Value).toArray below meth c H locs 0 0 (MQ below (va_Qv (fun (_ : Unit) => True) (BW D (wF cI cJ cZ f0 f1 n0 n1 n2 n3 n4 n5 n6 F_hub F_size_0 F_road_0 N_postCount N_roadCount N_first N_second N_number N_allowed N_at N_beside) s.heap.size (fun _ => (wF cI cJ cZ f0 f1 n0 n1 n2 n3 n4 n5 n6 F_hub out.1 out.2 N_postCount N_roadCount N_first N_second N_number N_allowed N_at N_beside))) (va_A (wF cI cJ cZ f0 f1 n0 n1 n2 n3 n4 n5 n6 F_hub F_size_0 F_road_0 N_postCount N_roadCount N_first N_second N_number N_allowed N_at N_beside) s.heap.size)) ([.ref f0, .int a1] : List Value).toArray s 0 0 (va_A (wF cI cJ cZ f0 f1 n0 n1 n2 n3 n4 n5 n6 F_hub F_size_0 F_road_0 N_postCount N_roadCount N_first N_second N_number N_allowed N_at N_beside) s.heap.size)) g
theorem kvX1_append : CalV RX1 yX1_append cX1_append 2 none 1 := ⟨wC_yX1_append, wM_yX1_append, wS_yX1_append, wI_RX1, by decide +kernel⟩
set_option maxHeartbeats 4000000 in
set_option maxRecDepth 100000 in
theorem kX1_append (l : Launch) (D : va_G) (cI cJ cZ : ClassId) (f0 f1 n0 n1 n2 n3 n4 n5 n6 : Nat) (F_hub : Int32) (F_size_0 : Int32) (F_road_0 : Nat → Int32) (N_postCount : Int32) (N_roadCount : Int32) (N_first : Nat → Int32) (N_second : Nat → Int32) (N_number : Nat → Int32) (N_allowed : Nat → Int32) (N_at : Nat → Int32) (N_beside : Nat → Int32) (a1 : Int32) (out : Int32 × (Nat → Int32)) (hf : FX1_append F_size_0 F_road_0 a1 = some out) : MV l yX1_append (Cond.code yX1_append cX1_append 2 none :: GW) { frames := 0, cells := 0, slots := 0, locals := 0 } D cI cJ cZ [.ref f0, .int a1] (wF cI cJ cZ f0 f1 n0 n1 n2 n3 n4 n5 n6 F_hub F_size_0 F_road_0 N_postCount N_roadCount N_first N_second N_number N_allowed N_at N_beside) (fun (_ : Unit) => True) (fun _ => (wF cI cJ cZ f0 f1 n0 n1 n2 n3 n4 n5 n6 F_hub out.1 out.2 N_postCount N_roadCount N_first N_second N_number N_allowed N_at N_beside)) := by
  intro sz
  refine Met.ofW (cc := cX1_append) (maxL := 2) (ret := none) (by decide +kernel) rfl ?_
  intro p e s m args below meth c s₁ B hml hv
  obtain ⟨rfl, hsz, hP, hK, hD0⟩ := hv
  have hx := B.exec
  have hb := B.bytes
  have hr := B.returns
  have hlocks := B.notSynchronized
  have hg : ∀ w ∈ GW, w.before _ s = true := fun w h => atoms_spec (ws := Cond.code yX1_append cX1_append 2 none :: GW) B.pre w (List.mem_cons_of_mem _ h)
  have hown : s.vm.findClass RX1 = some m.cls := findClass_of_methodNamed B.named
  subst hsz
  obtain ⟨A, hAe⟩ : ∃ A, A = va_A (wF cI cJ cZ f0 f1 n0 n1 n2 n3 n4 n5 n6 F_hub F_size_0 F_road_0 N_postCount N_roadCount N_first N_second N_number N_allowed N_at N_beside) s.heap.size := ⟨_, rfl⟩
  have hA : ∀ q : Nat, s.heap.size ≤ q → A q := fun q h => by rw [hAe]; exact Or.inr h
  have hI : WI D A s.heap (wF cI cJ cZ f0 f1 n0 n1 n2 n3 n4 n5 n6 F_hub F_size_0 F_road_0 N_postCount N_roadCount N_first N_second N_number N_allowed N_at N_beside) s.heap [] := ⟨hP, by rw [hAe]; exact hD0.self, va_S.rf⟩
  have hl := lv_entry [.ref f0, .int a1] (n := 2) (Nat.le_of_ble_eq_true rfl)
  rw [lg_entry_eq]
  generalize (lg_sl [.ref f0, .int a1] ++ List.replicate (2 - (lg_sl [.ref f0, .int a1]).length) Slot.unset).toArray = ls at hl ⊢
  replace hl : lv_has ls 2 [(0, .ref f0), (1, .int a1)] := hl
  obtain ⟨x, hf, hM⟩ : ∃ x, FX1_append F_size_0 F_road_0 a1 = some x ∧ x = out := ⟨out, hf, rfl⟩
  refine lv_aload_n hx hb dX1_append_0 rfl (lv_at hl 0 rfl) ?_
  refine w_get hx hb hg hown hK hI iX1 0 rfl rfl 3 (by decide) wF_RX1_28 rfl dX1_append_1 ?_
  refine lv_bipush (v := 24) hx hb dX1_append_4 (by decide) ?_
  refine lv_icmp_ge (tgt := 29) hx hb dX1_append_6 (by decide) (fun hc => ?_) (fun hc => ?_)
  · replace hf := ite_t hc hf
    replace hf := Option.some.inj hf
    subst hf
    replace hM : (F_size_0, F_road_0) = out := hM
    subst hM
    exact rt_v (u := ()) hx hb hr hlocks hI hAe trivial dX1_append_29
  · replace hf := ite_f hc hf
    refine lv_aload_n hx hb dX1_append_9 rfl (lv_at hl 0 rfl) ?_
    refine w_get hx hb hg hown hK hI iX1 0 rfl rfl 2 (by decide) wF_RX1_9 rfl dX1_append_10 ?_
    refine lv_aload_n hx hb dX1_append_13 rfl (lv_at hl 0 rfl) ?_
    refine w_get hx hb hg hown hK hI iX1 0 rfl rfl 3 (by decide) wF_RX1_28 rfl dX1_append_14 ?_
    refine lv_iload_n hx hb dX1_append_17 rfl (lv_at hl 1 rfl) ?_
    obtain ⟨hin, hf⟩ := wr_e hf
    obtain ⟨g1, eg1⟩ : ∃ g : Nat → Int32, g = upd F_road_0 (F_size_0).toNatClampNeg a1 := ⟨_, rfl⟩
    replace hf := hf g1 eg1
    refine w_iast (g := g1) (W1 := (wF cI cJ cZ f0 f1 n0 n1 n2 n3 n4 n5 n6 F_hub F_size_0 g1 N_postCount N_roadCount N_first N_second N_number N_allowed N_at N_beside)) hx hb hK hI 1 rfl hin eg1 dX1_append_18 rfl (fun H locs hI => ?_)
    refine lv_aload_n hx hb dX1_append_19 rfl (lv_at hl 0 rfl) ?_
    refine lv_dup hx hb dX1_append_20 rfl ?_
    refine w_get hx hb hg hown hK hI iX1 0 rfl rfl 3 (by decide) wF_RX1_28 rfl dX1_append_21 ?_
    refine lv_iconst (v := 1) hx hb dX1_append_24 (by decide) ?_
    refine lv_iadd hx hb dX1_append_25 ?_
    refine lv_topi (fun x2 ex2 => ?_)
    replace hf := bnd_e hf x2 ex2
    refine w_put (W1 := (wF cI cJ cZ f0 f1 n0 n1 n2 n3 n4 n5 n6 F_hub x2 g1 N_postCount N_roadCount N_first N_second N_number N_allowed N_at N_beside)) hx hb hg hown hK hI iX1 tyX1 tyX1_ok nmX1 0 rfl rfl 3 (by decide) wF_RX1_28 rfl (tyX1_ok 3 (by decide)) rfl rfl (Nat.le_of_ble_eq_true rfl) dX1_append_26 rfl (fun H locs hI => ?_)
    replace hf := Option.some.inj hf
    subst hf
    replace hM : (x2, g1) = out := hM
    subst hM
    exact rt_v (u := ()) hx hb hr hlocks hI hAe trivial dX1_append_29
noncomputable def X1_mendRoad_J102 (F_size : Int32) (F_road : Nat → Int32) (N_number : Nat → Int32) : Option (Int32 × Int32 × (Nat → Int32) × (Nat → Int32)) :=
  rd F_road 24 (0 : Int32) (fun x2 => rd N_number 24 x2 (fun x3 => some (x3, F_size, F_road, N_number)))
noncomputable def X1_mendRoad_J79 (F_hub : Int32) (F_size : Int32) (F_road : Nat → Int32) (N_roadCount : Int32) (N_first : Nat → Int32) (N_second : Nat → Int32) (N_number : Nat → Int32) (N_at : Nat → Int32) (N_beside : Nat → Int32) (l1 : Int32) (l3 : Int32) (l5 : Int32) : Option (Int32 × Int32 × (Nat → Int32) × (Nat → Int32)) :=
  (FX1_swapAndTurn F_hub F_size F_road N_roadCount N_first N_second N_number N_at N_beside l5 l3 l1).bind (fun o10 => X1_mendRoad_J102 o10.1 F_road o10.2)
noncomputable def X1_mendRoad_J58 (F_size : Int32) (F_road : Nat → Int32) (N_number : Nat → Int32) (l3 : Int32) : Option (Int32 × Int32 × (Nat → Int32) × (Nat → Int32)) :=
  (FX1_turn F_size F_road N_number l3).bind (fun o11 => X1_mendRoad_J102 F_size F_road o11)
noncomputable def X1_mendRoad_L14 (F_hub : Int32) (N_roadCount : Int32) (N_first : Nat → Int32) (N_second : Nat → Int32) (N_number : Nat → Int32) (N_at : Nat → Int32) (N_beside : Nat → Int32) (l1 : Int32) (v : Int32 × (Nat → Int32) × Int32) : Option ((Int32 × (Nat → Int32) × Int32) ⊕ (Int32 × Int32 × (Nat → Int32) × (Nat → Int32))) :=
  if (24 : Int32) ≤ v.2.2 then ((X1_mendRoad_J102 v.1 v.2.1 N_number).map (fun z => (.inr z))) else ((FX1_postAt F_hub v.2.1 N_first N_second (v.1 - (1 : Int32))).bind (fun o4 => (FX3_leastFree N_roadCount N_number N_at o4).bind (fun o5 => (FX3_roadWith N_roadCount N_number N_at F_hub o5).bind (fun o6 => if o6 = (-1 : Int32) then ((X1_mendRoad_J58 v.1 v.2.1 N_number o5).map (fun z => (.inr z))) else ((FX1_placeInFan v.1 v.2.1 o6).bind (fun o7 => if o7 ≤ (0 : Int32) then ((FX1_append v.1 v.2.1 o6).bind (fun o8 => bnd (v.2.2 + (1 : Int32)) (fun x9 => some (.inl (o8.1, o8.2, x9))))) else ((X1_mendRoad_J79 F_hub v.1 v.2.1 N_roadCount N_first N_second N_number N_at N_beside l1 o5 o7).map (fun z => (.inr z)))))))))
noncomputable def FX1_mendRoad (F_hub : Int32) (F_size_0 : Int32) (F_road_0 : Nat → Int32) (N_roadCount : Int32) (N_first : Nat → Int32) (N_second : Nat → Int32) (N_number_0 : Nat → Int32) (N_at : Nat → Int32) (N_beside : Nat → Int32)  : Option (Int32 × Int32 × (Nat → Int32) × (Nat → Int32)) :=
  (FX3_leastFree N_roadCount N_number_0 N_at F_hub).bind (fun o1 => loopO (X1_mendRoad_L14 F_hub N_roadCount N_first N_second N_number_0 N_at N_beside o1) (F_size_0, F_road_0, (0 : Int32)))
abbrev GX1_mendRoad (p : Program) (l : Launch) (e : Env) (s : State) (m : MethodId) (below : List Frame) (meth : Method) (c : Code) (D : va_G) (cI cJ cZ : ClassId) (f0 f1 n0 n1 n2 n3 n4 n5 n6 : Nat) (F_hub : Int32) (F_size_0 : Int32) (F_road_0 : Nat → Int32) (N_postCount : Int32) (N_roadCount : Int32) (N_first : Nat → Int32) (N_second : Nat → Int32) (N_number_0 : Nat → Int32) (N_allowed : Nat → Int32) (N_at : Nat → Int32) (N_beside : Nat → Int32)  (out : Int32 × Int32 × (Nat → Int32) × (Nat → Int32)) (H : Heap) (locs : List Loc) (g : JFrame) : Prop := W p l e (headSpec (Cond.code yX1_mendRoad cX1_mendRoad 6 (some .int) :: GW) { frames := 4, cells := 0, slots := 0, locals := 96 }).room s m ([.ref f0] : List Value).toArray below meth c H locs 0 0 (MQ below (va_Qi (fun r (_ : Unit) => r = out.1) (BW D (wF cI cJ cZ f0 f1 n0 n1 n2 n3 n4 n5 n6 F_hub F_size_0 F_road_0 N_postCount N_roadCount N_first N_second N_number_0 N_allowed N_at N_beside) s.heap.size (fun _ => (wF cI cJ cZ f0 f1 n0 n1 n2 n3 n4 n5 n6 F_hub out.2.1 out.2.2.1 N_postCount N_roadCount N_first N_second out.2.2.2 N_allowed N_at N_beside))) (va_A (wF cI cJ cZ f0 f1 n0 n1 n2 n3 n4 n5 n6 F_hub F_size_0 F_road_0 N_postCount N_roadCount N_first N_second N_number_0 N_allowed N_at N_beside) s.heap.size)) ([.ref f0] : List Value).toArray s 0 0 (va_A (wF cI cJ cZ f0 f1 n0 n1 n2 n3 n4 n5 n6 F_hub F_size_0 F_road_0 N_postCount N_roadCount N_first N_second N_number_0 N_allowed N_at N_beside) s.heap.size)) g
theorem kvX1_mendRoad : CalV RX1 yX1_mendRoad cX1_mendRoad 6 (some .int) 0 := ⟨wC_yX1_mendRoad, wM_yX1_mendRoad, wS_yX1_mendRoad, wI_RX1, by decide +kernel⟩
set_option maxHeartbeats 4000000 in
set_option maxRecDepth 100000 in
theorem kX1_mendRoad (l : Launch) (D : va_G) (cI cJ cZ : ClassId) (f0 f1 n0 n1 n2 n3 n4 n5 n6 : Nat) (F_hub : Int32) (F_size_0 : Int32) (F_road_0 : Nat → Int32) (N_postCount : Int32) (N_roadCount : Int32) (N_first : Nat → Int32) (N_second : Nat → Int32) (N_number_0 : Nat → Int32) (N_allowed : Nat → Int32) (N_at : Nat → Int32) (N_beside : Nat → Int32)  (out : Int32 × Int32 × (Nat → Int32) × (Nat → Int32)) (hf : FX1_mendRoad F_hub F_size_0 F_road_0 N_roadCount N_first N_second N_number_0 N_at N_beside = some out) : MI l yX1_mendRoad (Cond.code yX1_mendRoad cX1_mendRoad 6 (some .int) :: GW) { frames := 4, cells := 0, slots := 0, locals := 96 } D cI cJ cZ [.ref f0] (wF cI cJ cZ f0 f1 n0 n1 n2 n3 n4 n5 n6 F_hub F_size_0 F_road_0 N_postCount N_roadCount N_first N_second N_number_0 N_allowed N_at N_beside) (fun r (_ : Unit) => r = out.1) (fun _ => (wF cI cJ cZ f0 f1 n0 n1 n2 n3 n4 n5 n6 F_hub out.2.1 out.2.2.1 N_postCount N_roadCount N_first N_second out.2.2.2 N_allowed N_at N_beside)) := by
  intro sz
  refine Met.ofW (cc := cX1_mendRoad) (maxL := 6) (ret := (some .int)) (by decide +kernel) rfl ?_
  intro p e s m args below meth c s₁ B hml hv
  obtain ⟨rfl, hsz, hP, hK, hD0⟩ := hv
  have hx := B.exec
  have hb := B.bytes
  have hr := B.returns
  have hlocks := B.notSynchronized
  have hg : ∀ w ∈ GW, w.before _ s = true := fun w h => atoms_spec (ws := Cond.code yX1_mendRoad cX1_mendRoad 6 (some .int) :: GW) B.pre w (List.mem_cons_of_mem _ h)
  have hown : s.vm.findClass RX1 = some m.cls := findClass_of_methodNamed B.named
  subst hsz
  obtain ⟨A, hAe⟩ : ∃ A, A = va_A (wF cI cJ cZ f0 f1 n0 n1 n2 n3 n4 n5 n6 F_hub F_size_0 F_road_0 N_postCount N_roadCount N_first N_second N_number_0 N_allowed N_at N_beside) s.heap.size := ⟨_, rfl⟩
  have hA : ∀ q : Nat, s.heap.size ≤ q → A q := fun q h => by rw [hAe]; exact Or.inr h
  have hI : WI D A s.heap (wF cI cJ cZ f0 f1 n0 n1 n2 n3 n4 n5 n6 F_hub F_size_0 F_road_0 N_postCount N_roadCount N_first N_second N_number_0 N_allowed N_at N_beside) s.heap [] := ⟨hP, by rw [hAe]; exact hD0.self, va_S.rf⟩
  have hl := lv_entry [.ref f0] (n := 6) (Nat.le_of_ble_eq_true rfl)
  rw [lg_entry_eq]
  generalize (lg_sl [.ref f0] ++ List.replicate (6 - (lg_sl [.ref f0]).length) Slot.unset).toArray = ls at hl ⊢
  replace hl : lv_has ls 6 [(0, .ref f0)] := hl
  have J102 : ∀ (F_size : Int32) (F_road : Nat → Int32) (N_number : Nat → Int32) (x : Int32 × Int32 × (Nat → Int32) × (Nat → Int32)), X1_mendRoad_J102 F_size F_road N_number = some x → (fun z : Int32 × Int32 × (Nat → Int32) × (Nat → Int32) => z = out) x → ∀ (H : Heap) (locs : List Loc) (ls : Array Slot), WI D A s.heap (wF cI cJ cZ f0 f1 n0 n1 n2 n3 n4 n5 n6 F_hub F_size F_road N_postCount N_roadCount N_first N_second N_number N_allowed N_at N_beside) H locs → lv_has ls 6 [(0, .ref f0)] → GX1_mendRoad p l e s m below meth c D cI cJ cZ f0 f1 n0 n1 n2 n3 n4 n5 n6 F_hub F_size_0 F_road_0 N_postCount N_roadCount N_first N_second N_number_0 N_allowed N_at N_beside  out H locs (F0 m 102 ls []) := by
    intro F_size F_road N_number x hf hM H locs ls hI hl
    refine lv_aload_n hx hb dX1_mendRoad_102 rfl (lv_at hl 0 rfl) ?_
    refine w_get hx hb hg hown hK hI iX1 0 rfl rfl 0 (by decide) wF_RX1_15 rfl dX1_mendRoad_103 ?_
    refine w_get hx hb hg hown hK hI iX3 2 rfl rfl 4 (by decide) wF_RX1_56 rfl dX1_mendRoad_106 ?_
    refine lv_aload_n hx hb dX1_mendRoad_109 rfl (lv_at hl 0 rfl) ?_
    refine w_get hx hb hg hown hK hI iX1 0 rfl rfl 2 (by decide) wF_RX1_9 rfl dX1_mendRoad_110 ?_
    refine lv_iconst (v := 0) hx hb dX1_mendRoad_113 (by decide) ?_
    obtain ⟨hin, hf⟩ := rd_e hf
    refine w_iald hx hb hK hI 1 rfl hin dX1_mendRoad_114 (fun x2 ex2 => ?_)
    replace hf := hf x2 ex2
    obtain ⟨hin, hf⟩ := rd_e hf
    refine w_iald hx hb hK hI 5 rfl hin dX1_mendRoad_115 (fun x3 ex3 => ?_)
    replace hf := hf x3 ex3
    replace hf := Option.some.inj hf
    subst hf
    replace hM : (x3, F_size, F_road, N_number) = out := hM
    subst hM
    exact rt_i (u := ()) hx hb hr hlocks rfl hI hAe rfl dX1_mendRoad_116
  have J79 : ∀ (F_size : Int32) (F_road : Nat → Int32) (N_number : Nat → Int32) (l1 : Int32) (l3 : Int32) (l5 : Int32) (x : Int32 × Int32 × (Nat → Int32) × (Nat → Int32)), X1_mendRoad_J79 F_hub F_size F_road N_roadCount N_first N_second N_number N_at N_beside l1 l3 l5 = some x → (fun z : Int32 × Int32 × (Nat → Int32) × (Nat → Int32) => z = out) x → ∀ (H : Heap) (locs : List Loc) (ls : Array Slot), WI D A s.heap (wF cI cJ cZ f0 f1 n0 n1 n2 n3 n4 n5 n6 F_hub F_size F_road N_postCount N_roadCount N_first N_second N_number N_allowed N_at N_beside) H locs → lv_has ls 6 [(0, .ref f0), (1, .int l1), (3, .int l3), (5, .int l5)] → GX1_mendRoad p l e s m below meth c D cI cJ cZ f0 f1 n0 n1 n2 n3 n4 n5 n6 F_hub F_size_0 F_road_0 N_postCount N_roadCount N_first N_second N_number_0 N_allowed N_at N_beside  out H locs (F0 m 79 ls []) := by
    intro F_size F_road N_number l1 l3 l5 x hf hM H locs ls hI hl
    refine lv_aload_n hx hb dX1_mendRoad_79 rfl (lv_at hl 0 rfl) ?_
    refine lv_iload hx hb dX1_mendRoad_80 (lv_at hl 3 rfl) ?_
    refine lv_iload_n hx hb dX1_mendRoad_82 rfl (lv_at hl 2 rfl) ?_
    refine lv_iload_n hx hb dX1_mendRoad_83 rfl (lv_at hl 1 rfl) ?_
    obtain ⟨o10, ho10, hf⟩ := bd_e hf
    refine w_Vv0 (wc := (wF cI cJ cZ f0 f1 n0 n1 n2 n3 n4 n5 n6 F_hub F_size F_road N_postCount N_roadCount N_first N_second N_number N_allowed N_at N_beside)) (wr := []) (rest := []) hx hb hml hg hown hK hA hI (kX1_swapAndTurn l D cI cJ cZ f0 f1 n0 n1 n2 n3 n4 n5 n6 F_hub F_size F_road N_postCount N_roadCount N_first N_second N_number N_allowed N_at N_beside l5 l3 l1 o10 ho10) kvX1_swapAndTurn wL_RX1_49 ⟨Nat.le_of_ble_eq_true rfl, Nat.le_of_ble_eq_true rfl⟩ rfl rfl [0, 1, 2, 3, 4, 5, 6, 7, 8] [] rfl rfl rfl rfl (by decide) rfl rfl hl.1 (Nat.le_of_ble_eq_true rfl) dX1_mendRoad_84 ⟨Nat.zero_le _, Nat.zero_le _⟩ ⟨rfl, rfl⟩ (fun  u H locs hp hI => ?_)
    replace hI : WI D A s.heap (wF cI cJ cZ f0 f1 n0 n1 n2 n3 n4 n5 n6 F_hub o10.1 F_road N_postCount N_roadCount N_first N_second o10.2 N_allowed N_at N_beside) H locs := hI
    refine lv_goto (tgt := 102) hx hb dX1_mendRoad_87 (by decide) ?_
    exact J102 o10.1 F_road o10.2 _ hf hM _ _ _ hI (lv_sub hl [0] rfl)
  have J58 : ∀ (F_size : Int32) (F_road : Nat → Int32) (N_number : Nat → Int32) (l3 : Int32) (x : Int32 × Int32 × (Nat → Int32) × (Nat → Int32)), X1_mendRoad_J58 F_size F_road N_number l3 = some x → (fun z : Int32 × Int32 × (Nat → Int32) × (Nat → Int32) => z = out) x → ∀ (H : Heap) (locs : List Loc) (ls : Array Slot), WI D A s.heap (wF cI cJ cZ f0 f1 n0 n1 n2 n3 n4 n5 n6 F_hub F_size F_road N_postCount N_roadCount N_first N_second N_number N_allowed N_at N_beside) H locs → lv_has ls 6 [(0, .ref f0), (3, .int l3)] → GX1_mendRoad p l e s m below meth c D cI cJ cZ f0 f1 n0 n1 n2 n3 n4 n5 n6 F_hub F_size_0 F_road_0 N_postCount N_roadCount N_first N_second N_number_0 N_allowed N_at N_beside  out H locs (F0 m 58 ls []) := by
    intro F_size F_road N_number l3 x hf hM H locs ls hI hl
    refine lv_aload_n hx hb dX1_mendRoad_58 rfl (lv_at hl 0 rfl) ?_
    refine lv_iload_n hx hb dX1_mendRoad_59 rfl (lv_at hl 1 rfl) ?_
    obtain ⟨o11, ho11, hf⟩ := bd_e hf
    refine w_Vv0 (wc := (wF cI cJ cZ f0 f1 n0 n1 n2 n3 n4 n5 n6 F_hub F_size F_road N_postCount N_roadCount N_first N_second N_number N_allowed N_at N_beside)) (wr := []) (rest := []) hx hb hml hg hown hK hA hI (kX1_turn l D cI cJ cZ f0 f1 n0 n1 n2 n3 n4 n5 n6 F_hub F_size F_road N_postCount N_roadCount N_first N_second N_number N_allowed N_at N_beside l3 o11 ho11) kvX1_turn wL_RX1_42 ⟨Nat.le_of_ble_eq_true rfl, Nat.le_of_ble_eq_true rfl⟩ rfl rfl [0, 1, 2, 3, 4, 5, 6, 7, 8] [] rfl rfl rfl rfl (by decide) rfl rfl hl.1 (Nat.le_of_ble_eq_true rfl) dX1_mendRoad_60 ⟨Nat.zero_le _, Nat.zero_le _⟩ ⟨rfl, rfl⟩ (fun  u H locs hp hI => ?_)
    replace hI : WI D A s.heap (wF cI cJ cZ f0 f1 n0 n1 n2 n3 n4 n5 n6 F_hub F_size F_road N_postCount N_roadCount N_first N_second o11 N_allowed N_at N_beside) H locs := hI
    refine lv_goto (tgt := 102) hx hb dX1_mendRoad_63 (by decide) ?_
    exact J102 F_size F_road o11 _ hf hM _ _ _ hI (lv_sub hl [0] rfl)
  have L14 : ∀ (N_number : Nat → Int32) (l1 : Int32), ∀ (v : Int32 × (Nat → Int32) × Int32) (x : Int32 × Int32 × (Nat → Int32) × (Nat → Int32)), loopO (X1_mendRoad_L14 F_hub N_roadCount N_first N_second N_number N_at N_beside l1) v = some x → (fun z : Int32 × Int32 × (Nat → Int32) × (Nat → Int32) => z = out) x → (fun (v : Int32 × (Nat → Int32) × Int32) => ∀ (H : Heap) (locs : List Loc) (ls : Array Slot), WI D A s.heap (wF cI cJ cZ f0 f1 n0 n1 n2 n3 n4 n5 n6 F_hub v.1 v.2.1 N_postCount N_roadCount N_first N_second N_number N_allowed N_at N_beside) H locs → lv_has ls 6 [(0, .ref f0), (1, .int l1), (2, .int v.2.2)] → GX1_mendRoad p l e s m below meth c D cI cJ cZ f0 f1 n0 n1 n2 n3 n4 n5 n6 F_hub F_size_0 F_road_0 N_postCount N_roadCount N_first N_second N_number_0 N_allowed N_at N_beside  out H locs (F0 m 14 ls [])) v := by
    intro N_number l1
    refine loopO_ind (fun (v : Int32 × (Nat → Int32) × Int32) => ∀ (H : Heap) (locs : List Loc) (ls : Array Slot), WI D A s.heap (wF cI cJ cZ f0 f1 n0 n1 n2 n3 n4 n5 n6 F_hub v.1 v.2.1 N_postCount N_roadCount N_first N_second N_number N_allowed N_at N_beside) H locs → lv_has ls 6 [(0, .ref f0), (1, .int l1), (2, .int v.2.2)] → GX1_mendRoad p l e s m below meth c D cI cJ cZ f0 f1 n0 n1 n2 n3 n4 n5 n6 F_hub F_size_0 F_road_0 N_postCount N_roadCount N_first N_second N_number_0 N_allowed N_at N_beside  out H locs (F0 m 14 ls [])) (fun z : Int32 × Int32 × (Nat → Int32) × (Nat → Int32) => z = out) ?_
    intro v x hf hM H locs ls hI hl
    refine lv_iload_n hx hb dX1_mendRoad_14 rfl (lv_at hl 2 rfl) ?_
    refine lv_bipush (v := 24) hx hb dX1_mendRoad_15 (by decide) ?_
    refine lv_icmp_ge (tgt := 102) hx hb dX1_mendRoad_17 (by decide) (fun hc => ?_) (fun hc => ?_)
    · replace hf := ite_t hc hf
      obtain ⟨z, hf2, ez⟩ := mp_e hf
      clear hf
      subst ez
      exact J102 v.1 v.2.1 N_number _ hf2 hM _ _ _ hI (lv_sub hl [0] rfl)
    · replace hf := ite_f hc hf
      refine lv_aload_n hx hb dX1_mendRoad_20 rfl (lv_at hl 0 rfl) ?_
      refine w_get hx hb hg hown hK hI iX1 0 rfl rfl 0 (by decide) wF_RX1_15 rfl dX1_mendRoad_21 ?_
      refine lv_aload_n hx hb dX1_mendRoad_24 rfl (lv_at hl 0 rfl) ?_
      refine lv_aload_n hx hb dX1_mendRoad_25 rfl (lv_at hl 0 rfl) ?_
      refine w_get hx hb hg hown hK hI iX1 0 rfl rfl 3 (by decide) wF_RX1_28 rfl dX1_mendRoad_26 ?_
      refine lv_iconst (v := 1) hx hb dX1_mendRoad_29 (by decide) ?_
      refine lv_isub hx hb dX1_mendRoad_30 ?_
      obtain ⟨o4, ho4, hf⟩ := bd_e hf
      refine w_Vi0 (wc := (wF cI cJ cZ f0 f1 n0 n1 n2 n3 n4 n5 n6 F_hub v.1 v.2.1 N_postCount N_roadCount N_first N_second N_number N_allowed N_at N_beside)) (wr := []) (rest := [.ref n0]) hx hb hml hg hown hK hA hI (kX1_postAt l D cI cJ cZ f0 f1 n0 n1 n2 n3 n4 n5 n6 F_hub v.1 v.2.1 N_postCount N_roadCount N_first N_second N_number N_allowed N_at N_beside (v.1 - (1 : Int32)) o4 ho4) kvX1_postAt wL_RX1_35 ⟨Nat.le_of_ble_eq_true rfl, Nat.le_of_ble_eq_true rfl⟩ rfl rfl [0, 1, 2, 3, 4, 5, 6, 7, 8] [] rfl rfl rfl rfl (by decide) rfl rfl hl.1 (Nat.le_of_ble_eq_true rfl) dX1_mendRoad_31 ⟨Nat.zero_le _, Nat.zero_le _⟩ ⟨rfl, rfl⟩ (fun r u H locs hp hI => ?_)
      replace hp : r = o4 := hp
      rw [hp]
      clear hp
      replace hI : WI D A s.heap (wF cI cJ cZ f0 f1 n0 n1 n2 n3 n4 n5 n6 F_hub v.1 v.2.1 N_postCount N_roadCount N_first N_second N_number N_allowed N_at N_beside) H locs := hI
      obtain ⟨o5, ho5, hf⟩ := bd_e hf
      refine w_Vi0 (wc := (wN cI cJ cZ n0 n1 n2 n3 n4 n5 n6 N_postCount N_roadCount N_first N_second N_number N_allowed N_at N_beside)) (wr := [(f0, .inr (1, [.ref n0, .int F_hub, .ref f1, .int v.1])), (f1, .inl (cI, 24, .inl v.2.1))]) (rest := []) hx hb hml hg hown hK hA hI (kX3_leastFree l D cI cJ cZ n0 n1 n2 n3 n4 n5 n6 N_postCount N_roadCount N_first N_second N_number N_allowed N_at N_beside o4 o5 ho5) kvX3_leastFree wL_RX1_31 ⟨Nat.le_of_ble_eq_true rfl, Nat.le_of_ble_eq_true rfl⟩ rfl rfl [2, 3, 4, 5, 6, 7, 8] [0, 1] rfl rfl rfl rfl (by decide) rfl rfl hl.1 (Nat.le_of_ble_eq_true rfl) dX1_mendRoad_34 ⟨Nat.zero_le _, Nat.zero_le _⟩ ⟨rfl, rfl⟩ (fun r u H locs hp hI => ?_)
      replace hp : r = o5 := hp
      rw [hp]
      clear hp
      replace hI : WI D A s.heap (wF cI cJ cZ f0 f1 n0 n1 n2 n3 n4 n5 n6 F_hub v.1 v.2.1 N_postCount N_roadCount N_first N_second N_number N_allowed N_at N_beside) H locs := hI
      refine lv_istore_n (lv' := [(3, .int o5), (0, .ref f0), (1, .int l1), (2, .int v.2.2)]) hx hb dX1_mendRoad_37 rfl hl (by decide) rfl (fun ls hl => ?_)
      refine lv_aload_n hx hb dX1_mendRoad_38 rfl (lv_at hl 1 rfl) ?_
      refine w_get hx hb hg hown hK hI iX1 0 rfl rfl 0 (by decide) wF_RX1_15 rfl dX1_mendRoad_39 ?_
      refine lv_aload_n hx hb dX1_mendRoad_42 rfl (lv_at hl 1 rfl) ?_
      refine w_get hx hb hg hown hK hI iX1 0 rfl rfl 1 (by decide) wF_RX1_24 rfl dX1_mendRoad_43 ?_
      refine lv_iload_n hx hb dX1_mendRoad_46 rfl (lv_at hl 0 rfl) ?_
      obtain ⟨o6, ho6, hf⟩ := bd_e hf
      refine w_Vi0 (wc := (wN cI cJ cZ n0 n1 n2 n3 n4 n5 n6 N_postCount N_roadCount N_first N_second N_number N_allowed N_at N_beside)) (wr := [(f0, .inr (1, [.ref n0, .int F_hub, .ref f1, .int v.1])), (f1, .inl (cI, 24, .inl v.2.1))]) (rest := []) hx hb hml hg hown hK hA hI (kX3_roadWith l D cI cJ cZ n0 n1 n2 n3 n4 n5 n6 N_postCount N_roadCount N_first N_second N_number N_allowed N_at N_beside F_hub o5 o6 ho6) kvX3_roadWith wL_RX1_38 ⟨Nat.le_of_ble_eq_true rfl, Nat.le_of_ble_eq_true rfl⟩ rfl rfl [2, 3, 4, 5, 6, 7, 8] [0, 1] rfl rfl rfl rfl (by decide) rfl rfl hl.1 (Nat.le_of_ble_eq_true rfl) dX1_mendRoad_47 ⟨Nat.zero_le _, Nat.zero_le _⟩ ⟨rfl, rfl⟩ (fun r u H locs hp hI => ?_)
      replace hp : r = o6 := hp
      rw [hp]
      clear hp
      replace hI : WI D A s.heap (wF cI cJ cZ f0 f1 n0 n1 n2 n3 n4 n5 n6 F_hub v.1 v.2.1 N_postCount N_roadCount N_first N_second N_number N_allowed N_at N_beside) H locs := hI
      refine lv_istore (lv' := [(4, .int o6), (3, .int o5), (0, .ref f0), (1, .int l1), (2, .int v.2.2)]) hx hb dX1_mendRoad_50 hl (by decide) rfl (fun ls hl => ?_)
      refine lv_iload hx hb dX1_mendRoad_52 (lv_at hl 0 rfl) ?_
      refine lv_iconst (v := -1) hx hb dX1_mendRoad_54 (by decide) ?_
      refine lv_icmp_ne (tgt := 66) hx hb dX1_mendRoad_55 (by decide) (fun hc => ?_) (fun hc => ?_)
      · replace hf := ite_f hc hf
        refine lv_aload_n hx hb dX1_mendRoad_66 rfl (lv_at hl 2 rfl) ?_
        refine lv_iload hx hb dX1_mendRoad_67 (lv_at hl 0 rfl) ?_
        obtain ⟨o7, ho7, hf⟩ := bd_e hf
        refine w_Vi0 (wc := (wF cI cJ cZ f0 f1 n0 n1 n2 n3 n4 n5 n6 F_hub v.1 v.2.1 N_postCount N_roadCount N_first N_second N_number N_allowed N_at N_beside)) (wr := []) (rest := []) hx hb hml hg hown hK hA hI (kX1_placeInFan l D cI cJ cZ f0 f1 n0 n1 n2 n3 n4 n5 n6 F_hub v.1 v.2.1 N_postCount N_roadCount N_first N_second N_number N_allowed N_at N_beside o6 o7 ho7) kvX1_placeInFan wL_RX1_46 ⟨Nat.le_of_ble_eq_true rfl, Nat.le_of_ble_eq_true rfl⟩ rfl rfl [0, 1, 2, 3, 4, 5, 6, 7, 8] [] rfl rfl rfl rfl (by decide) rfl rfl hl.1 (Nat.le_of_ble_eq_true rfl) dX1_mendRoad_69 ⟨Nat.zero_le _, Nat.zero_le _⟩ ⟨rfl, rfl⟩ (fun r u H locs hp hI => ?_)
        replace hp : r = o7 := hp
        rw [hp]
        clear hp
        replace hI : WI D A s.heap (wF cI cJ cZ f0 f1 n0 n1 n2 n3 n4 n5 n6 F_hub v.1 v.2.1 N_postCount N_roadCount N_first N_second N_number N_allowed N_at N_beside) H locs := hI
        refine lv_istore (lv' := [(5, .int o7), (4, .int o6), (3, .int o5), (0, .ref f0), (1, .int l1), (2, .int v.2.2)]) hx hb dX1_mendRoad_72 hl (by decide) rfl (fun ls hl => ?_)
        refine lv_iload hx hb dX1_mendRoad_74 (lv_at hl 0 rfl) ?_
        refine lv_if_le (tgt := 90) hx hb dX1_mendRoad_76 (by decide) (fun hc => ?_) (fun hc => ?_)
        · replace hf := ite_t hc hf
          refine lv_aload_n hx hb dX1_mendRoad_90 rfl (lv_at hl 3 rfl) ?_
          refine lv_iload hx hb dX1_mendRoad_91 (lv_at hl 1 rfl) ?_
          obtain ⟨o8, ho8, hf⟩ := bd_e hf
          refine w_Vv0 (wc := (wF cI cJ cZ f0 f1 n0 n1 n2 n3 n4 n5 n6 F_hub v.1 v.2.1 N_postCount N_roadCount N_first N_second N_number N_allowed N_at N_beside)) (wr := []) (rest := []) hx hb hml hg hown hK hA hI (kX1_append l D cI cJ cZ f0 f1 n0 n1 n2 n3 n4 n5 n6 F_hub v.1 v.2.1 N_postCount N_roadCount N_first N_second N_number N_allowed N_at N_beside o6 o8 ho8) kvX1_append wL_RX1_53 ⟨Nat.le_of_ble_eq_true rfl, Nat.le_of_ble_eq_true rfl⟩ rfl rfl [0, 1, 2, 3, 4, 5, 6, 7, 8] [] rfl rfl rfl rfl (by decide) rfl rfl hl.1 (Nat.le_of_ble_eq_true rfl) dX1_mendRoad_93 ⟨Nat.zero_le _, Nat.zero_le _⟩ ⟨rfl, rfl⟩ (fun  u H locs hp hI => ?_)
          replace hI : WI D A s.heap (wF cI cJ cZ f0 f1 n0 n1 n2 n3 n4 n5 n6 F_hub o8.1 o8.2 N_postCount N_roadCount N_first N_second N_number N_allowed N_at N_beside) H locs := hI
          obtain ⟨x9, ex9⟩ : ∃ y : Int32, y = (v.2.2 + (1 : Int32)) := ⟨_, rfl⟩
          replace hf := bnd_e hf x9 ex9
          refine lv_iinc (v := x9) (lv' := [(2, .int x9), (5, .int o7), (4, .int o6), (3, .int o5), (0, .ref f0), (1, .int l1)]) hx hb dX1_mendRoad_96 hl (k := 5) rfl (by rw [ex9]; rfl) (by decide) rfl (fun ls hl => ?_)
          refine lv_goto (tgt := 14) hx hb dX1_mendRoad_99 (by decide) ?_
          replace hf := Option.some.inj hf
          subst hf
          exact hM _ _ _ hI (lv_sub hl [4, 5, 0] rfl)
        · replace hf := ite_f hc hf
          obtain ⟨z, hf2, ez⟩ := mp_e hf
          clear hf
          subst ez
          exact J79 v.1 v.2.1 N_number l1 o5 o7 _ hf2 hM _ _ _ hI (lv_sub hl [3, 4, 2, 0] rfl)
      · replace hf := ite_t hc hf
        obtain ⟨z, hf2, ez⟩ := mp_e hf
        clear hf
        subst ez
        exact J58 v.1 v.2.1 N_number o5 _ hf2 hM _ _ _ hI (lv_sub hl [2, 1] rfl)
  obtain ⟨x, hf, hM⟩ : ∃ x, FX1_mendRoad F_hub F_size_0 F_road_0 N_roadCount N_first N_second N_number_0 N_at N_beside = some x ∧ x = out := ⟨out, hf, rfl⟩
  refine lv_aload_n hx hb dX1_mendRoad_0 rfl (lv_at hl 0 rfl) ?_
  refine w_get hx hb hg hown hK hI iX1 0 rfl rfl 0 (by decide) wF_RX1_15 rfl dX1_mendRoad_1 ?_
  refine lv_aload_n hx hb dX1_mendRoad_4 rfl (lv_at hl 0 rfl) ?_
  refine w_get hx hb hg hown hK hI iX1 0 rfl rfl 1 (by decide) wF_RX1_24 rfl dX1_mendRoad_5 ?_
  obtain ⟨o1, ho1, hf⟩ := bd_e hf
  refine w_Vi0 (wc := (wN cI cJ cZ n0 n1 n2 n3 n4 n5 n6 N_postCount N_roadCount N_first N_second N_number_0 N_allowed N_at N_beside)) (wr := [(f0, .inr (1, [.ref n0, .int F_hub, .ref f1, .int F_size_0])), (f1, .inl (cI, 24, .inl F_road_0))]) (rest := []) hx hb hml hg hown hK hA hI (kX3_leastFree l D cI cJ cZ n0 n1 n2 n3 n4 n5 n6 N_postCount N_roadCount N_first N_second N_number_0 N_allowed N_at N_beside F_hub o1 ho1) kvX3_leastFree wL_RX1_31 ⟨Nat.le_of_ble_eq_true rfl, Nat.le_of_ble_eq_true rfl⟩ rfl rfl [2, 3, 4, 5, 6, 7, 8] [0, 1] rfl rfl rfl rfl (by decide) rfl rfl hl.1 (Nat.le_of_ble_eq_true rfl) dX1_mendRoad_8 ⟨Nat.zero_le _, Nat.zero_le _⟩ ⟨rfl, rfl⟩ (fun r u H locs hp hI => ?_)
  replace hp : r = o1 := hp
  rw [hp]
  clear hp
  replace hI : WI D A s.heap (wF cI cJ cZ f0 f1 n0 n1 n2 n3 n4 n5 n6 F_hub F_size_0 F_road_0 N_postCount N_roadCount N_first N_second N_number_0 N_allowed N_at N_beside) H locs := hI
  refine lv_istore_n (lv' := [(1, .int o1), (0, .ref f0)]) hx hb dX1_mendRoad_11 rfl hl (by decide) rfl (fun ls hl => ?_)
  refine lv_iconst (v := 0) hx hb dX1_mendRoad_12 (by decide) ?_
  refine lv_istore_n (lv' := [(2, .int (0 : Int32)), (1, .int o1), (0, .ref f0)]) hx hb dX1_mendRoad_13 rfl hl (by decide) rfl (fun ls hl => ?_)
  exact L14 N_number_0 o1 (F_size_0, F_road_0, (0 : Int32)) _ hf hM _ _ _ hI (lv_sub hl [2, 1, 0] rfl)
noncomputable def FX2_between (N_at : Nat → Int32) (a1 : Int32) (a2 : Int32) : Option (Int32) :=
  (FX7_placeOf a1).bind (fun x1 => rd N_at 12 x1 (fun x2 => (FX7_placeOf a2).bind (fun x3 => rd N_at 12 x3 (fun x4 => (FJ6_bitCount_0f7a4 (x2 &&& x4)).bind (fun x5 => some x5)))))
abbrev GX2_between (p : Program) (l : Launch) (e : Env) (s : State) (m : MethodId) (below : List Frame) (meth : Method) (c : Code) (D : va_G) (cI cJ cZ : ClassId) (h0 h1 n0 n1 n2 n3 n4 n5 n6 : Nat) (H_inside : Nat → Int32) (N_postCount : Int32) (N_roadCount : Int32) (N_first : Nat → Int32) (N_second : Nat → Int32) (N_number : Nat → Int32) (N_allowed : Nat → Int32) (N_at : Nat → Int32) (N_beside : Nat → Int32) (a1 : Int32) (a2 : Int32) (out : Int32) (H : Heap) (locs : List Loc) (g : JFrame) : Prop := W p l e (headSpec (Cond.code yX2_between cX2_between 3 (some .int) :: GW) { frames := 2, cells := 0, slots := 0, locals := 40 }).room s m ([.ref h0, .int a1, .int a2] : List Value).toArray below meth c H locs 0 0 (MQ below (va_Qi (fun r (_ : Unit) => r = out) (BW D (wH cI cJ cZ h0 h1 n0 n1 n2 n3 n4 n5 n6 H_inside N_postCount N_roadCount N_first N_second N_number N_allowed N_at N_beside) s.heap.size (fun _ => (wH cI cJ cZ h0 h1 n0 n1 n2 n3 n4 n5 n6 H_inside N_postCount N_roadCount N_first N_second N_number N_allowed N_at N_beside))) (va_A (wH cI cJ cZ h0 h1 n0 n1 n2 n3 n4 n5 n6 H_inside N_postCount N_roadCount N_first N_second N_number N_allowed N_at N_beside) s.heap.size)) ([.ref h0, .int a1, .int a2] : List Value).toArray s 0 0 (va_A (wH cI cJ cZ h0 h1 n0 n1 n2 n3 n4 n5 n6 H_inside N_postCount N_roadCount N_first N_second N_number N_allowed N_at N_beside) s.heap.size)) g
theorem kvX2_between : CalV RX2 yX2_between cX2_between 3 (some .int) 2 := ⟨wC_yX2_between, wM_yX2_between, wS_yX2_between, wI_RX2, by decide +kernel⟩
set_option maxHeartbeats 4000000 in
set_option maxRecDepth 100000 in
theorem kX2_between (l : Launch) (D : va_G) (cI cJ cZ : ClassId) (h0 h1 n0 n1 n2 n3 n4 n5 n6 : Nat) (H_inside : Nat → Int32) (N_postCount : Int32) (N_roadCount : Int32) (N_first : Nat → Int32) (N_second : Nat → Int32) (N_number : Nat → Int32) (N_allowed : Nat → Int32) (N_at : Nat → Int32) (N_beside : Nat → Int32) (a1 : Int32) (a2 : Int32) (out : Int32) (hf : FX2_between N_at a1 a2 = some out) : MI l yX2_between (Cond.code yX2_between cX2_between 3 (some .int) :: GW) { frames := 2, cells := 0, slots := 0, locals := 40 } D cI cJ cZ [.ref h0, .int a1, .int a2] (wH cI cJ cZ h0 h1 n0 n1 n2 n3 n4 n5 n6 H_inside N_postCount N_roadCount N_first N_second N_number N_allowed N_at N_beside) (fun r (_ : Unit) => r = out) (fun _ => (wH cI cJ cZ h0 h1 n0 n1 n2 n3 n4 n5 n6 H_inside N_postCount N_roadCount N_first N_second N_number N_allowed N_at N_beside)) := by
  intro sz
  refine Met.ofW (cc := cX2_between) (maxL := 3) (ret := (some .int)) (by decide +kernel) rfl ?_
  intro p e s m args below meth c s₁ B hml hv
  obtain ⟨rfl, hsz, hP, hK, hD0⟩ := hv
  have hx := B.exec
  have hb := B.bytes
  have hr := B.returns
  have hlocks := B.notSynchronized
  have hg : ∀ w ∈ GW, w.before _ s = true := fun w h => atoms_spec (ws := Cond.code yX2_between cX2_between 3 (some .int) :: GW) B.pre w (List.mem_cons_of_mem _ h)
  have hown : s.vm.findClass RX2 = some m.cls := findClass_of_methodNamed B.named
  subst hsz
  obtain ⟨A, hAe⟩ : ∃ A, A = va_A (wH cI cJ cZ h0 h1 n0 n1 n2 n3 n4 n5 n6 H_inside N_postCount N_roadCount N_first N_second N_number N_allowed N_at N_beside) s.heap.size := ⟨_, rfl⟩
  have hA : ∀ q : Nat, s.heap.size ≤ q → A q := fun q h => by rw [hAe]; exact Or.inr h
  have hI : WI D A s.heap (wH cI cJ cZ h0 h1 n0 n1 n2 n3 n4 n5 n6 H_inside N_postCount N_roadCount N_first N_second N_number N_allowed N_at N_beside) s.heap [] := ⟨hP, by rw [hAe]; exact hD0.self, va_S.rf⟩
  have hl := lv_entry [.ref h0, .int a1, .int a2] (n := 3) (Nat.le_of_ble_eq_true rfl)
  rw [lg_entry_eq]
  generalize (lg_sl [.ref h0, .int a1, .int a2] ++ List.replicate (3 - (lg_sl [.ref h0, .int a1, .int a2]).length) Slot.unset).toArray = ls at hl ⊢
  replace hl : lv_has ls 3 [(0, .ref h0), (1, .int a1), (2, .int a2)] := hl
  obtain ⟨x, hf, hM⟩ : ∃ x, FX2_between N_at a1 a2 = some x ∧ x = out := ⟨out, hf, rfl⟩
  refine lv_aload_n hx hb dX2_between_0 rfl (lv_at hl 0 rfl) ?_
  refine w_get hx hb hg hown hK hI iX2 0 rfl rfl 0 (by decide) wF_RX2_15 rfl dX2_between_1 ?_
  refine w_get hx hb hg hown hK hI iX3 2 rfl rfl 6 (by decide) wF_RX2_48 rfl dX2_between_4 ?_
  refine lv_iload_n hx hb dX2_between_7 rfl (lv_at hl 1 rfl) ?_
  obtain ⟨x1, hx1, hf⟩ := bd_e hf
  refine w_N (rest := [.ref n5]) hx hb hml hg hown hK (kX7_placeOf l D cI cJ cZ a1 x1 hx1) ksX7_placeOf (List.mem_of_getElem? (i := 2) rfl) ⟨Nat.le_of_ble_eq_true rfl, Nat.le_of_ble_eq_true rfl⟩ ⟨rfl, rfl⟩ rfl rfl hl.1 (Nat.le_of_ble_eq_true rfl) dX2_between_8 ⟨Nat.zero_le _, Nat.zero_le _⟩ ?_
  obtain ⟨hin, hf⟩ := rd_e hf
  refine w_iald hx hb hK hI 7 rfl hin dX2_between_11 (fun x2 ex2 => ?_)
  replace hf := hf x2 ex2
  refine lv_aload_n hx hb dX2_between_12 rfl (lv_at hl 0 rfl) ?_
  refine w_get hx hb hg hown hK hI iX2 0 rfl rfl 0 (by decide) wF_RX2_15 rfl dX2_between_13 ?_
  refine w_get hx hb hg hown hK hI iX3 2 rfl rfl 6 (by decide) wF_RX2_48 rfl dX2_between_16 ?_
  refine lv_iload_n hx hb dX2_between_19 rfl (lv_at hl 2 rfl) ?_
  obtain ⟨x3, hx3, hf⟩ := bd_e hf
  refine w_N (rest := [.ref n5, .int x2]) hx hb hml hg hown hK (kX7_placeOf l D cI cJ cZ a2 x3 hx3) ksX7_placeOf (List.mem_of_getElem? (i := 2) rfl) ⟨Nat.le_of_ble_eq_true rfl, Nat.le_of_ble_eq_true rfl⟩ ⟨rfl, rfl⟩ rfl rfl hl.1 (Nat.le_of_ble_eq_true rfl) dX2_between_20 ⟨Nat.zero_le _, Nat.zero_le _⟩ ?_
  obtain ⟨hin, hf⟩ := rd_e hf
  refine w_iald hx hb hK hI 7 rfl hin dX2_between_23 (fun x4 ex4 => ?_)
  replace hf := hf x4 ex4
  refine lv_iand hx hb dX2_between_24 ?_
  obtain ⟨x5, hx5, hf⟩ := bd_e hf
  refine w_S (rest := []) hx hb hml hg hown hK (kJ6_bitCount_0f7a4 l D cI cJ cZ (x2 &&& x4) x5 hx5) ksJ6_bitCount_0f7a4 wL_RX2_23 ⟨Nat.le_of_ble_eq_true rfl, Nat.le_of_ble_eq_true rfl⟩ ⟨rfl, rfl⟩ rfl rfl hl.1 (Nat.le_of_ble_eq_true rfl) dX2_between_25 ⟨Nat.zero_le _, Nat.zero_le _⟩ ?_
  replace hf := Option.some.inj hf
  subst hf
  replace hM : x5 = out := hM
  subst hM
  exact rt_i (u := ()) hx hb hr hlocks rfl hI hAe rfl dX2_between_28
noncomputable def X2_countInside_L17 (N_at : Nat → Int32) (l1 : Int32) (v : (Nat → Int32) × Int32) : Option (((Nat → Int32) × Int32) ⊕ ((Nat → Int32))) :=
  if l1 < v.2 then (some (.inr v.1)) else (bnd (v.2 &&& (-v.2)) (fun x3 => bnd (v.2 ^^^ x3) (fun x4 => bnd (x4 &&& (-x4)) (fun x5 => if x5 = (0 : Int32) then (wr v.1 4096 v.2 (0 : Int32) (fun g12 => bnd (v.2 + (1 : Int32)) (fun x13 => some (.inl (g12, x13))))) else (rd v.1 4096 x4 (fun x6 => rd v.1 4096 (v.2 ^^^ x5) (fun x7 => rd v.1 4096 (x4 ^^^ x5) (fun x8 => (FX2_between N_at x3 x5).bind (fun o9 => wr v.1 4096 v.2 (((x6 + x7) - x8) + o9) (fun g10 => bnd (v.2 + (1 : Int32)) (fun x11 => some (.inl (g10, x11)))))))))))))
noncomputable def FX2_countInside (H_inside_0 : Nat → Int32) (N_postCount : Int32) (N_at : Nat → Int32)  : Option ((Nat → Int32)) :=
  (FX3_allPosts N_postCount).bind (fun o1 => wr H_inside_0 4096 (0 : Int32) (0 : Int32) (fun g2 => loopO (X2_countInside_L17 N_at o1) (g2, (1 : Int32))))
abbrev GX2_countInside (p : Program) (l : Launch) (e : Env) (s : State) (m : MethodId) (below : List Frame) (meth : Method) (c : Code) (D : va_G) (cI cJ cZ : ClassId) (h0 h1 n0 n1 n2 n3 n4 n5 n6 : Nat) (H_inside_0 : Nat → Int32) (N_postCount : Int32) (N_roadCount : Int32) (N_first : Nat → Int32) (N_second : Nat → Int32) (N_number : Nat → Int32) (N_allowed : Nat → Int32) (N_at : Nat → Int32) (N_beside : Nat → Int32)  (out : (Nat → Int32)) (H : Heap) (locs : List Loc) (g : JFrame) : Prop := W p l e (headSpec (Cond.code yX2_countInside cX2_countInside 6 none :: GW) { frames := 3, cells := 0, slots := 0, locals := 62 }).room s m ([.ref h0] : List Value).toArray below meth c H locs 0 0 (MQ below (va_Qv (fun (_ : Unit) => True) (BW D (wH cI cJ cZ h0 h1 n0 n1 n2 n3 n4 n5 n6 H_inside_0 N_postCount N_roadCount N_first N_second N_number N_allowed N_at N_beside) s.heap.size (fun _ => (wH cI cJ cZ h0 h1 n0 n1 n2 n3 n4 n5 n6 out N_postCount N_roadCount N_first N_second N_number N_allowed N_at N_beside))) (va_A (wH cI cJ cZ h0 h1 n0 n1 n2 n3 n4 n5 n6 H_inside_0 N_postCount N_roadCount N_first N_second N_number N_allowed N_at N_beside) s.heap.size)) ([.ref h0] : List Value).toArray s 0 0 (va_A (wH cI cJ cZ h0 h1 n0 n1 n2 n3 n4 n5 n6 H_inside_0 N_postCount N_roadCount N_first N_second N_number N_allowed N_at N_beside) s.heap.size)) g
theorem kvX2_countInside : CalV RX2 yX2_countInside cX2_countInside 6 none 0 := ⟨wC_yX2_countInside, wM_yX2_countInside, wS_yX2_countInside, wI_RX2, by decide +kernel⟩
set_option maxHeartbeats 4000000 in
set_option maxRecDepth 100000 in
theorem kX2_countInside (l : Launch) (D : va_G) (cI cJ cZ : ClassId) (h0 h1 n0 n1 n2 n3 n4 n5 n6 : Nat) (H_inside_0 : Nat → Int32) (N_postCount : Int32) (N_roadCount : Int32) (N_first : Nat → Int32) (N_second : Nat → Int32) (N_number : Nat → Int32) (N_allowed : Nat → Int32) (N_at : Nat → Int32) (N_beside : Nat → Int32)  (out : (Nat → Int32)) (hf : FX2_countInside H_inside_0 N_postCount N_at = some out) : MV l yX2_countInside (Cond.code yX2_countInside cX2_countInside 6 none :: GW) { frames := 3, cells := 0, slots := 0, locals := 62 } D cI cJ cZ [.ref h0] (wH cI cJ cZ h0 h1 n0 n1 n2 n3 n4 n5 n6 H_inside_0 N_postCount N_roadCount N_first N_second N_number N_allowed N_at N_beside) (fun (_ : Unit) => True) (fun _ => (wH cI cJ cZ h0 h1 n0 n1 n2 n3 n4 n5 n6 out N_postCount N_roadCount N_first N_second N_number N_allowed N_at N_beside)) := by
  intro sz
  refine Met.ofW (cc := cX2_countInside) (maxL := 6) (ret := none) (by decide +kernel) rfl ?_
  intro p e s m args below meth c s₁ B hml hv
  obtain ⟨rfl, hsz, hP, hK, hD0⟩ := hv
  have hx := B.exec
  have hb := B.bytes
  have hr := B.returns
  have hlocks := B.notSynchronized
  have hg : ∀ w ∈ GW, w.before _ s = true := fun w h => atoms_spec (ws := Cond.code yX2_countInside cX2_countInside 6 none :: GW) B.pre w (List.mem_cons_of_mem _ h)
  have hown : s.vm.findClass RX2 = some m.cls := findClass_of_methodNamed B.named
  subst hsz
  obtain ⟨A, hAe⟩ : ∃ A, A = va_A (wH cI cJ cZ h0 h1 n0 n1 n2 n3 n4 n5 n6 H_inside_0 N_postCount N_roadCount N_first N_second N_number N_allowed N_at N_beside) s.heap.size := ⟨_, rfl⟩
  have hA : ∀ q : Nat, s.heap.size ≤ q → A q := fun q h => by rw [hAe]; exact Or.inr h
  have hI : WI D A s.heap (wH cI cJ cZ h0 h1 n0 n1 n2 n3 n4 n5 n6 H_inside_0 N_postCount N_roadCount N_first N_second N_number N_allowed N_at N_beside) s.heap [] := ⟨hP, by rw [hAe]; exact hD0.self, va_S.rf⟩
  have hl := lv_entry [.ref h0] (n := 6) (Nat.le_of_ble_eq_true rfl)
  rw [lg_entry_eq]
  generalize (lg_sl [.ref h0] ++ List.replicate (6 - (lg_sl [.ref h0]).length) Slot.unset).toArray = ls at hl ⊢
  replace hl : lv_has ls 6 [(0, .ref h0)] := hl
  have L17 : ∀ (l1 : Int32), ∀ (v : (Nat → Int32) × Int32) (x : (Nat → Int32)), loopO (X2_countInside_L17 N_at l1) v = some x → (fun z : (Nat → Int32) => z = out) x → (fun (v : (Nat → Int32) × Int32) => ∀ (H : Heap) (locs : List Loc) (ls : Array Slot), WI D A s.heap (wH cI cJ cZ h0 h1 n0 n1 n2 n3 n4 n5 n6 v.1 N_postCount N_roadCount N_first N_second N_number N_allowed N_at N_beside) H locs → lv_has ls 6 [(0, .ref h0), (1, .int l1), (2, .int v.2)] → GX2_countInside p l e s m below meth c D cI cJ cZ h0 h1 n0 n1 n2 n3 n4 n5 n6 H_inside_0 N_postCount N_roadCount N_first N_second N_number N_allowed N_at N_beside  out H locs (F0 m 17 ls [])) v := by
    intro l1
    refine loopO_ind (fun (v : (Nat → Int32) × Int32) => ∀ (H : Heap) (locs : List Loc) (ls : Array Slot), WI D A s.heap (wH cI cJ cZ h0 h1 n0 n1 n2 n3 n4 n5 n6 v.1 N_postCount N_roadCount N_first N_second N_number N_allowed N_at N_beside) H locs → lv_has ls 6 [(0, .ref h0), (1, .int l1), (2, .int v.2)] → GX2_countInside p l e s m below meth c D cI cJ cZ h0 h1 n0 n1 n2 n3 n4 n5 n6 H_inside_0 N_postCount N_roadCount N_first N_second N_number N_allowed N_at N_beside  out H locs (F0 m 17 ls [])) (fun z : (Nat → Int32) => z = out) ?_
    intro v x hf hM H locs ls hI hl
    refine lv_iload_n hx hb dX2_countInside_17 rfl (lv_at hl 2 rfl) ?_
    refine lv_iload_n hx hb dX2_countInside_18 rfl (lv_at hl 1 rfl) ?_
    refine lv_icmp_gt (tgt := 103) hx hb dX2_countInside_19 (by decide) (fun hc => ?_) (fun hc => ?_)
    · replace hf := ite_t hc hf
      replace hf := Option.some.inj hf
      subst hf
      replace hM : v.1 = out := hM
      subst hM
      exact rt_v (u := ()) hx hb hr hlocks hI hAe trivial dX2_countInside_103
    · replace hf := ite_f hc hf
      refine lv_iload_n hx hb dX2_countInside_22 rfl (lv_at hl 2 rfl) ?_
      refine lv_iload_n hx hb dX2_countInside_23 rfl (lv_at hl 2 rfl) ?_
      refine lv_ineg hx hb dX2_countInside_24 ?_
      refine lv_iand hx hb dX2_countInside_25 ?_
      refine lv_topi (fun x3 ex3 => ?_)
      replace hf := bnd_e hf x3 ex3
      refine lv_istore_n (lv' := [(3, .int x3), (0, .ref h0), (1, .int l1), (2, .int v.2)]) hx hb dX2_countInside_26 rfl hl (by decide) rfl (fun ls hl => ?_)
      refine lv_iload_n hx hb dX2_countInside_27 rfl (lv_at hl 3 rfl) ?_
      refine lv_iload_n hx hb dX2_countInside_28 rfl (lv_at hl 0 rfl) ?_
      refine lv_ixor hx hb dX2_countInside_29 ?_
      refine lv_topi (fun x4 ex4 => ?_)
      replace hf := bnd_e hf x4 ex4
      refine lv_istore (lv' := [(4, .int x4), (3, .int x3), (0, .ref h0), (1, .int l1), (2, .int v.2)]) hx hb dX2_countInside_30 hl (by decide) rfl (fun ls hl => ?_)
      refine lv_iload hx hb dX2_countInside_32 (lv_at hl 0 rfl) ?_
      refine lv_iload hx hb dX2_countInside_34 (lv_at hl 0 rfl) ?_
      refine lv_ineg hx hb dX2_countInside_36 ?_
      refine lv_iand hx hb dX2_countInside_37 ?_
      refine lv_topi (fun x5 ex5 => ?_)
      replace hf := bnd_e hf x5 ex5
      refine lv_istore (lv' := [(5, .int x5), (4, .int x4), (3, .int x3), (0, .ref h0), (1, .int l1), (2, .int v.2)]) hx hb dX2_countInside_38 hl (by decide) rfl (fun ls hl => ?_)
      refine lv_iload hx hb dX2_countInside_40 (lv_at hl 0 rfl) ?_
      refine lv_if_ne (tgt := 55) hx hb dX2_countInside_42 (by decide) (fun hc => ?_) (fun hc => ?_)
      · replace hf := ite_f hc hf
        refine lv_aload_n hx hb dX2_countInside_55 rfl (lv_at hl 3 rfl) ?_
        refine w_get hx hb hg hown hK hI iX2 0 rfl rfl 1 (by decide) wF_RX2_9 rfl dX2_countInside_56 ?_
        refine lv_iload_n hx hb dX2_countInside_59 rfl (lv_at hl 5 rfl) ?_
        refine lv_aload_n hx hb dX2_countInside_60 rfl (lv_at hl 3 rfl) ?_
        refine w_get hx hb hg hown hK hI iX2 0 rfl rfl 1 (by decide) wF_RX2_9 rfl dX2_countInside_61 ?_
        refine lv_iload hx hb dX2_countInside_64 (lv_at hl 1 rfl) ?_
        obtain ⟨hin, hf⟩ := rd_e hf
        refine w_iald hx hb hK hI 1 rfl hin dX2_countInside_66 (fun x6 ex6 => ?_)
        replace hf := hf x6 ex6
        refine lv_aload_n hx hb dX2_countInside_67 rfl (lv_at hl 3 rfl) ?_
        refine w_get hx hb hg hown hK hI iX2 0 rfl rfl 1 (by decide) wF_RX2_9 rfl dX2_countInside_68 ?_
        refine lv_iload_n hx hb dX2_countInside_71 rfl (lv_at hl 5 rfl) ?_
        refine lv_iload hx hb dX2_countInside_72 (lv_at hl 0 rfl) ?_
        refine lv_ixor hx hb dX2_countInside_74 ?_
        obtain ⟨hin, hf⟩ := rd_e hf
        refine w_iald hx hb hK hI 1 rfl hin dX2_countInside_75 (fun x7 ex7 => ?_)
        replace hf := hf x7 ex7
        refine lv_iadd hx hb dX2_countInside_76 ?_
        refine lv_aload_n hx hb dX2_countInside_77 rfl (lv_at hl 3 rfl) ?_
        refine w_get hx hb hg hown hK hI iX2 0 rfl rfl 1 (by decide) wF_RX2_9 rfl dX2_countInside_78 ?_
        refine lv_iload hx hb dX2_countInside_81 (lv_at hl 1 rfl) ?_
        refine lv_iload hx hb dX2_countInside_83 (lv_at hl 0 rfl) ?_
        refine lv_ixor hx hb dX2_countInside_85 ?_
        obtain ⟨hin, hf⟩ := rd_e hf
        refine w_iald hx hb hK hI 1 rfl hin dX2_countInside_86 (fun x8 ex8 => ?_)
        replace hf := hf x8 ex8
        refine lv_isub hx hb dX2_countInside_87 ?_
        refine lv_aload_n hx hb dX2_countInside_88 rfl (lv_at hl 3 rfl) ?_
        refine lv_iload_n hx hb dX2_countInside_89 rfl (lv_at hl 2 rfl) ?_
        refine lv_iload hx hb dX2_countInside_90 (lv_at hl 0 rfl) ?_
        obtain ⟨o9, ho9, hf⟩ := bd_e hf
        refine w_Vi0 (wc := (wH cI cJ cZ h0 h1 n0 n1 n2 n3 n4 n5 n6 v.1 N_postCount N_roadCount N_first N_second N_number N_allowed N_at N_beside)) (wr := []) (rest := [.int ((x6 + x7) - x8), .int v.2, .ref h1]) hx hb hml hg hown hK hA hI (kX2_between l D cI cJ cZ h0 h1 n0 n1 n2 n3 n4 n5 n6 v.1 N_postCount N_roadCount N_first N_second N_number N_allowed N_at N_beside x3 x5 o9 ho9) kvX2_between wL_RX2_45 ⟨Nat.le_of_ble_eq_true rfl, Nat.le_of_ble_eq_true rfl⟩ rfl rfl [0, 1, 2, 3, 4, 5, 6, 7, 8] [] rfl rfl rfl rfl (by decide) rfl rfl hl.1 (Nat.le_of_ble_eq_true rfl) dX2_countInside_92 ⟨Nat.zero_le _, Nat.zero_le _⟩ ⟨rfl, rfl⟩ (fun r u H locs hp hI => ?_)
        replace hp : r = o9 := hp
        rw [hp]
        clear hp
        replace hI : WI D A s.heap (wH cI cJ cZ h0 h1 n0 n1 n2 n3 n4 n5 n6 v.1 N_postCount N_roadCount N_first N_second N_number N_allowed N_at N_beside) H locs := hI
        refine lv_iadd hx hb dX2_countInside_95 ?_
        obtain ⟨hin, hf⟩ := wr_e hf
        obtain ⟨g10, eg10⟩ : ∃ g : Nat → Int32, g = upd v.1 (v.2).toNatClampNeg (((x6 + x7) - x8) + o9) := ⟨_, rfl⟩
        replace hf := hf g10 eg10
        refine w_iast (g := g10) (W1 := (wH cI cJ cZ h0 h1 n0 n1 n2 n3 n4 n5 n6 g10 N_postCount N_roadCount N_first N_second N_number N_allowed N_at N_beside)) hx hb hK hI 1 rfl hin eg10 dX2_countInside_96 rfl (fun H locs hI => ?_)
        obtain ⟨x11, ex11⟩ : ∃ y : Int32, y = (v.2 + (1 : Int32)) := ⟨_, rfl⟩
        replace hf := bnd_e hf x11 ex11
        refine lv_iinc (v := x11) (lv' := [(2, .int x11), (5, .int x5), (4, .int x4), (3, .int x3), (0, .ref h0), (1, .int l1)]) hx hb dX2_countInside_97 hl (k := 5) rfl (by rw [ex11]; rfl) (by decide) rfl (fun ls hl => ?_)
        refine lv_goto (tgt := 17) hx hb dX2_countInside_100 (by decide) ?_
        replace hf := Option.some.inj hf
        subst hf
        exact hM _ _ _ hI (lv_sub hl [4, 5, 0] rfl)
      · replace hf := ite_t hc hf
        refine lv_aload_n hx hb dX2_countInside_45 rfl (lv_at hl 3 rfl) ?_
        refine w_get hx hb hg hown hK hI iX2 0 rfl rfl 1 (by decide) wF_RX2_9 rfl dX2_countInside_46 ?_
        refine lv_iload_n hx hb dX2_countInside_49 rfl (lv_at hl 5 rfl) ?_
        refine lv_iconst (v := 0) hx hb dX2_countInside_50 (by decide) ?_
        obtain ⟨hin, hf⟩ := wr_e hf
        obtain ⟨g12, eg12⟩ : ∃ g : Nat → Int32, g = upd v.1 (v.2).toNatClampNeg (0 : Int32) := ⟨_, rfl⟩
        replace hf := hf g12 eg12
        refine w_iast (g := g12) (W1 := (wH cI cJ cZ h0 h1 n0 n1 n2 n3 n4 n5 n6 g12 N_postCount N_roadCount N_first N_second N_number N_allowed N_at N_beside)) hx hb hK hI 1 rfl hin eg12 dX2_countInside_51 rfl (fun H locs hI => ?_)
        refine lv_goto (tgt := 97) hx hb dX2_countInside_52 (by decide) ?_
        obtain ⟨x13, ex13⟩ : ∃ y : Int32, y = (v.2 + (1 : Int32)) := ⟨_, rfl⟩
        replace hf := bnd_e hf x13 ex13
        refine lv_iinc (v := x13) (lv' := [(2, .int x13), (5, .int x5), (4, .int x4), (3, .int x3), (0, .ref h0), (1, .int l1)]) hx hb dX2_countInside_97 hl (k := 5) rfl (by rw [ex13]; rfl) (by decide) rfl (fun ls hl => ?_)
        refine lv_goto (tgt := 17) hx hb dX2_countInside_100 (by decide) ?_
        replace hf := Option.some.inj hf
        subst hf
        exact hM _ _ _ hI (lv_sub hl [4, 5, 0] rfl)
  obtain ⟨x, hf, hM⟩ : ∃ x, FX2_countInside H_inside_0 N_postCount N_at = some x ∧ x = out := ⟨out, hf, rfl⟩
  refine lv_aload_n hx hb dX2_countInside_0 rfl (lv_at hl 0 rfl) ?_
  refine w_get hx hb hg hown hK hI iX2 0 rfl rfl 0 (by decide) wF_RX2_15 rfl dX2_countInside_1 ?_
  obtain ⟨o1, ho1, hf⟩ := bd_e hf
  refine w_Vi0 (wc := (wN cI cJ cZ n0 n1 n2 n3 n4 n5 n6 N_postCount N_roadCount N_first N_second N_number N_allowed N_at N_beside)) (wr := [(h0, .inr (2, [.ref n0, .ref h1])), (h1, .inl (cI, 4096, .inl H_inside_0))]) (rest := []) hx hb hml hg hown hK hA hI (kX3_allPosts l D cI cJ cZ n0 n1 n2 n3 n4 n5 n6 N_postCount N_roadCount N_first N_second N_number N_allowed N_at N_beside  o1 ho1) kvX3_allPosts wL_RX2_42 ⟨Nat.le_of_ble_eq_true rfl, Nat.le_of_ble_eq_true rfl⟩ rfl rfl [2, 3, 4, 5, 6, 7, 8] [0, 1] rfl rfl rfl rfl (by decide) rfl rfl hl.1 (Nat.le_of_ble_eq_true rfl) dX2_countInside_4 ⟨Nat.zero_le _, Nat.zero_le _⟩ ⟨rfl, rfl⟩ (fun r u H locs hp hI => ?_)
  replace hp : r = o1 := hp
  rw [hp]
  clear hp
  replace hI : WI D A s.heap (wH cI cJ cZ h0 h1 n0 n1 n2 n3 n4 n5 n6 H_inside_0 N_postCount N_roadCount N_first N_second N_number N_allowed N_at N_beside) H locs := hI
  refine lv_istore_n (lv' := [(1, .int o1), (0, .ref h0)]) hx hb dX2_countInside_7 rfl hl (by decide) rfl (fun ls hl => ?_)
  refine lv_aload_n hx hb dX2_countInside_8 rfl (lv_at hl 1 rfl) ?_
  refine w_get hx hb hg hown hK hI iX2 0 rfl rfl 1 (by decide) wF_RX2_9 rfl dX2_countInside_9 ?_
  refine lv_iconst (v := 0) hx hb dX2_countInside_12 (by decide) ?_
  refine lv_iconst (v := 0) hx hb dX2_countInside_13 (by decide) ?_
  obtain ⟨hin, hf⟩ := wr_e hf
  obtain ⟨g2, eg2⟩ : ∃ g : Nat → Int32, g = upd H_inside_0 ((0 : Int32)).toNatClampNeg (0 : Int32) := ⟨_, rfl⟩
  replace hf := hf g2 eg2
  refine w_iast (g := g2) (W1 := (wH cI cJ cZ h0 h1 n0 n1 n2 n3 n4 n5 n6 g2 N_postCount N_roadCount N_first N_second N_number N_allowed N_at N_beside)) hx hb hK hI 1 rfl hin eg2 dX2_countInside_14 rfl (fun H locs hI => ?_)
  refine lv_iconst (v := 1) hx hb dX2_countInside_15 (by decide) ?_
  refine lv_istore_n (lv' := [(2, .int (1 : Int32)), (1, .int o1), (0, .ref h0)]) hx hb dX2_countInside_16 rfl hl (by decide) rfl (fun ls hl => ?_)
  exact L17 o1 (g2, (1 : Int32)) _ hf hM _ _ _ hI (lv_sub hl [2, 1, 0] rfl)
noncomputable def X2_neediest_L23 (H_inside : Nat → Int32) (N_postCount : Int32) (v : Int32 × Int32 × Int32) : Option ((Int32 × Int32 × Int32) ⊕ (Int32 × (Nat → Int32))) :=
  (FX3_allPosts N_postCount).bind (fun o2 => if o2 < v.2.2 then (some (.inr (v.1, H_inside))) else ((FJ6_bitCount_0f7a4 v.2.2).bind (fun x3 => if x3 < (3 : Int32) then (bnd (v.2.2 + (1 : Int32)) (fun x4 => some (.inl (v.1, v.2.1, x4)))) else (rd H_inside 4096 v.2.2 (fun x5 => (FX7_needFor x5 x3).bind (fun x6 => if x6 ≤ v.2.1 then (bnd (v.2.2 + (1 : Int32)) (fun x7 => some (.inl (v.1, v.2.1, x7)))) else (rd H_inside 4096 v.2.2 (fun x8 => (FX7_needFor x8 x3).bind (fun x9 => bnd (v.2.2 + (1 : Int32)) (fun x10 => some (.inl (v.2.2, x9, x10))))))))))))
noncomputable def FX2_neediest (H_inside_0 : Nat → Int32) (N_postCount : Int32) (N_at : Nat → Int32)  : Option (Int32 × (Nat → Int32)) :=
  if (3 : Int32) ≤ N_postCount then ((FX2_countInside H_inside_0 N_postCount N_at).bind (fun o1 => loopO (X2_neediest_L23 o1 N_postCount) ((-1 : Int32), (-1 : Int32), (0 : Int32)))) else (some ((-1 : Int32), H_inside_0))
abbrev GX2_neediest (p : Program) (l : Launch) (e : Env) (s : State) (m : MethodId) (below : List Frame) (meth : Method) (c : Code) (D : va_G) (cI cJ cZ : ClassId) (h0 h1 n0 n1 n2 n3 n4 n5 n6 : Nat) (H_inside_0 : Nat → Int32) (N_postCount : Int32) (N_roadCount : Int32) (N_first : Nat → Int32) (N_second : Nat → Int32) (N_number : Nat → Int32) (N_allowed : Nat → Int32) (N_at : Nat → Int32) (N_beside : Nat → Int32)  (out : Int32 × (Nat → Int32)) (H : Heap) (locs : List Loc) (g : JFrame) : Prop := W p l e (headSpec (Cond.code yX2_neediest cX2_neediest 5 (some .int) :: GW) { frames := 4, cells := 0, slots := 0, locals := 87 }).room s m ([.ref h0] : List Value).toArray below meth c H locs 0 0 (MQ below (va_Qi (fun r (_ : Unit) => r = out.1) (BW D (wH cI cJ cZ h0 h1 n0 n1 n2 n3 n4 n5 n6 H_inside_0 N_postCount N_roadCount N_first N_second N_number N_allowed N_at N_beside) s.heap.size (fun _ => (wH cI cJ cZ h0 h1 n0 n1 n2 n3 n4 n5 n6 out.2 N_postCount N_roadCount N_first N_second N_number N_allowed N_at N_beside))) (va_A (wH cI cJ cZ h0 h1 n0 n1 n2 n3 n4 n5 n6 H_inside_0 N_postCount N_roadCount N_first N_second N_number N_allowed N_at N_beside) s.heap.size)) ([.ref h0] : List Value).toArray s 0 0 (va_A (wH cI cJ cZ h0 h1 n0 n1 n2 n3 n4 n5 n6 H_inside_0 N_postCount N_roadCount N_first N_second N_number N_allowed N_at N_beside) s.heap.size)) g
theorem kvX2_neediest : CalV RX2 yX2_neediest cX2_neediest 5 (some .int) 0 := ⟨wC_yX2_neediest, wM_yX2_neediest, wS_yX2_neediest, wI_RX2, by decide +kernel⟩
set_option maxHeartbeats 4000000 in
set_option maxRecDepth 100000 in
theorem kX2_neediest (l : Launch) (D : va_G) (cI cJ cZ : ClassId) (h0 h1 n0 n1 n2 n3 n4 n5 n6 : Nat) (H_inside_0 : Nat → Int32) (N_postCount : Int32) (N_roadCount : Int32) (N_first : Nat → Int32) (N_second : Nat → Int32) (N_number : Nat → Int32) (N_allowed : Nat → Int32) (N_at : Nat → Int32) (N_beside : Nat → Int32)  (out : Int32 × (Nat → Int32)) (hf : FX2_neediest H_inside_0 N_postCount N_at = some out) : MI l yX2_neediest (Cond.code yX2_neediest cX2_neediest 5 (some .int) :: GW) { frames := 4, cells := 0, slots := 0, locals := 87 } D cI cJ cZ [.ref h0] (wH cI cJ cZ h0 h1 n0 n1 n2 n3 n4 n5 n6 H_inside_0 N_postCount N_roadCount N_first N_second N_number N_allowed N_at N_beside) (fun r (_ : Unit) => r = out.1) (fun _ => (wH cI cJ cZ h0 h1 n0 n1 n2 n3 n4 n5 n6 out.2 N_postCount N_roadCount N_first N_second N_number N_allowed N_at N_beside)) := by
  intro sz
  refine Met.ofW (cc := cX2_neediest) (maxL := 5) (ret := (some .int)) (by decide +kernel) rfl ?_
  intro p e s m args below meth c s₁ B hml hv
  obtain ⟨rfl, hsz, hP, hK, hD0⟩ := hv
  have hx := B.exec
  have hb := B.bytes
  have hr := B.returns
  have hlocks := B.notSynchronized
  have hg : ∀ w ∈ GW, w.before _ s = true := fun w h => atoms_spec (ws := Cond.code yX2_neediest cX2_neediest 5 (some .int) :: GW) B.pre w (List.mem_cons_of_mem _ h)
  have hown : s.vm.findClass RX2 = some m.cls := findClass_of_methodNamed B.named
  subst hsz
  obtain ⟨A, hAe⟩ : ∃ A, A = va_A (wH cI cJ cZ h0 h1 n0 n1 n2 n3 n4 n5 n6 H_inside_0 N_postCount N_roadCount N_first N_second N_number N_allowed N_at N_beside) s.heap.size := ⟨_, rfl⟩
  have hA : ∀ q : Nat, s.heap.size ≤ q → A q := fun q h => by rw [hAe]; exact Or.inr h
  have hI : WI D A s.heap (wH cI cJ cZ h0 h1 n0 n1 n2 n3 n4 n5 n6 H_inside_0 N_postCount N_roadCount N_first N_second N_number N_allowed N_at N_beside) s.heap [] := ⟨hP, by rw [hAe]; exact hD0.self, va_S.rf⟩
  have hl := lv_entry [.ref h0] (n := 5) (Nat.le_of_ble_eq_true rfl)
  rw [lg_entry_eq]
  generalize (lg_sl [.ref h0] ++ List.replicate (5 - (lg_sl [.ref h0]).length) Slot.unset).toArray = ls at hl ⊢
  replace hl : lv_has ls 5 [(0, .ref h0)] := hl
  have L23 : ∀ (H_inside : Nat → Int32), ∀ (v : Int32 × Int32 × Int32) (x : Int32 × (Nat → Int32)), loopO (X2_neediest_L23 H_inside N_postCount) v = some x → (fun z : Int32 × (Nat → Int32) => z = out) x → (fun (v : Int32 × Int32 × Int32) => ∀ (H : Heap) (locs : List Loc) (ls : Array Slot), WI D A s.heap (wH cI cJ cZ h0 h1 n0 n1 n2 n3 n4 n5 n6 H_inside N_postCount N_roadCount N_first N_second N_number N_allowed N_at N_beside) H locs → lv_has ls 5 [(0, .ref h0), (1, .int v.1), (2, .int v.2.1), (3, .int v.2.2)] → GX2_neediest p l e s m below meth c D cI cJ cZ h0 h1 n0 n1 n2 n3 n4 n5 n6 H_inside_0 N_postCount N_roadCount N_first N_second N_number N_allowed N_at N_beside  out H locs (F0 m 23 ls [])) v := by
    intro H_inside
    refine loopO_ind (fun (v : Int32 × Int32 × Int32) => ∀ (H : Heap) (locs : List Loc) (ls : Array Slot), WI D A s.heap (wH cI cJ cZ h0 h1 n0 n1 n2 n3 n4 n5 n6 H_inside N_postCount N_roadCount N_first N_second N_number N_allowed N_at N_beside) H locs → lv_has ls 5 [(0, .ref h0), (1, .int v.1), (2, .int v.2.1), (3, .int v.2.2)] → GX2_neediest p l e s m below meth c D cI cJ cZ h0 h1 n0 n1 n2 n3 n4 n5 n6 H_inside_0 N_postCount N_roadCount N_first N_second N_number N_allowed N_at N_beside  out H locs (F0 m 23 ls [])) (fun z : Int32 × (Nat → Int32) => z = out) ?_
    intro v x hf hM H locs ls hI hl
    refine lv_iload_n hx hb dX2_neediest_23 rfl (lv_at hl 3 rfl) ?_
    refine lv_aload_n hx hb dX2_neediest_24 rfl (lv_at hl 0 rfl) ?_
    refine w_get hx hb hg hown hK hI iX2 0 rfl rfl 0 (by decide) wF_RX2_15 rfl dX2_neediest_25 ?_
    obtain ⟨o2, ho2, hf⟩ := bd_e hf
    refine w_Vi0 (wc := (wN cI cJ cZ n0 n1 n2 n3 n4 n5 n6 N_postCount N_roadCount N_first N_second N_number N_allowed N_at N_beside)) (wr := [(h0, .inr (2, [.ref n0, .ref h1])), (h1, .inl (cI, 4096, .inl H_inside))]) (rest := [.int v.2.2]) hx hb hml hg hown hK hA hI (kX3_allPosts l D cI cJ cZ n0 n1 n2 n3 n4 n5 n6 N_postCount N_roadCount N_first N_second N_number N_allowed N_at N_beside  o2 ho2) kvX3_allPosts wL_RX2_42 ⟨Nat.le_of_ble_eq_true rfl, Nat.le_of_ble_eq_true rfl⟩ rfl rfl [2, 3, 4, 5, 6, 7, 8] [0, 1] rfl rfl rfl rfl (by decide) rfl rfl hl.1 (Nat.le_of_ble_eq_true rfl) dX2_neediest_28 ⟨Nat.zero_le _, Nat.zero_le _⟩ ⟨rfl, rfl⟩ (fun r u H locs hp hI => ?_)
    replace hp : r = o2 := hp
    rw [hp]
    clear hp
    replace hI : WI D A s.heap (wH cI cJ cZ h0 h1 n0 n1 n2 n3 n4 n5 n6 H_inside N_postCount N_roadCount N_first N_second N_number N_allowed N_at N_beside) H locs := hI
    refine lv_icmp_gt (tgt := 81) hx hb dX2_neediest_31 (by decide) (fun hc => ?_) (fun hc => ?_)
    · replace hf := ite_t hc hf
      refine lv_iload_n hx hb dX2_neediest_81 rfl (lv_at hl 1 rfl) ?_
      replace hf := Option.some.inj hf
      subst hf
      replace hM : (v.1, H_inside) = out := hM
      subst hM
      exact rt_i (u := ()) hx hb hr hlocks rfl hI hAe rfl dX2_neediest_82
    · replace hf := ite_f hc hf
      refine lv_iload_n hx hb dX2_neediest_34 rfl (lv_at hl 3 rfl) ?_
      obtain ⟨x3, hx3, hf⟩ := bd_e hf
      refine w_S (rest := []) hx hb hml hg hown hK (kJ6_bitCount_0f7a4 l D cI cJ cZ v.2.2 x3 hx3) ksJ6_bitCount_0f7a4 wL_RX2_23 ⟨Nat.le_of_ble_eq_true rfl, Nat.le_of_ble_eq_true rfl⟩ ⟨rfl, rfl⟩ rfl rfl hl.1 (Nat.le_of_ble_eq_true rfl) dX2_neediest_35 ⟨Nat.zero_le _, Nat.zero_le _⟩ ?_
      refine lv_istore (lv' := [(4, .int x3), (0, .ref h0), (1, .int v.1), (2, .int v.2.1), (3, .int v.2.2)]) hx hb dX2_neediest_38 hl (by decide) rfl (fun ls hl => ?_)
      refine lv_iload hx hb dX2_neediest_40 (lv_at hl 0 rfl) ?_
      refine lv_iconst (v := 3) hx hb dX2_neediest_42 (by decide) ?_
      refine lv_icmp_lt (tgt := 75) hx hb dX2_neediest_43 (by decide) (fun hc => ?_) (fun hc => ?_)
      · replace hf := ite_t hc hf
        obtain ⟨x4, ex4⟩ : ∃ y : Int32, y = (v.2.2 + (1 : Int32)) := ⟨_, rfl⟩
        replace hf := bnd_e hf x4 ex4
        refine lv_iinc (v := x4) (lv' := [(3, .int x4), (4, .int x3), (0, .ref h0), (1, .int v.1), (2, .int v.2.1)]) hx hb dX2_neediest_75 hl (k := 4) rfl (by rw [ex4]; rfl) (by decide) rfl (fun ls hl => ?_)
        refine lv_goto (tgt := 23) hx hb dX2_neediest_78 (by decide) ?_
        replace hf := Option.some.inj hf
        subst hf
        exact hM _ _ _ hI (lv_sub hl [2, 3, 4, 0] rfl)
      · replace hf := ite_f hc hf
        refine lv_aload_n hx hb dX2_neediest_46 rfl (lv_at hl 1 rfl) ?_
        refine w_get hx hb hg hown hK hI iX2 0 rfl rfl 1 (by decide) wF_RX2_9 rfl dX2_neediest_47 ?_
        refine lv_iload_n hx hb dX2_neediest_50 rfl (lv_at hl 4 rfl) ?_
        obtain ⟨hin, hf⟩ := rd_e hf
        refine w_iald hx hb hK hI 1 rfl hin dX2_neediest_51 (fun x5 ex5 => ?_)
        replace hf := hf x5 ex5
        refine lv_iload hx hb dX2_neediest_52 (lv_at hl 0 rfl) ?_
        obtain ⟨x6, hx6, hf⟩ := bd_e hf
        refine w_N (rest := []) hx hb hml hg hown hK (kX7_needFor l D cI cJ cZ x5 x3 x6 hx6) ksX7_needFor (List.mem_of_getElem? (i := 1) rfl) ⟨Nat.le_of_ble_eq_true rfl, Nat.le_of_ble_eq_true rfl⟩ ⟨rfl, rfl⟩ rfl rfl hl.1 (Nat.le_of_ble_eq_true rfl) dX2_neediest_54 ⟨Nat.zero_le _, Nat.zero_le _⟩ ?_
        refine lv_iload_n hx hb dX2_neediest_57 rfl (lv_at hl 3 rfl) ?_
        refine lv_icmp_le (tgt := 75) hx hb dX2_neediest_58 (by decide) (fun hc => ?_) (fun hc => ?_)
        · replace hf := ite_t hc hf
          obtain ⟨x7, ex7⟩ : ∃ y : Int32, y = (v.2.2 + (1 : Int32)) := ⟨_, rfl⟩
          replace hf := bnd_e hf x7 ex7
          refine lv_iinc (v := x7) (lv' := [(3, .int x7), (4, .int x3), (0, .ref h0), (1, .int v.1), (2, .int v.2.1)]) hx hb dX2_neediest_75 hl (k := 4) rfl (by rw [ex7]; rfl) (by decide) rfl (fun ls hl => ?_)
          refine lv_goto (tgt := 23) hx hb dX2_neediest_78 (by decide) ?_
          replace hf := Option.some.inj hf
          subst hf
          exact hM _ _ _ hI (lv_sub hl [2, 3, 4, 0] rfl)
        · replace hf := ite_f hc hf
          refine lv_iload_n hx hb dX2_neediest_61 rfl (lv_at hl 4 rfl) ?_
          refine lv_istore_n (lv' := [(1, .int v.2.2), (4, .int x3), (0, .ref h0), (2, .int v.2.1), (3, .int v.2.2)]) hx hb dX2_neediest_62 rfl hl (by decide) rfl (fun ls hl => ?_)
          refine lv_aload_n hx hb dX2_neediest_63 rfl (lv_at hl 2 rfl) ?_
          refine w_get hx hb hg hown hK hI iX2 0 rfl rfl 1 (by decide) wF_RX2_9 rfl dX2_neediest_64 ?_
          refine lv_iload_n hx hb dX2_neediest_67 rfl (lv_at hl 4 rfl) ?_
          obtain ⟨hin, hf⟩ := rd_e hf
          refine w_iald hx hb hK hI 1 rfl hin dX2_neediest_68 (fun x8 ex8 => ?_)
          replace hf := hf x8 ex8
          refine lv_iload hx hb dX2_neediest_69 (lv_at hl 1 rfl) ?_
          obtain ⟨x9, hx9, hf⟩ := bd_e hf
          refine w_N (rest := []) hx hb hml hg hown hK (kX7_needFor l D cI cJ cZ x8 x3 x9 hx9) ksX7_needFor (List.mem_of_getElem? (i := 1) rfl) ⟨Nat.le_of_ble_eq_true rfl, Nat.le_of_ble_eq_true rfl⟩ ⟨rfl, rfl⟩ rfl rfl hl.1 (Nat.le_of_ble_eq_true rfl) dX2_neediest_71 ⟨Nat.zero_le _, Nat.zero_le _⟩ ?_
          refine lv_istore_n (lv' := [(2, .int x9), (1, .int v.2.2), (4, .int x3), (0, .ref h0), (3, .int v.2.2)]) hx hb dX2_neediest_74 rfl hl (by decide) rfl (fun ls hl => ?_)
          obtain ⟨x10, ex10⟩ : ∃ y : Int32, y = (v.2.2 + (1 : Int32)) := ⟨_, rfl⟩
          replace hf := bnd_e hf x10 ex10
          refine lv_iinc (v := x10) (lv' := [(3, .int x10), (2, .int x9), (1, .int v.2.2), (4, .int x3), (0, .ref h0)]) hx hb dX2_neediest_75 hl (k := 4) rfl (by rw [ex10]; rfl) (by decide) rfl (fun ls hl => ?_)
          refine lv_goto (tgt := 23) hx hb dX2_neediest_78 (by decide) ?_
          replace hf := Option.some.inj hf
          subst hf
          exact hM _ _ _ hI (lv_sub hl [4, 2, 1, 0] rfl)
  obtain ⟨x, hf, hM⟩ : ∃ x, FX2_neediest H_inside_0 N_postCount N_at = some x ∧ x = out := ⟨out, hf, rfl⟩
  refine lv_aload_n hx hb dX2_neediest_0 rfl (lv_at hl 0 rfl) ?_
  refine w_get hx hb hg hown hK hI iX2 0 rfl rfl 0 (by decide) wF_RX2_15 rfl dX2_neediest_1 ?_
  refine w_get hx hb hg hown hK hI iX3 2 rfl rfl 0 (by decide) wF_RX2_33 rfl dX2_neediest_4 ?_
  refine lv_iconst (v := 3) hx hb dX2_neediest_7 (by decide) ?_
  refine lv_icmp_ge (tgt := 13) hx hb dX2_neediest_8 (by decide) (fun hc => ?_) (fun hc => ?_)
  · replace hf := ite_t hc hf
    refine lv_aload_n hx hb dX2_neediest_13 rfl (lv_at hl 0 rfl) ?_
    obtain ⟨o1, ho1, hf⟩ := bd_e hf
    refine w_Vv0 (wc := (wH cI cJ cZ h0 h1 n0 n1 n2 n3 n4 n5 n6 H_inside_0 N_postCount N_roadCount N_first N_second N_number N_allowed N_at N_beside)) (wr := []) (rest := []) hx hb hml hg hown hK hA hI (kX2_countInside l D cI cJ cZ h0 h1 n0 n1 n2 n3 n4 n5 n6 H_inside_0 N_postCount N_roadCount N_first N_second N_number N_allowed N_at N_beside  o1 ho1) kvX2_countInside wL_RX2_39 ⟨Nat.le_of_ble_eq_true rfl, Nat.le_of_ble_eq_true rfl⟩ rfl rfl [0, 1, 2, 3, 4, 5, 6, 7, 8] [] rfl rfl rfl rfl (by decide) rfl rfl hl.1 (Nat.le_of_ble_eq_true rfl) dX2_neediest_14 ⟨Nat.zero_le _, Nat.zero_le _⟩ ⟨rfl, rfl⟩ (fun  u H locs hp hI => ?_)
    replace hI : WI D A s.heap (wH cI cJ cZ h0 h1 n0 n1 n2 n3 n4 n5 n6 o1 N_postCount N_roadCount N_first N_second N_number N_allowed N_at N_beside) H locs := hI
    refine lv_iconst (v := -1) hx hb dX2_neediest_17 (by decide) ?_
    refine lv_istore_n (lv' := [(1, .int (-1 : Int32)), (0, .ref h0)]) hx hb dX2_neediest_18 rfl hl (by decide) rfl (fun ls hl => ?_)
    refine lv_iconst (v := -1) hx hb dX2_neediest_19 (by decide) ?_
    refine lv_istore_n (lv' := [(2, .int (-1 : Int32)), (1, .int (-1 : Int32)), (0, .ref h0)]) hx hb dX2_neediest_20 rfl hl (by decide) rfl (fun ls hl => ?_)
    refine lv_iconst (v := 0) hx hb dX2_neediest_21 (by decide) ?_
    refine lv_istore_n (lv' := [(3, .int (0 : Int32)), (2, .int (-1 : Int32)), (1, .int (-1 : Int32)), (0, .ref h0)]) hx hb dX2_neediest_22 rfl hl (by decide) rfl (fun ls hl => ?_)
    exact L23 o1 ((-1 : Int32), (-1 : Int32), (0 : Int32)) _ hf hM _ _ _ hI (lv_sub hl [3, 2, 1, 0] rfl)
  · replace hf := ite_f hc hf
    refine lv_iconst (v := -1) hx hb dX2_neediest_11 (by decide) ?_
    replace hf := Option.some.inj hf
    subst hf
    replace hM : ((-1 : Int32), H_inside_0) = out := hM
    subst hM
    exact rt_i (u := ()) hx hb hr hlocks rfl hI hAe rfl dX2_neediest_12
noncomputable def FX2_greatestNeed (H_inside_0 : Nat → Int32) (N_postCount : Int32) (N_at : Nat → Int32)  : Option (Int32 × (Nat → Int32)) :=
  (FX2_neediest H_inside_0 N_postCount N_at).bind (fun o1 => if o1.1 = (-1 : Int32) then (some ((0 : Int32), o1.2)) else (rd o1.2 4096 o1.1 (fun x2 => (FJ6_bitCount_0f7a4 o1.1).bind (fun x3 => (FX7_needFor x2 x3).bind (fun x4 => some (x4, o1.2))))))
abbrev GX2_greatestNeed (p : Program) (l : Launch) (e : Env) (s : State) (m : MethodId) (below : List Frame) (meth : Method) (c : Code) (D : va_G) (cI cJ cZ : ClassId) (h0 h1 n0 n1 n2 n3 n4 n5 n6 : Nat) (H_inside_0 : Nat → Int32) (N_postCount : Int32) (N_roadCount : Int32) (N_first : Nat → Int32) (N_second : Nat → Int32) (N_number : Nat → Int32) (N_allowed : Nat → Int32) (N_at : Nat → Int32) (N_beside : Nat → Int32)  (out : Int32 × (Nat → Int32)) (H : Heap) (locs : List Loc) (g : JFrame) : Prop := W p l e (headSpec (Cond.code yX2_greatestNeed cX2_greatestNeed 2 (some .int) :: GW) { frames := 5, cells := 0, slots := 0, locals := 111 }).room s m ([.ref h0] : List Value).toArray below meth c H locs 0 0 (MQ below (va_Qi (fun r (_ : Unit) => r = out.1) (BW D (wH cI cJ cZ h0 h1 n0 n1 n2 n3 n4 n5 n6 H_inside_0 N_postCount N_roadCount N_first N_second N_number N_allowed N_at N_beside) s.heap.size (fun _ => (wH cI cJ cZ h0 h1 n0 n1 n2 n3 n4 n5 n6 out.2 N_postCount N_roadCount N_first N_second N_number N_allowed N_at N_beside))) (va_A (wH cI cJ cZ h0 h1 n0 n1 n2 n3 n4 n5 n6 H_inside_0 N_postCount N_roadCount N_first N_second N_number N_allowed N_at N_beside) s.heap.size)) ([.ref h0] : List Value).toArray s 0 0 (va_A (wH cI cJ cZ h0 h1 n0 n1 n2 n3 n4 n5 n6 H_inside_0 N_postCount N_roadCount N_first N_second N_number N_allowed N_at N_beside) s.heap.size)) g
theorem kvX2_greatestNeed : CalV RX2 yX2_greatestNeed cX2_greatestNeed 2 (some .int) 0 := ⟨wC_yX2_greatestNeed, wM_yX2_greatestNeed, wS_yX2_greatestNeed, wI_RX2, by decide +kernel⟩
set_option maxHeartbeats 4000000 in
set_option maxRecDepth 100000 in
theorem kX2_greatestNeed (l : Launch) (D : va_G) (cI cJ cZ : ClassId) (h0 h1 n0 n1 n2 n3 n4 n5 n6 : Nat) (H_inside_0 : Nat → Int32) (N_postCount : Int32) (N_roadCount : Int32) (N_first : Nat → Int32) (N_second : Nat → Int32) (N_number : Nat → Int32) (N_allowed : Nat → Int32) (N_at : Nat → Int32) (N_beside : Nat → Int32)  (out : Int32 × (Nat → Int32)) (hf : FX2_greatestNeed H_inside_0 N_postCount N_at = some out) : MI l yX2_greatestNeed (Cond.code yX2_greatestNeed cX2_greatestNeed 2 (some .int) :: GW) { frames := 5, cells := 0, slots := 0, locals := 111 } D cI cJ cZ [.ref h0] (wH cI cJ cZ h0 h1 n0 n1 n2 n3 n4 n5 n6 H_inside_0 N_postCount N_roadCount N_first N_second N_number N_allowed N_at N_beside) (fun r (_ : Unit) => r = out.1) (fun _ => (wH cI cJ cZ h0 h1 n0 n1 n2 n3 n4 n5 n6 out.2 N_postCount N_roadCount N_first N_second N_number N_allowed N_at N_beside)) := by
  intro sz
  refine Met.ofW (cc := cX2_greatestNeed) (maxL := 2) (ret := (some .int)) (by decide +kernel) rfl ?_
  intro p e s m args below meth c s₁ B hml hv
  obtain ⟨rfl, hsz, hP, hK, hD0⟩ := hv
  have hx := B.exec
  have hb := B.bytes
  have hr := B.returns
  have hlocks := B.notSynchronized
  have hg : ∀ w ∈ GW, w.before _ s = true := fun w h => atoms_spec (ws := Cond.code yX2_greatestNeed cX2_greatestNeed 2 (some .int) :: GW) B.pre w (List.mem_cons_of_mem _ h)
  have hown : s.vm.findClass RX2 = some m.cls := findClass_of_methodNamed B.named
  subst hsz
  obtain ⟨A, hAe⟩ : ∃ A, A = va_A (wH cI cJ cZ h0 h1 n0 n1 n2 n3 n4 n5 n6 H_inside_0 N_postCount N_roadCount N_first N_second N_number N_allowed N_at N_beside) s.heap.size := ⟨_, rfl⟩
  have hA : ∀ q : Nat, s.heap.size ≤ q → A q := fun q h => by rw [hAe]; exact Or.inr h
  have hI : WI D A s.heap (wH cI cJ cZ h0 h1 n0 n1 n2 n3 n4 n5 n6 H_inside_0 N_postCount N_roadCount N_first N_second N_number N_allowed N_at N_beside) s.heap [] := ⟨hP, by rw [hAe]; exact hD0.self, va_S.rf⟩
  have hl := lv_entry [.ref h0] (n := 2) (Nat.le_of_ble_eq_true rfl)
  rw [lg_entry_eq]
  generalize (lg_sl [.ref h0] ++ List.replicate (2 - (lg_sl [.ref h0]).length) Slot.unset).toArray = ls at hl ⊢
  replace hl : lv_has ls 2 [(0, .ref h0)] := hl
  obtain ⟨x, hf, hM⟩ : ∃ x, FX2_greatestNeed H_inside_0 N_postCount N_at = some x ∧ x = out := ⟨out, hf, rfl⟩
  refine lv_aload_n hx hb dX2_greatestNeed_0 rfl (lv_at hl 0 rfl) ?_
  obtain ⟨o1, ho1, hf⟩ := bd_e hf
  refine w_Vi0 (wc := (wH cI cJ cZ h0 h1 n0 n1 n2 n3 n4 n5 n6 H_inside_0 N_postCount N_roadCount N_first N_second N_number N_allowed N_at N_beside)) (wr := []) (rest := []) hx hb hml hg hown hK hA hI (kX2_neediest l D cI cJ cZ h0 h1 n0 n1 n2 n3 n4 n5 n6 H_inside_0 N_postCount N_roadCount N_first N_second N_number N_allowed N_at N_beside  o1 ho1) kvX2_neediest wL_RX2_19 ⟨Nat.le_of_ble_eq_true rfl, Nat.le_of_ble_eq_true rfl⟩ rfl rfl [0, 1, 2, 3, 4, 5, 6, 7, 8] [] rfl rfl rfl rfl (by decide) rfl rfl hl.1 (Nat.le_of_ble_eq_true rfl) dX2_greatestNeed_1 ⟨Nat.zero_le _, Nat.zero_le _⟩ ⟨rfl, rfl⟩ (fun r u H locs hp hI => ?_)
  replace hp : r = o1.1 := hp
  rw [hp]
  clear hp
  replace hI : WI D A s.heap (wH cI cJ cZ h0 h1 n0 n1 n2 n3 n4 n5 n6 o1.2 N_postCount N_roadCount N_first N_second N_number N_allowed N_at N_beside) H locs := hI
  refine lv_istore_n (lv' := [(1, .int o1.1), (0, .ref h0)]) hx hb dX2_greatestNeed_4 rfl hl (by decide) rfl (fun ls hl => ?_)
  refine lv_iload_n hx hb dX2_greatestNeed_5 rfl (lv_at hl 0 rfl) ?_
  refine lv_iconst (v := -1) hx hb dX2_greatestNeed_6 (by decide) ?_
  refine lv_icmp_ne (tgt := 12) hx hb dX2_greatestNeed_7 (by decide) (fun hc => ?_) (fun hc => ?_)
  · replace hf := ite_f hc hf
    refine lv_aload_n hx hb dX2_greatestNeed_12 rfl (lv_at hl 1 rfl) ?_
    refine w_get hx hb hg hown hK hI iX2 0 rfl rfl 1 (by decide) wF_RX2_9 rfl dX2_greatestNeed_13 ?_
    refine lv_iload_n hx hb dX2_greatestNeed_16 rfl (lv_at hl 0 rfl) ?_
    obtain ⟨hin, hf⟩ := rd_e hf
    refine w_iald hx hb hK hI 1 rfl hin dX2_greatestNeed_17 (fun x2 ex2 => ?_)
    replace hf := hf x2 ex2
    refine lv_iload_n hx hb dX2_greatestNeed_18 rfl (lv_at hl 0 rfl) ?_
    obtain ⟨x3, hx3, hf⟩ := bd_e hf
    refine w_S (rest := [.int x2]) hx hb hml hg hown hK (kJ6_bitCount_0f7a4 l D cI cJ cZ o1.1 x3 hx3) ksJ6_bitCount_0f7a4 wL_RX2_23 ⟨Nat.le_of_ble_eq_true rfl, Nat.le_of_ble_eq_true rfl⟩ ⟨rfl, rfl⟩ rfl rfl hl.1 (Nat.le_of_ble_eq_true rfl) dX2_greatestNeed_19 ⟨Nat.zero_le _, Nat.zero_le _⟩ ?_
    obtain ⟨x4, hx4, hf⟩ := bd_e hf
    refine w_N (rest := []) hx hb hml hg hown hK (kX7_needFor l D cI cJ cZ x2 x3 x4 hx4) ksX7_needFor (List.mem_of_getElem? (i := 1) rfl) ⟨Nat.le_of_ble_eq_true rfl, Nat.le_of_ble_eq_true rfl⟩ ⟨rfl, rfl⟩ rfl rfl hl.1 (Nat.le_of_ble_eq_true rfl) dX2_greatestNeed_22 ⟨Nat.zero_le _, Nat.zero_le _⟩ ?_
    replace hf := Option.some.inj hf
    subst hf
    replace hM : (x4, o1.2) = out := hM
    subst hM
    exact rt_i (u := ()) hx hb hr hlocks rfl hI hAe rfl dX2_greatestNeed_25
  · replace hf := ite_t hc hf
    refine lv_iconst (v := 0) hx hb dX2_greatestNeed_10 (by decide) ?_
    replace hf := Option.some.inj hf
    subst hf
    replace hM : ((0 : Int32), o1.2) = out := hM
    subst hM
    exact rt_i (u := ()) hx hb hr hlocks rfl hI hAe rfl dX2_greatestNeed_11
