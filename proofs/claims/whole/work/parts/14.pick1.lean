noncomputable def X4_allowBelow_L2 (N_roadCount : Int32) (l1 : Int32) (v : (Nat → Int32) × Int32) : Option (((Nat → Int32) × Int32) ⊕ ((Nat → Int32))) :=
  if N_roadCount ≤ v.2 then (some (.inr v.1)) else (wr v.1 12 v.2 (((1 : Int32) <<< (l1 &&& (31 : Int32))) - (1 : Int32)) (fun g1 => bnd (v.2 + (1 : Int32)) (fun x2 => some (.inl (g1, x2)))))
noncomputable def FX4_allowBelow (P_can_0 : Nat → Int32) (N_roadCount : Int32) (a1 : Int32) : Option ((Nat → Int32)) :=
  loopO (X4_allowBelow_L2 N_roadCount a1) (P_can_0, (0 : Int32))
abbrev GX4_allowBelow (p : Program) (l : Launch) (e : Env) (s : State) (m : MethodId) (below : List Frame) (meth : Method) (c : Code) (D : va_G) (cI cJ cZ : ClassId) (p0 p1 p2 p3 n0 n1 n2 n3 n4 n5 n6 : Nat) (P_can_0 : Nat → Int32) (P_picked : Nat → Int32) (P_left : Nat → Int32) (N_postCount : Int32) (N_roadCount : Int32) (N_first : Nat → Int32) (N_second : Nat → Int32) (N_number : Nat → Int32) (N_allowed : Nat → Int32) (N_at : Nat → Int32) (N_beside : Nat → Int32) (a1 : Int32) (out : (Nat → Int32)) (H : Heap) (locs : List Loc) (g : JFrame) : Prop := W p l e (headSpec (Cond.code yX4_allowBelow cX4_allowBelow 3 none :: GW) { frames := 0, cells := 0, slots := 0, locals := 0 }).room s m ([.ref p0, .int a1] : List Value).toArray below meth c H locs 0 0 (MQ below (va_Qv (fun (_ : Unit) => True) (BW D (wP cI cJ cZ p0 p1 p2 p3 n0 n1 n2 n3 n4 n5 n6 P_can_0 P_picked P_left N_postCount N_roadCount N_first N_second N_number N_allowed N_at N_beside) s.heap.size (fun _ => (wP cI cJ cZ p0 p1 p2 p3 n0 n1 n2 n3 n4 n5 n6 out P_picked P_left N_postCount N_roadCount N_first N_second N_number N_allowed N_at N_beside))) (va_A (wP cI cJ cZ p0 p1 p2 p3 n0 n1 n2 n3 n4 n5 n6 P_can_0 P_picked P_left N_postCount N_roadCount N_first N_second N_number N_allowed N_at N_beside) s.heap.size)) ([.ref p0, .int a1] : List Value).toArray s 0 0 (va_A (wP cI cJ cZ p0 p1 p2 p3 n0 n1 n2 n3 n4 n5 n6 P_can_0 P_picked P_left N_postCount N_roadCount N_first N_second N_number N_allowed N_at N_beside) s.heap.size)) g
theorem kvX4_allowBelow : CalV RX4 yX4_allowBelow cX4_allowBelow 3 none 1 := ⟨wC_yX4_allowBelow, wM_yX4_allowBelow, wS_yX4_allowBelow, wI_RX4, by decide +kernel⟩
set_option maxHeartbeats 4000000 in
set_option maxRecDepth 100000 in
theorem kX4_allowBelow (l : Launch) (D : va_G) (cI cJ cZ : ClassId) (p0 p1 p2 p3 n0 n1 n2 n3 n4 n5 n6 : Nat) (P_can_0 : Nat → Int32) (P_picked : Nat → Int32) (P_left : Nat → Int32) (N_postCount : Int32) (N_roadCount : Int32) (N_first : Nat → Int32) (N_second : Nat → Int32) (N_number : Nat → Int32) (N_allowed : Nat → Int32) (N_at : Nat → Int32) (N_beside : Nat → Int32) (a1 : Int32) (out : (Nat → Int32)) (hf : FX4_allowBelow P_can_0 N_roadCount a1 = some out) : MV l yX4_allowBelow (Cond.code yX4_allowBelow cX4_allowBelow 3 none :: GW) { frames := 0, cells := 0, slots := 0, locals := 0 } D cI cJ cZ [.ref p0, .int a1] (wP cI cJ cZ p0 p1 p2 p3 n0 n1 n2 n3 n4 n5 n6 P_can_0 P_picked P_left N_postCount N_roadCount N_first N_second N_number N_allowed N_at N_beside) (fun (_ : Unit) => True) (fun _ => (wP cI cJ cZ p0 p1 p2 p3 n0 n1 n2 n3 n4 n5 n6 out P_picked P_left N_postCount N_roadCount N_first N_second N_number N_allowed N_at N_beside)) := by
  intro sz
  refine Met.ofW (cc := cX4_allowBelow) (maxL := 3) (ret := none) (by decide +kernel) rfl ?_
  intro p e s m args below meth c s₁ B hml hv
  obtain ⟨rfl, hsz, hP, hK, hD0⟩ := hv
  have hx := B.exec
  have hb := B.bytes
  have hr := B.returns
  have hlocks := B.notSynchronized
  have hg : ∀ w ∈ GW, w.before _ s = true := fun w h => atoms_spec (ws := Cond.code yX4_allowBelow cX4_allowBelow 3 none :: GW) B.pre w (List.mem_cons_of_mem _ h)
  have hown : s.vm.findClass RX4 = some m.cls := findClass_of_methodNamed B.named
  subst hsz
  obtain ⟨A, hAe⟩ : ∃ A, A = va_A (wP cI cJ cZ p0 p1 p2 p3 n0 n1 n2 n3 n4 n5 n6 P_can_0 P_picked P_left N_postCount N_roadCount N_first N_second N_number N_allowed N_at N_beside) s.heap.size := ⟨_, rfl⟩
  have hA : ∀ q : Nat, s.heap.size ≤ q → A q := fun q h => by rw [hAe]; exact Or.inr h
  have hI : WI D A s.heap (wP cI cJ cZ p0 p1 p2 p3 n0 n1 n2 n3 n4 n5 n6 P_can_0 P_picked P_left N_postCount N_roadCount N_first N_second N_number N_allowed N_at N_beside) s.heap [] := ⟨hP, by rw [hAe]; exact hD0.self, va_S.rf⟩
  have hl := lv_entry [.ref p0, .int a1] (n := 3) (Nat.le_of_ble_eq_true rfl)
  rw [lg_entry_eq]
  generalize (lg_sl [.ref p0, .int a1] ++ List.replicate (3 - (lg_sl [.ref p0, .int a1]).length) Slot.unset).toArray = ls at hl ⊢
  replace hl : lv_has ls 3 [(0, .ref p0), (1, .int a1)] := hl
  have L2 : ∀ (l1 : Int32), ∀ (v : (Nat → Int32) × Int32) (x : (Nat → Int32)), loopO (X4_allowBelow_L2 N_roadCount l1) v = some x → (fun z : (Nat → Int32) => z = out) x → (fun (v : (Nat → Int32) × Int32) => ∀ (H : Heap) (locs : List Loc) (ls : Array Slot), WI D A s.heap (wP cI cJ cZ p0 p1 p2 p3 n0 n1 n2 n3 n4 n5 n6 v.1 P_picked P_left N_postCount N_roadCount N_first N_second N_number N_allowed N_at N_beside) H locs → lv_has ls 3 [(0, .ref p0), (1, .int l1), (2, .int v.2)] → GX4_allowBelow p l e s m below meth c D cI cJ cZ p0 p1 p2 p3 n0 n1 n2 n3 n4 n5 n6 P_can_0 P_picked P_left N_postCount N_roadCount N_first N_second N_number N_allowed N_at N_beside a1 out H locs (F0 m 2 ls [])) v := by
    intro l1
    refine loopO_ind (fun (v : (Nat → Int32) × Int32) => ∀ (H : Heap) (locs : List Loc) (ls : Array Slot), WI D A s.heap (wP cI cJ cZ p0 p1 p2 p3 n0 n1 n2 n3 n4 n5 n6 v.1 P_picked P_left N_postCount N_roadCount N_first N_second N_number N_allowed N_at N_beside) H locs → lv_has ls 3 [(0, .ref p0), (1, .int l1), (2, .int v.2)] → GX4_allowBelow p l e s m below meth c D cI cJ cZ p0 p1 p2 p3 n0 n1 n2 n3 n4 n5 n6 P_can_0 P_picked P_left N_postCount N_roadCount N_first N_second N_number N_allowed N_at N_beside a1 out H locs (F0 m 2 ls [])) (fun z : (Nat → Int32) => z = out) ?_
    intro v x hf hM H locs ls hI hl
    refine lv_iload_n hx hb dX4_allowBelow_2 rfl (lv_at hl 2 rfl) ?_
    refine lv_aload_n hx hb dX4_allowBelow_3 rfl (lv_at hl 0 rfl) ?_
    refine w_get hx hb hg hown hK hI iX4 0 rfl rfl 0 (by decide) wF_RX4_22 rfl dX4_allowBelow_4 ?_
    refine w_get hx hb hg hown hK hI iX3 4 rfl rfl 1 (by decide) wF_RX4_26 rfl dX4_allowBelow_7 ?_
    refine lv_icmp_ge (tgt := 30) hx hb dX4_allowBelow_10 (by decide) (fun hc => ?_) (fun hc => ?_)
    · replace hf := ite_t hc hf
      replace hf := Option.some.inj hf
      subst hf
      replace hM : v.1 = out := hM
      subst hM
      exact rt_v (u := ()) hx hb hr hlocks hI hAe trivial dX4_allowBelow_30
    · replace hf := ite_f hc hf
      refine lv_aload_n hx hb dX4_allowBelow_13 rfl (lv_at hl 0 rfl) ?_
      refine w_get hx hb hg hown hK hI iX4 0 rfl rfl 1 (by decide) wF_RX4_9 rfl dX4_allowBelow_14 ?_
      refine lv_iload_n hx hb dX4_allowBelow_17 rfl (lv_at hl 2 rfl) ?_
      refine lv_iconst (v := 1) hx hb dX4_allowBelow_18 (by decide) ?_
      refine lv_iload_n hx hb dX4_allowBelow_19 rfl (lv_at hl 1 rfl) ?_
      refine lv_ishl hx hb dX4_allowBelow_20 ?_
      refine lv_iconst (v := 1) hx hb dX4_allowBelow_21 (by decide) ?_
      refine lv_isub hx hb dX4_allowBelow_22 ?_
      obtain ⟨hin, hf⟩ := wr_e hf
      obtain ⟨g1, eg1⟩ : ∃ g : Nat → Int32, g = upd v.1 (v.2).toNatClampNeg (((1 : Int32) <<< (l1 &&& (31 : Int32))) - (1 : Int32)) := ⟨_, rfl⟩
      replace hf := hf g1 eg1
      refine w_iast (g := g1) (W1 := (wP cI cJ cZ p0 p1 p2 p3 n0 n1 n2 n3 n4 n5 n6 g1 P_picked P_left N_postCount N_roadCount N_first N_second N_number N_allowed N_at N_beside)) hx hb hK hI 1 rfl hin eg1 dX4_allowBelow_23 rfl (fun H locs hI => ?_)
      obtain ⟨x2, ex2⟩ : ∃ y : Int32, y = (v.2 + (1 : Int32)) := ⟨_, rfl⟩
      replace hf := bnd_e hf x2 ex2
      refine lv_iinc (v := x2) (lv' := [(2, .int x2), (0, .ref p0), (1, .int l1)]) hx hb dX4_allowBelow_24 hl (k := 2) rfl (by rw [ex2]; rfl) (by decide) rfl (fun ls hl => ?_)
      refine lv_goto (tgt := 2) hx hb dX4_allowBelow_27 (by decide) ?_
      replace hf := Option.some.inj hf
      subst hf
      exact hM _ _ _ hI (lv_sub hl [1, 2, 0] rfl)
  obtain ⟨x, hf, hM⟩ : ∃ x, FX4_allowBelow P_can_0 N_roadCount a1 = some x ∧ x = out := ⟨out, hf, rfl⟩
  refine lv_iconst (v := 0) hx hb dX4_allowBelow_0 (by decide) ?_
  refine lv_istore_n (lv' := [(2, .int (0 : Int32)), (0, .ref p0), (1, .int a1)]) hx hb dX4_allowBelow_1 rfl hl (by decide) rfl (fun ls hl => ?_)
  exact L2 a1 (P_can_0, (0 : Int32)) _ hf hM _ _ _ hI (lv_sub hl [1, 2, 0] rfl)
noncomputable def X4_allowListed_L2 (N_roadCount : Int32) (N_allowed : Nat → Int32) (v : (Nat → Int32) × Int32) : Option (((Nat → Int32) × Int32) ⊕ ((Nat → Int32))) :=
  if N_roadCount ≤ v.2 then (some (.inr v.1)) else (rd N_allowed 24 v.2 (fun x1 => wr v.1 12 v.2 x1 (fun g2 => bnd (v.2 + (1 : Int32)) (fun x3 => some (.inl (g2, x3))))))
noncomputable def FX4_allowListed (P_can_0 : Nat → Int32) (N_roadCount : Int32) (N_allowed : Nat → Int32)  : Option ((Nat → Int32)) :=
  loopO (X4_allowListed_L2 N_roadCount N_allowed) (P_can_0, (0 : Int32))
abbrev GX4_allowListed (p : Program) (l : Launch) (e : Env) (s : State) (m : MethodId) (below : List Frame) (meth : Method) (c : Code) (D : va_G) (cI cJ cZ : ClassId) (p0 p1 p2 p3 n0 n1 n2 n3 n4 n5 n6 : Nat) (P_can_0 : Nat → Int32) (P_picked : Nat → Int32) (P_left : Nat → Int32) (N_postCount : Int32) (N_roadCount : Int32) (N_first : Nat → Int32) (N_second : Nat → Int32) (N_number : Nat → Int32) (N_allowed : Nat → Int32) (N_at : Nat → Int32) (N_beside : Nat → Int32)  (out : (Nat → Int32)) (H : Heap) (locs : List Loc) (g : JFrame) : Prop := W p l e (headSpec (Cond.code yX4_allowListed cX4_allowListed 2 none :: GW) { frames := 0, cells := 0, slots := 0, locals := 0 }).room s m ([.ref p0] : List Value).toArray below meth c H locs 0 0 (MQ below (va_Qv (fun (_ : Unit) => True) (BW D (wP cI cJ cZ p0 p1 p2 p3 n0 n1 n2 n3 n4 n5 n6 P_can_0 P_picked P_left N_postCount N_roadCount N_first N_second N_number N_allowed N_at N_beside) s.heap.size (fun _ => (wP cI cJ cZ p0 p1 p2 p3 n0 n1 n2 n3 n4 n5 n6 out P_picked P_left N_postCount N_roadCount N_first N_second N_number N_allowed N_at N_beside))) (va_A (wP cI cJ cZ p0 p1 p2 p3 n0 n1 n2 n3 n4 n5 n6 P_can_0 P_picked P_left N_postCount N_roadCount N_first N_second N_number N_allowed N_at N_beside) s.heap.size)) ([.ref p0] : List Value).toArray s 0 0 (va_A (wP cI cJ cZ p0 p1 p2 p3 n0 n1 n2 n3 n4 n5 n6 P_can_0 P_picked P_left N_postCount N_roadCount N_first N_second N_number N_allowed N_at N_beside) s.heap.size)) g
theorem kvX4_allowListed : CalV RX4 yX4_allowListed cX4_allowListed 2 none 0 := ⟨wC_yX4_allowListed, wM_yX4_allowListed, wS_yX4_allowListed, wI_RX4, by decide +kernel⟩
set_option maxHeartbeats 4000000 in
set_option maxRecDepth 100000 in
theorem kX4_allowListed (l : Launch) (D : va_G) (cI cJ cZ : ClassId) (p0 p1 p2 p3 n0 n1 n2 n3 n4 n5 n6 : Nat) (P_can_0 : Nat → Int32) (P_picked : Nat → Int32) (P_left : Nat → Int32) (N_postCount : Int32) (N_roadCount : Int32) (N_first : Nat → Int32) (N_second : Nat → Int32) (N_number : Nat → Int32) (N_allowed : Nat → Int32) (N_at : Nat → Int32) (N_beside : Nat → Int32)  (out : (Nat → Int32)) (hf : FX4_allowListed P_can_0 N_roadCount N_allowed = some out) : MV l yX4_allowListed (Cond.code yX4_allowListed cX4_allowListed 2 none :: GW) { frames := 0, cells := 0, slots := 0, locals := 0 } D cI cJ cZ [.ref p0] (wP cI cJ cZ p0 p1 p2 p3 n0 n1 n2 n3 n4 n5 n6 P_can_0 P_picked P_left N_postCount N_roadCount N_first N_second N_number N_allowed N_at N_beside) (fun (_ : Unit) => True) (fun _ => (wP cI cJ cZ p0 p1 p2 p3 n0 n1 n2 n3 n4 n5 n6 out P_picked P_left N_postCount N_roadCount N_first N_second N_number N_allowed N_at N_beside)) := by
  intro sz
  refine Met.ofW (cc := cX4_allowListed) (maxL := 2) (ret := none) (by decide +kernel) rfl ?_
  intro p e s m args below meth c s₁ B hml hv
  obtain ⟨rfl, hsz, hP, hK, hD0⟩ := hv
  have hx := B.exec
  have hb := B.bytes
  have hr := B.returns
  have hlocks := B.notSynchronized
  have hg : ∀ w ∈ GW, w.before _ s = true := fun w h => atoms_spec (ws := Cond.code yX4_allowListed cX4_allowListed 2 none :: GW) B.pre w (List.mem_cons_of_mem _ h)
  have hown : s.vm.findClass RX4 = some m.cls := findClass_of_methodNamed B.named
  subst hsz
  obtain ⟨A, hAe⟩ : ∃ A, A = va_A (wP cI cJ cZ p0 p1 p2 p3 n0 n1 n2 n3 n4 n5 n6 P_can_0 P_picked P_left N_postCount N_roadCount N_first N_second N_number N_allowed N_at N_beside) s.heap.size := ⟨_, rfl⟩
  have hA : ∀ q : Nat, s.heap.size ≤ q → A q := fun q h => by rw [hAe]; exact Or.inr h
  have hI : WI D A s.heap (wP cI cJ cZ p0 p1 p2 p3 n0 n1 n2 n3 n4 n5 n6 P_can_0 P_picked P_left N_postCount N_roadCount N_first N_second N_number N_allowed N_at N_beside) s.heap [] := ⟨hP, by rw [hAe]; exact hD0.self, va_S.rf⟩
  have hl := lv_entry [.ref p0] (n := 2) (Nat.le_of_ble_eq_true rfl)
  rw [lg_entry_eq]
  generalize (lg_sl [.ref p0] ++ List.replicate (2 - (lg_sl [.ref p0]).length) Slot.unset).toArray = ls at hl ⊢
  replace hl : lv_has ls 2 [(0, .ref p0)] := hl
  have L2 : ∀ (v : (Nat → Int32) × Int32) (x : (Nat → Int32)), loopO (X4_allowListed_L2 N_roadCount N_allowed) v = some x → (fun z : (Nat → Int32) => z = out) x → (fun (v : (Nat → Int32) × Int32) => ∀ (H : Heap) (locs : List Loc) (ls : Array Slot), WI D A s.heap (wP cI cJ cZ p0 p1 p2 p3 n0 n1 n2 n3 n4 n5 n6 v.1 P_picked P_left N_postCount N_roadCount N_first N_second N_number N_allowed N_at N_beside) H locs → lv_has ls 2 [(0, .ref p0), (1, .int v.2)] → GX4_allowListed p l e s m below meth c D cI cJ cZ p0 p1 p2 p3 n0 n1 n2 n3 n4 n5 n6 P_can_0 P_picked P_left N_postCount N_roadCount N_first N_second N_number N_allowed N_at N_beside  out H locs (F0 m 2 ls [])) v := by
    refine loopO_ind (fun (v : (Nat → Int32) × Int32) => ∀ (H : Heap) (locs : List Loc) (ls : Array Slot), WI D A s.heap (wP cI cJ cZ p0 p1 p2 p3 n0 n1 n2 n3 n4 n5 n6 v.1 P_picked P_left N_postCount N_roadCount N_first N_second N_number N_allowed N_at N_beside) H locs → lv_has ls 2 [(0, .ref p0), (1, .int v.2)] → GX4_allowListed p l e s m below meth c D cI cJ cZ p0 p1 p2 p3 n0 n1 n2 n3 n4 n5 n6 P_can_0 P_picked P_left N_postCount N_roadCount N_first N_second N_number N_allowed N_at N_beside  out H locs (F0 m 2 ls [])) (fun z : (Nat → Int32) => z = out) ?_
    intro v x hf hM H locs ls hI hl
    refine lv_iload_n hx hb dX4_allowListed_2 rfl (lv_at hl 1 rfl) ?_
    refine lv_aload_n hx hb dX4_allowListed_3 rfl (lv_at hl 0 rfl) ?_
    refine w_get hx hb hg hown hK hI iX4 0 rfl rfl 0 (by decide) wF_RX4_22 rfl dX4_allowListed_4 ?_
    refine w_get hx hb hg hown hK hI iX3 4 rfl rfl 1 (by decide) wF_RX4_26 rfl dX4_allowListed_7 ?_
    refine lv_icmp_ge (tgt := 34) hx hb dX4_allowListed_10 (by decide) (fun hc => ?_) (fun hc => ?_)
    · replace hf := ite_t hc hf
      replace hf := Option.some.inj hf
      subst hf
      replace hM : v.1 = out := hM
      subst hM
      exact rt_v (u := ()) hx hb hr hlocks hI hAe trivial dX4_allowListed_34
    · replace hf := ite_f hc hf
      refine lv_aload_n hx hb dX4_allowListed_13 rfl (lv_at hl 0 rfl) ?_
      refine w_get hx hb hg hown hK hI iX4 0 rfl rfl 1 (by decide) wF_RX4_9 rfl dX4_allowListed_14 ?_
      refine lv_iload_n hx hb dX4_allowListed_17 rfl (lv_at hl 1 rfl) ?_
      refine lv_aload_n hx hb dX4_allowListed_18 rfl (lv_at hl 0 rfl) ?_
      refine w_get hx hb hg hown hK hI iX4 0 rfl rfl 0 (by decide) wF_RX4_22 rfl dX4_allowListed_19 ?_
      refine w_get hx hb hg hown hK hI iX3 4 rfl rfl 5 (by decide) wF_RX4_32 rfl dX4_allowListed_22 ?_
      refine lv_iload_n hx hb dX4_allowListed_25 rfl (lv_at hl 1 rfl) ?_
      obtain ⟨hin, hf⟩ := rd_e hf
      refine w_iald hx hb hK hI 8 rfl hin dX4_allowListed_26 (fun x1 ex1 => ?_)
      replace hf := hf x1 ex1
      obtain ⟨hin, hf⟩ := wr_e hf
      obtain ⟨g2, eg2⟩ : ∃ g : Nat → Int32, g = upd v.1 (v.2).toNatClampNeg x1 := ⟨_, rfl⟩
      replace hf := hf g2 eg2
      refine w_iast (g := g2) (W1 := (wP cI cJ cZ p0 p1 p2 p3 n0 n1 n2 n3 n4 n5 n6 g2 P_picked P_left N_postCount N_roadCount N_first N_second N_number N_allowed N_at N_beside)) hx hb hK hI 1 rfl hin eg2 dX4_allowListed_27 rfl (fun H locs hI => ?_)
      obtain ⟨x3, ex3⟩ : ∃ y : Int32, y = (v.2 + (1 : Int32)) := ⟨_, rfl⟩
      replace hf := bnd_e hf x3 ex3
      refine lv_iinc (v := x3) (lv' := [(1, .int x3), (0, .ref p0)]) hx hb dX4_allowListed_28 hl (k := 1) rfl (by rw [ex3]; rfl) (by decide) rfl (fun ls hl => ?_)
      refine lv_goto (tgt := 2) hx hb dX4_allowListed_31 (by decide) ?_
      replace hf := Option.some.inj hf
      subst hf
      exact hM _ _ _ hI (lv_sub hl [1, 0] rfl)
  obtain ⟨x, hf, hM⟩ : ∃ x, FX4_allowListed P_can_0 N_roadCount N_allowed = some x ∧ x = out := ⟨out, hf, rfl⟩
  refine lv_iconst (v := 0) hx hb dX4_allowListed_0 (by decide) ?_
  refine lv_istore_n (lv' := [(1, .int (0 : Int32)), (0, .ref p0)]) hx hb dX4_allowListed_1 rfl hl (by decide) rfl (fun ls hl => ?_)
  exact L2  (P_can_0, (0 : Int32)) _ hf hM _ _ _ hI (lv_sub hl [1, 0] rfl)
noncomputable def X4_hasEmptyHanded_L2 (P_can : Nat → Int32) (N_roadCount : Int32) (l1 : Int32) (v : Int32) : Option ((Int32) ⊕ (Int32)) :=
  if N_roadCount ≤ v then (some (.inr (0 : Int32))) else ((FX7_isIn l1 v).bind (fun x1 => if x1 = (0 : Int32) then (bnd (v + (1 : Int32)) (fun x2 => some (.inl x2))) else (rd P_can 12 v (fun x3 => if x3 = (0 : Int32) then (some (.inr (1 : Int32))) else (bnd (v + (1 : Int32)) (fun x4 => some (.inl x4)))))))
noncomputable def FX4_hasEmptyHanded (P_can : Nat → Int32) (N_roadCount : Int32) (a1 : Int32) : Option (Int32) :=
  loopO (X4_hasEmptyHanded_L2 P_can N_roadCount a1) (0 : Int32)
abbrev GX4_hasEmptyHanded (p : Program) (l : Launch) (e : Env) (s : State) (m : MethodId) (below : List Frame) (meth : Method) (c : Code) (D : va_G) (cI cJ cZ : ClassId) (p0 p1 p2 p3 n0 n1 n2 n3 n4 n5 n6 : Nat) (P_can : Nat → Int32) (P_picked : Nat → Int32) (P_left : Nat → Int32) (N_postCount : Int32) (N_roadCount : Int32) (N_first : Nat → Int32) (N_second : Nat → Int32) (N_number : Nat → Int32) (N_allowed : Nat → Int32) (N_at : Nat → Int32) (N_beside : Nat → Int32) (a1 : Int32) (out : Int32) (H : Heap) (locs : List Loc) (g : JFrame) : Prop := W p l e (headSpec (Cond.code yX4_hasEmptyHanded cX4_hasEmptyHanded 3 (some .boolean) :: GW) { frames := 1, cells := 0, slots := 0, locals := 21 }).room s m ([.ref p0, .int a1] : List Value).toArray below meth c H locs 0 0 (MQ below (va_Qi (fun r (_ : Unit) => r = out) (BW D (wP cI cJ cZ p0 p1 p2 p3 n0 n1 n2 n3 n4 n5 n6 P_can P_picked P_left N_postCount N_roadCount N_first N_second N_number N_allowed N_at N_beside) s.heap.size (fun _ => (wP cI cJ cZ p0 p1 p2 p3 n0 n1 n2 n3 n4 n5 n6 P_can P_picked P_left N_postCount N_roadCount N_first N_second N_number N_allowed N_at N_beside))) (va_A (wP cI cJ cZ p0 p1 p2 p3 n0 n1 n2 n3 n4 n5 n6 P_can P_picked P_left N_postCount N_roadCount N_first N_second N_number N_allowed N_at N_beside) s.heap.size)) ([.ref p0, .int a1] : List Value).toArray s 0 0 (va_A (wP cI cJ cZ p0 p1 p2 p3 n0 n1 n2 n3 n4 n5 n6 P_can P_picked P_left N_postCount N_roadCount N_first N_second N_number N_allowed N_at N_beside) s.heap.size)) g
theorem kvX4_hasEmptyHanded : CalV RX4 yX4_hasEmptyHanded cX4_hasEmptyHanded 3 (some .boolean) 1 := ⟨wC_yX4_hasEmptyHanded, wM_yX4_hasEmptyHanded, wS_yX4_hasEmptyHanded, wI_RX4, by decide +kernel⟩
set_option maxHeartbeats 4000000 in
set_option maxRecDepth 100000 in
theorem kX4_hasEmptyHanded (l : Launch) (D : va_G) (cI cJ cZ : ClassId) (p0 p1 p2 p3 n0 n1 n2 n3 n4 n5 n6 : Nat) (P_can : Nat → Int32) (P_picked : Nat → Int32) (P_left : Nat → Int32) (N_postCount : Int32) (N_roadCount : Int32) (N_first : Nat → Int32) (N_second : Nat → Int32) (N_number : Nat → Int32) (N_allowed : Nat → Int32) (N_at : Nat → Int32) (N_beside : Nat → Int32) (a1 : Int32) (out : Int32) (hf : FX4_hasEmptyHanded P_can N_roadCount a1 = some out) : MI l yX4_hasEmptyHanded (Cond.code yX4_hasEmptyHanded cX4_hasEmptyHanded 3 (some .boolean) :: GW) { frames := 1, cells := 0, slots := 0, locals := 21 } D cI cJ cZ [.ref p0, .int a1] (wP cI cJ cZ p0 p1 p2 p3 n0 n1 n2 n3 n4 n5 n6 P_can P_picked P_left N_postCount N_roadCount N_first N_second N_number N_allowed N_at N_beside) (fun r (_ : Unit) => r = out) (fun _ => (wP cI cJ cZ p0 p1 p2 p3 n0 n1 n2 n3 n4 n5 n6 P_can P_picked P_left N_postCount N_roadCount N_first N_second N_number N_allowed N_at N_beside)) := by
  intro sz
  refine Met.ofW (cc := cX4_hasEmptyHanded) (maxL := 3) (ret := (some .boolean)) (by decide +kernel) rfl ?_
  intro p e s m args below meth c s₁ B hml hv
  obtain ⟨rfl, hsz, hP, hK, hD0⟩ := hv
  have hx := B.exec
  have hb := B.bytes
  have hr := B.returns
  have hlocks := B.notSynchronized
  have hg : ∀ w ∈ GW, w.before _ s = true := fun w h => atoms_spec (ws := Cond.code yX4_hasEmptyHanded cX4_hasEmptyHanded 3 (some .boolean) :: GW) B.pre w (List.mem_cons_of_mem _ h)
  have hown : s.vm.findClass RX4 = some m.cls := findClass_of_methodNamed B.named
  subst hsz
  obtain ⟨A, hAe⟩ : ∃ A, A = va_A (wP cI cJ cZ p0 p1 p2 p3 n0 n1 n2 n3 n4 n5 n6 P_can P_picked P_left N_postCount N_roadCount N_first N_second N_number N_allowed N_at N_beside) s.heap.size := ⟨_, rfl⟩
  have hA : ∀ q : Nat, s.heap.size ≤ q → A q := fun q h => by rw [hAe]; exact Or.inr h
  have hI : WI D A s.heap (wP cI cJ cZ p0 p1 p2 p3 n0 n1 n2 n3 n4 n5 n6 P_can P_picked P_left N_postCount N_roadCount N_first N_second N_number N_allowed N_at N_beside) s.heap [] := ⟨hP, by rw [hAe]; exact hD0.self, va_S.rf⟩
  have hl := lv_entry [.ref p0, .int a1] (n := 3) (Nat.le_of_ble_eq_true rfl)
  rw [lg_entry_eq]
  generalize (lg_sl [.ref p0, .int a1] ++ List.replicate (3 - (lg_sl [.ref p0, .int a1]).length) Slot.unset).toArray = ls at hl ⊢
  replace hl : lv_has ls 3 [(0, .ref p0), (1, .int a1)] := hl
  have L2 : ∀ (l1 : Int32), ∀ (v : Int32) (x : Int32), loopO (X4_hasEmptyHanded_L2 P_can N_roadCount l1) v = some x → (fun z : Int32 => z = out) x → (fun (v : Int32) => ∀ (H : Heap) (locs : List Loc) (ls : Array Slot), WI D A s.heap (wP cI cJ cZ p0 p1 p2 p3 n0 n1 n2 n3 n4 n5 n6 P_can P_picked P_left N_postCount N_roadCount N_first N_second N_number N_allowed N_at N_beside) H locs → lv_has ls 3 [(0, .ref p0), (1, .int l1), (2, .int v)] → GX4_hasEmptyHanded p l e s m below meth c D cI cJ cZ p0 p1 p2 p3 n0 n1 n2 n3 n4 n5 n6 P_can P_picked P_left N_postCount N_roadCount N_first N_second N_number N_allowed N_at N_beside a1 out H locs (F0 m 2 ls [])) v := by
    intro l1
    refine loopO_ind (fun (v : Int32) => ∀ (H : Heap) (locs : List Loc) (ls : Array Slot), WI D A s.heap (wP cI cJ cZ p0 p1 p2 p3 n0 n1 n2 n3 n4 n5 n6 P_can P_picked P_left N_postCount N_roadCount N_first N_second N_number N_allowed N_at N_beside) H locs → lv_has ls 3 [(0, .ref p0), (1, .int l1), (2, .int v)] → GX4_hasEmptyHanded p l e s m below meth c D cI cJ cZ p0 p1 p2 p3 n0 n1 n2 n3 n4 n5 n6 P_can P_picked P_left N_postCount N_roadCount N_first N_second N_number N_allowed N_at N_beside a1 out H locs (F0 m 2 ls [])) (fun z : Int32 => z = out) ?_
    intro v x hf hM H locs ls hI hl
    refine lv_iload_n hx hb dX4_hasEmptyHanded_2 rfl (lv_at hl 2 rfl) ?_
    refine lv_aload_n hx hb dX4_hasEmptyHanded_3 rfl (lv_at hl 0 rfl) ?_
    refine w_get hx hb hg hown hK hI iX4 0 rfl rfl 0 (by decide) wF_RX4_22 rfl dX4_hasEmptyHanded_4 ?_
    refine w_get hx hb hg hown hK hI iX3 4 rfl rfl 1 (by decide) wF_RX4_26 rfl dX4_hasEmptyHanded_7 ?_
    refine lv_icmp_ge (tgt := 38) hx hb dX4_hasEmptyHanded_10 (by decide) (fun hc => ?_) (fun hc => ?_)
    · replace hf := ite_t hc hf
      refine lv_iconst (v := 0) hx hb dX4_hasEmptyHanded_38 (by decide) ?_
      replace hf := Option.some.inj hf
      subst hf
      replace hM : (0 : Int32) = out := hM
      subst hM
      exact rt_i (u := ()) hx hb hr hlocks (by decide) hI hAe rfl dX4_hasEmptyHanded_39
    · replace hf := ite_f hc hf
      refine lv_iload_n hx hb dX4_hasEmptyHanded_13 rfl (lv_at hl 1 rfl) ?_
      refine lv_iload_n hx hb dX4_hasEmptyHanded_14 rfl (lv_at hl 2 rfl) ?_
      obtain ⟨x1, hx1, hf⟩ := bd_e hf
      refine w_N (rest := []) hx hb hml hg hown hK (kX7_isIn l D cI cJ cZ l1 v x1 hx1) ksX7_isIn (List.mem_of_getElem? (i := 5) rfl) ⟨Nat.le_of_ble_eq_true rfl, Nat.le_of_ble_eq_true rfl⟩ ⟨rfl, rfl⟩ rfl rfl hl.1 (Nat.le_of_ble_eq_true rfl) dX4_hasEmptyHanded_15 ⟨Nat.zero_le _, Nat.zero_le _⟩ ?_
      refine lv_if_eq (tgt := 32) hx hb dX4_hasEmptyHanded_18 (by decide) (fun hc => ?_) (fun hc => ?_)
      · replace hf := ite_t hc hf
        obtain ⟨x2, ex2⟩ : ∃ y : Int32, y = (v + (1 : Int32)) := ⟨_, rfl⟩
        replace hf := bnd_e hf x2 ex2
        refine lv_iinc (v := x2) (lv' := [(2, .int x2), (0, .ref p0), (1, .int l1)]) hx hb dX4_hasEmptyHanded_32 hl (k := 2) rfl (by rw [ex2]; rfl) (by decide) rfl (fun ls hl => ?_)
        refine lv_goto (tgt := 2) hx hb dX4_hasEmptyHanded_35 (by decide) ?_
        replace hf := Option.some.inj hf
        subst hf
        exact hM _ _ _ hI (lv_sub hl [1, 2, 0] rfl)
      · replace hf := ite_f hc hf
        refine lv_aload_n hx hb dX4_hasEmptyHanded_21 rfl (lv_at hl 0 rfl) ?_
        refine w_get hx hb hg hown hK hI iX4 0 rfl rfl 1 (by decide) wF_RX4_9 rfl dX4_hasEmptyHanded_22 ?_
        refine lv_iload_n hx hb dX4_hasEmptyHanded_25 rfl (lv_at hl 2 rfl) ?_
        obtain ⟨hin, hf⟩ := rd_e hf
        refine w_iald hx hb hK hI 1 rfl hin dX4_hasEmptyHanded_26 (fun x3 ex3 => ?_)
        replace hf := hf x3 ex3
        refine lv_if_ne (tgt := 32) hx hb dX4_hasEmptyHanded_27 (by decide) (fun hc => ?_) (fun hc => ?_)
        · replace hf := ite_f hc hf
          obtain ⟨x4, ex4⟩ : ∃ y : Int32, y = (v + (1 : Int32)) := ⟨_, rfl⟩
          replace hf := bnd_e hf x4 ex4
          refine lv_iinc (v := x4) (lv' := [(2, .int x4), (0, .ref p0), (1, .int l1)]) hx hb dX4_hasEmptyHanded_32 hl (k := 2) rfl (by rw [ex4]; rfl) (by decide) rfl (fun ls hl => ?_)
          refine lv_goto (tgt := 2) hx hb dX4_hasEmptyHanded_35 (by decide) ?_
          replace hf := Option.some.inj hf
          subst hf
          exact hM _ _ _ hI (lv_sub hl [1, 2, 0] rfl)
        · replace hf := ite_t hc hf
          refine lv_iconst (v := 1) hx hb dX4_hasEmptyHanded_30 (by decide) ?_
          replace hf := Option.some.inj hf
          subst hf
          replace hM : (1 : Int32) = out := hM
          subst hM
          exact rt_i (u := ()) hx hb hr hlocks (by decide) hI hAe rfl dX4_hasEmptyHanded_31
  obtain ⟨x, hf, hM⟩ : ∃ x, FX4_hasEmptyHanded P_can N_roadCount a1 = some x ∧ x = out := ⟨out, hf, rfl⟩
  refine lv_iconst (v := 0) hx hb dX4_hasEmptyHanded_0 (by decide) ?_
  refine lv_istore_n (lv' := [(2, .int (0 : Int32)), (0, .ref p0), (1, .int a1)]) hx hb dX4_hasEmptyHanded_1 rfl hl (by decide) rfl (fun ls hl => ?_)
  exact L2 a1 (0 : Int32) _ hf hM _ _ _ hI (lv_sub hl [1, 2, 0] rfl)
noncomputable def X4_hardOnes_J78 (P_can : Nat → Int32) (N_roadCount : Int32) (N_beside : Nat → Int32) (l2 : Int32) (l3 : Int32) (l4 : Int32) : Option ((Int32 × Int32) ⊕ (Int32)) :=
  if l2 = l4 then (some (.inr l2)) else (bnd (l3 + (1 : Int32)) (fun x1 => some (.inl (l2, x1))))
noncomputable def X4_hardOnes_L16 (P_can : Nat → Int32) (N_roadCount : Int32) (N_beside : Nat → Int32) (l3 : Int32) (l4 : Int32) (v : Int32 × Int32) : Option ((Int32 × Int32) ⊕ ((Int32 × Int32) ⊕ (Int32))) :=
  if N_roadCount ≤ v.2 then ((X4_hardOnes_J78 P_can N_roadCount N_beside v.1 l3 l4).map (fun z => (.inr z))) else ((FX7_isIn v.1 v.2).bind (fun x2 => if x2 = (0 : Int32) then (bnd (v.2 + (1 : Int32)) (fun x3 => some (.inl (v.1, x3)))) else (rd P_can 12 v.2 (fun x4 => (FJ6_bitCount_0f7a4 x4).bind (fun x5 => rd N_beside 24 v.2 (fun x6 => (FJ6_bitCount_0f7a4 (x6 &&& v.1)).bind (fun x7 => if x5 ≤ x7 then (bnd (v.2 + (1 : Int32)) (fun x8 => some (.inl (v.1, x8)))) else (bnd (v.1 ^^^ ((1 : Int32) <<< (v.2 &&& (31 : Int32)))) (fun x9 => bnd (v.2 + (1 : Int32)) (fun x10 => some (.inl (x9, x10))))))))))))
noncomputable def X4_hardOnes_L4 (P_can : Nat → Int32) (N_roadCount : Int32) (N_beside : Nat → Int32) (v : Int32 × Int32) : Option ((Int32 × Int32) ⊕ (Int32)) :=
  if (12 : Int32) ≤ v.2 then (some (.inr v.1)) else (loopO (X4_hardOnes_L16 P_can N_roadCount N_beside v.2 v.1) (v.1, (0 : Int32)))
noncomputable def FX4_hardOnes (P_can : Nat → Int32) (N_roadCount : Int32) (N_beside : Nat → Int32) (a1 : Int32) : Option (Int32) :=
  loopO (X4_hardOnes_L4 P_can N_roadCount N_beside) (a1, (0 : Int32))
abbrev GX4_hardOnes (p : Program) (l : Launch) (e : Env) (s : State) (m : MethodId) (below : List Frame) (meth : Method) (c : Code) (D : va_G) (cI cJ cZ : ClassId) (p0 p1 p2 p3 n0 n1 n2 n3 n4 n5 n6 : Nat) (P_can : Nat → Int32) (P_picked : Nat → Int32) (P_left : Nat → Int32) (N_postCount : Int32) (N_roadCount : Int32) (N_first : Nat → Int32) (N_second : Nat → Int32) (N_number : Nat → Int32) (N_allowed : Nat → Int32) (N_at : Nat → Int32) (N_beside : Nat → Int32) (a1 : Int32) (out : Int32) (H : Heap) (locs : List Loc) (g : JFrame) : Prop := W p l e (headSpec (Cond.code yX4_hardOnes cX4_hardOnes 6 (some .int) :: GW) { frames := 1, cells := 0, slots := 0, locals := 21 }).room s m ([.ref p0, .int a1] : List Value).toArray below meth c H locs 0 0 (MQ below (va_Qi (fun r (_ : Unit) => r = out) (BW D (wP cI cJ cZ p0 p1 p2 p3 n0 n1 n2 n3 n4 n5 n6 P_can P_picked P_left N_postCount N_roadCount N_first N_second N_number N_allowed N_at N_beside) s.heap.size (fun _ => (wP cI cJ cZ p0 p1 p2 p3 n0 n1 n2 n3 n4 n5 n6 P_can P_picked P_left N_postCount N_roadCount N_first N_second N_number N_allowed N_at N_beside))) (va_A (wP cI cJ cZ p0 p1 p2 p3 n0 n1 n2 n3 n4 n5 n6 P_can P_picked P_left N_postCount N_roadCount N_first N_second N_number N_allowed N_at N_beside) s.heap.size)) ([.ref p0, .int a1] : List Value).toArray s 0 0 (va_A (wP cI cJ cZ p0 p1 p2 p3 n0 n1 n2 n3 n4 n5 n6 P_can P_picked P_left N_postCount N_roadCount N_first N_second N_number N_allowed N_at N_beside) s.heap.size)) g
theorem kvX4_hardOnes : CalV RX4 yX4_hardOnes cX4_hardOnes 6 (some .int) 1 := ⟨wC_yX4_hardOnes, wM_yX4_hardOnes, wS_yX4_hardOnes, wI_RX4, by decide +kernel⟩
set_option maxHeartbeats 4000000 in
set_option maxRecDepth 100000 in
theorem kX4_hardOnes (l : Launch) (D : va_G) (cI cJ cZ : ClassId) (p0 p1 p2 p3 n0 n1 n2 n3 n4 n5 n6 : Nat) (P_can : Nat → Int32) (P_picked : Nat → Int32) (P_left : Nat → Int32) (N_postCount : Int32) (N_roadCount : Int32) (N_first : Nat → Int32) (N_second : Nat → Int32) (N_number : Nat → Int32) (N_allowed : Nat → Int32) (N_at : Nat → Int32) (N_beside : Nat → Int32) (a1 : Int32) (out : Int32) (hf : FX4_hardOnes P_can N_roadCount N_beside a1 = some out) : MI l yX4_hardOnes (Cond.code yX4_hardOnes cX4_hardOnes 6 (some .int) :: GW) { frames := 1, cells := 0, slots := 0, locals := 21 } D cI cJ cZ [.ref p0, .int a1] (wP cI cJ cZ p0 p1 p2 p3 n0 n1 n2 n3 n4 n5 n6 P_can P_picked P_left N_postCount N_roadCount N_first N_second N_number N_allowed N_at N_beside) (fun r (_ : Unit) => r = out) (fun _ => (wP cI cJ cZ p0 p1 p2 p3 n0 n1 n2 n3 n4 n5 n6 P_can P_picked P_left N_postCount N_roadCount N_first N_second N_number N_allowed N_at N_beside)) := by
  intro sz
  refine Met.ofW (cc := cX4_hardOnes) (maxL := 6) (ret := (some .int)) (by decide +kernel) rfl ?_
  intro p e s m args below meth c s₁ B hml hv
  obtain ⟨rfl, hsz, hP, hK, hD0⟩ := hv
  have hx := B.exec
  have hb := B.bytes
  have hr := B.returns
  have hlocks := B.notSynchronized
  have hg : ∀ w ∈ GW, w.before _ s = true := fun w h => atoms_spec (ws := Cond.code yX4_hardOnes cX4_hardOnes 6 (some .int) :: GW) B.pre w (List.mem_cons_of_mem _ h)
  have hown : s.vm.findClass RX4 = some m.cls := findClass_of_methodNamed B.named
  subst hsz
  obtain ⟨A, hAe⟩ : ∃ A, A = va_A (wP cI cJ cZ p0 p1 p2 p3 n0 n1 n2 n3 n4 n5 n6 P_can P_picked P_left N_postCount N_roadCount N_first N_second N_number N_allowed N_at N_beside) s.heap.size := ⟨_, rfl⟩
  have hA : ∀ q : Nat, s.heap.size ≤ q → A q := fun q h => by rw [hAe]; exact Or.inr h
  have hI : WI D A s.heap (wP cI cJ cZ p0 p1 p2 p3 n0 n1 n2 n3 n4 n5 n6 P_can P_picked P_left N_postCount N_roadCount N_first N_second N_number N_allowed N_at N_beside) s.heap [] := ⟨hP, by rw [hAe]; exact hD0.self, va_S.rf⟩
  have hl := lv_entry [.ref p0, .int a1] (n := 6) (Nat.le_of_ble_eq_true rfl)
  rw [lg_entry_eq]
  generalize (lg_sl [.ref p0, .int a1] ++ List.replicate (6 - (lg_sl [.ref p0, .int a1]).length) Slot.unset).toArray = ls at hl ⊢
  replace hl : lv_has ls 6 [(0, .ref p0), (1, .int a1)] := hl
  have J78 : ∀ (l2 : Int32) (l3 : Int32) (l4 : Int32) (x : (Int32 × Int32) ⊕ (Int32)), X4_hardOnes_J78 P_can N_roadCount N_beside l2 l3 l4 = some x → (fun z => Sum.elim (fun (v1 : Int32 × Int32) => ∀ (H : Heap) (locs : List Loc) (ls : Array Slot), WI D A s.heap (wP cI cJ cZ p0 p1 p2 p3 n0 n1 n2 n3 n4 n5 n6 P_can P_picked P_left N_postCount N_roadCount N_first N_second N_number N_allowed N_at N_beside) H locs → lv_has ls 6 [(0, .ref p0), (2, .int v1.1), (3, .int v1.2)] → GX4_hardOnes p l e s m below meth c D cI cJ cZ p0 p1 p2 p3 n0 n1 n2 n3 n4 n5 n6 P_can P_picked P_left N_postCount N_roadCount N_first N_second N_number N_allowed N_at N_beside a1 out H locs (F0 m 4 ls [])) (fun z : Int32 => z = out) z) x → ∀ (H : Heap) (locs : List Loc) (ls : Array Slot), WI D A s.heap (wP cI cJ cZ p0 p1 p2 p3 n0 n1 n2 n3 n4 n5 n6 P_can P_picked P_left N_postCount N_roadCount N_first N_second N_number N_allowed N_at N_beside) H locs → lv_has ls 6 [(0, .ref p0), (2, .int l2), (3, .int l3), (4, .int l4)] → GX4_hardOnes p l e s m below meth c D cI cJ cZ p0 p1 p2 p3 n0 n1 n2 n3 n4 n5 n6 P_can P_picked P_left N_postCount N_roadCount N_first N_second N_number N_allowed N_at N_beside a1 out H locs (F0 m 78 ls []) := by
    intro l2 l3 l4 x hf hM H locs ls hI hl
    refine lv_iload_n hx hb dX4_hardOnes_78 rfl (lv_at hl 1 rfl) ?_
    refine lv_iload hx hb dX4_hardOnes_79 (lv_at hl 3 rfl) ?_
    refine lv_icmp_ne (tgt := 87) hx hb dX4_hardOnes_81 (by decide) (fun hc => ?_) (fun hc => ?_)
    · replace hf := ite_f hc hf
      obtain ⟨x1, ex1⟩ : ∃ y : Int32, y = (l3 + (1 : Int32)) := ⟨_, rfl⟩
      replace hf := bnd_e hf x1 ex1
      refine lv_iinc (v := x1) (lv' := [(3, .int x1), (0, .ref p0), (2, .int l2), (4, .int l4)]) hx hb dX4_hardOnes_87 hl (k := 2) rfl (by rw [ex1]; rfl) (by decide) rfl (fun ls hl => ?_)
      refine lv_goto (tgt := 4) hx hb dX4_hardOnes_90 (by decide) ?_
      replace hf := Option.some.inj hf
      subst hf
      exact hM _ _ _ hI (lv_sub hl [1, 2, 0] rfl)
    · replace hf := ite_t hc hf
      refine lv_goto (tgt := 93) hx hb dX4_hardOnes_84 (by decide) ?_
      refine lv_iload_n hx hb dX4_hardOnes_93 rfl (lv_at hl 1 rfl) ?_
      replace hf := Option.some.inj hf
      subst hf
      replace hM : l2 = out := hM
      subst hM
      exact rt_i (u := ()) hx hb hr hlocks rfl hI hAe rfl dX4_hardOnes_94
  have L16 : ∀ (l3 : Int32) (l4 : Int32), ∀ (v : Int32 × Int32) (x : (Int32 × Int32) ⊕ (Int32)), loopO (X4_hardOnes_L16 P_can N_roadCount N_beside l3 l4) v = some x → (fun z => Sum.elim (fun (v1 : Int32 × Int32) => ∀ (H : Heap) (locs : List Loc) (ls : Array Slot), WI D A s.heap (wP cI cJ cZ p0 p1 p2 p3 n0 n1 n2 n3 n4 n5 n6 P_can P_picked P_left N_postCount N_roadCount N_first N_second N_number N_allowed N_at N_beside) H locs → lv_has ls 6 [(0, .ref p0), (2, .int v1.1), (3, .int v1.2)] → GX4_hardOnes p l e s m below meth c D cI cJ cZ p0 p1 p2 p3 n0 n1 n2 n3 n4 n5 n6 P_can P_picked P_left N_postCount N_roadCount N_first N_second N_number N_allowed N_at N_beside a1 out H locs (F0 m 4 ls [])) (fun z : Int32 => z = out) z) x → (fun (v : Int32 × Int32) => ∀ (H : Heap) (locs : List Loc) (ls : Array Slot), WI D A s.heap (wP cI cJ cZ p0 p1 p2 p3 n0 n1 n2 n3 n4 n5 n6 P_can P_picked P_left N_postCount N_roadCount N_first N_second N_number N_allowed N_at N_beside) H locs → lv_has ls 6 [(0, .ref p0), (2, .int v.1), (3, .int l3), (4, .int l4), (5, .int v.2)] → GX4_hardOnes p l e s m below meth c D cI cJ cZ p0 p1 p2 p3 n0 n1 n2 n3 n4 n5 n6 P_can P_picked P_left N_postCount N_roadCount N_first N_second N_number N_allowed N_at N_beside a1 out H locs (F0 m 16 ls [])) v := by
    intro l3 l4
    refine loopO_ind (fun (v : Int32 × Int32) => ∀ (H : Heap) (locs : List Loc) (ls : Array Slot), WI D A s.heap (wP cI cJ cZ p0 p1 p2 p3 n0 n1 n2 n3 n4 n5 n6 P_can P_picked P_left N_postCount N_roadCount N_first N_second N_number N_allowed N_at N_beside) H locs → lv_has ls 6 [(0, .ref p0), (2, .int v.1), (3, .int l3), (4, .int l4), (5, .int v.2)] → GX4_hardOnes p l e s m below meth c D cI cJ cZ p0 p1 p2 p3 n0 n1 n2 n3 n4 n5 n6 P_can P_picked P_left N_postCount N_roadCount N_first N_second N_number N_allowed N_at N_beside a1 out H locs (F0 m 16 ls [])) (fun z => Sum.elim (fun (v1 : Int32 × Int32) => ∀ (H : Heap) (locs : List Loc) (ls : Array Slot), WI D A s.heap (wP cI cJ cZ p0 p1 p2 p3 n0 n1 n2 n3 n4 n5 n6 P_can P_picked P_left N_postCount N_roadCount N_first N_second N_number N_allowed N_at N_beside) H locs → lv_has ls 6 [(0, .ref p0), (2, .int v1.1), (3, .int v1.2)] → GX4_hardOnes p l e s m below meth c D cI cJ cZ p0 p1 p2 p3 n0 n1 n2 n3 n4 n5 n6 P_can P_picked P_left N_postCount N_roadCount N_first N_second N_number N_allowed N_at N_beside a1 out H locs (F0 m 4 ls [])) (fun z : Int32 => z = out) z) ?_
    intro v x hf hM H locs ls hI hl
    refine lv_iload hx hb dX4_hardOnes_16 (lv_at hl 4 rfl) ?_
    refine lv_aload_n hx hb dX4_hardOnes_18 rfl (lv_at hl 0 rfl) ?_
    refine w_get hx hb hg hown hK hI iX4 0 rfl rfl 0 (by decide) wF_RX4_22 rfl dX4_hardOnes_19 ?_
    refine w_get hx hb hg hown hK hI iX3 4 rfl rfl 1 (by decide) wF_RX4_26 rfl dX4_hardOnes_22 ?_
    refine lv_icmp_ge (tgt := 78) hx hb dX4_hardOnes_25 (by decide) (fun hc => ?_) (fun hc => ?_)
    · replace hf := ite_t hc hf
      obtain ⟨z, hf2, ez⟩ := mp_e hf
      clear hf
      subst ez
      exact J78 v.1 l3 l4 _ hf2 hM _ _ _ hI (lv_sub hl [0, 1, 2, 3] rfl)
    · replace hf := ite_f hc hf
      refine lv_iload_n hx hb dX4_hardOnes_28 rfl (lv_at hl 1 rfl) ?_
      refine lv_iload hx hb dX4_hardOnes_29 (lv_at hl 4 rfl) ?_
      obtain ⟨x2, hx2, hf⟩ := bd_e hf
      refine w_N (rest := []) hx hb hml hg hown hK (kX7_isIn l D cI cJ cZ v.1 v.2 x2 hx2) ksX7_isIn (List.mem_of_getElem? (i := 5) rfl) ⟨Nat.le_of_ble_eq_true rfl, Nat.le_of_ble_eq_true rfl⟩ ⟨rfl, rfl⟩ rfl rfl hl.1 (Nat.le_of_ble_eq_true rfl) dX4_hardOnes_31 ⟨Nat.zero_le _, Nat.zero_le _⟩ ?_
      refine lv_if_eq (tgt := 72) hx hb dX4_hardOnes_34 (by decide) (fun hc => ?_) (fun hc => ?_)
      · replace hf := ite_t hc hf
        obtain ⟨x3, ex3⟩ : ∃ y : Int32, y = (v.2 + (1 : Int32)) := ⟨_, rfl⟩
        replace hf := bnd_e hf x3 ex3
        refine lv_iinc (v := x3) (lv' := [(5, .int x3), (0, .ref p0), (2, .int v.1), (3, .int l3), (4, .int l4)]) hx hb dX4_hardOnes_72 hl (k := 4) rfl (by rw [ex3]; rfl) (by decide) rfl (fun ls hl => ?_)
        refine lv_goto (tgt := 16) hx hb dX4_hardOnes_75 (by decide) ?_
        replace hf := Option.some.inj hf
        subst hf
        exact hM _ _ _ hI (lv_sub hl [1, 2, 3, 4, 0] rfl)
      · replace hf := ite_f hc hf
        refine lv_aload_n hx hb dX4_hardOnes_37 rfl (lv_at hl 0 rfl) ?_
        refine w_get hx hb hg hown hK hI iX4 0 rfl rfl 1 (by decide) wF_RX4_9 rfl dX4_hardOnes_38 ?_
        refine lv_iload hx hb dX4_hardOnes_41 (lv_at hl 4 rfl) ?_
        obtain ⟨hin, hf⟩ := rd_e hf
        refine w_iald hx hb hK hI 1 rfl hin dX4_hardOnes_43 (fun x4 ex4 => ?_)
        replace hf := hf x4 ex4
        obtain ⟨x5, hx5, hf⟩ := bd_e hf
        refine w_S (rest := []) hx hb hml hg hown hK (kJ6_bitCount_0f7a4 l D cI cJ cZ x4 x5 hx5) ksJ6_bitCount_0f7a4 wL_RX4_81 ⟨Nat.le_of_ble_eq_true rfl, Nat.le_of_ble_eq_true rfl⟩ ⟨rfl, rfl⟩ rfl rfl hl.1 (Nat.le_of_ble_eq_true rfl) dX4_hardOnes_44 ⟨Nat.zero_le _, Nat.zero_le _⟩ ?_
        refine lv_aload_n hx hb dX4_hardOnes_47 rfl (lv_at hl 0 rfl) ?_
        refine w_get hx hb hg hown hK hI iX4 0 rfl rfl 0 (by decide) wF_RX4_22 rfl dX4_hardOnes_48 ?_
        refine w_get hx hb hg hown hK hI iX3 4 rfl rfl 7 (by decide) wF_RX4_61 rfl dX4_hardOnes_51 ?_
        refine lv_iload hx hb dX4_hardOnes_54 (lv_at hl 4 rfl) ?_
        obtain ⟨hin, hf⟩ := rd_e hf
        refine w_iald hx hb hK hI 10 rfl hin dX4_hardOnes_56 (fun x6 ex6 => ?_)
        replace hf := hf x6 ex6
        refine lv_iload_n hx hb dX4_hardOnes_57 rfl (lv_at hl 1 rfl) ?_
        refine lv_iand hx hb dX4_hardOnes_58 ?_
        obtain ⟨x7, hx7, hf⟩ := bd_e hf
        refine w_S (rest := [.int x5]) hx hb hml hg hown hK (kJ6_bitCount_0f7a4 l D cI cJ cZ (x6 &&& v.1) x7 hx7) ksJ6_bitCount_0f7a4 wL_RX4_81 ⟨Nat.le_of_ble_eq_true rfl, Nat.le_of_ble_eq_true rfl⟩ ⟨rfl, rfl⟩ rfl rfl hl.1 (Nat.le_of_ble_eq_true rfl) dX4_hardOnes_59 ⟨Nat.zero_le _, Nat.zero_le _⟩ ?_
        refine lv_icmp_le (tgt := 72) hx hb dX4_hardOnes_62 (by decide) (fun hc => ?_) (fun hc => ?_)
        · replace hf := ite_t hc hf
          obtain ⟨x8, ex8⟩ : ∃ y : Int32, y = (v.2 + (1 : Int32)) := ⟨_, rfl⟩
          replace hf := bnd_e hf x8 ex8
          refine lv_iinc (v := x8) (lv' := [(5, .int x8), (0, .ref p0), (2, .int v.1), (3, .int l3), (4, .int l4)]) hx hb dX4_hardOnes_72 hl (k := 4) rfl (by rw [ex8]; rfl) (by decide) rfl (fun ls hl => ?_)
          refine lv_goto (tgt := 16) hx hb dX4_hardOnes_75 (by decide) ?_
          replace hf := Option.some.inj hf
          subst hf
          exact hM _ _ _ hI (lv_sub hl [1, 2, 3, 4, 0] rfl)
        · replace hf := ite_f hc hf
          refine lv_iload_n hx hb dX4_hardOnes_65 rfl (lv_at hl 1 rfl) ?_
          refine lv_iconst (v := 1) hx hb dX4_hardOnes_66 (by decide) ?_
          refine lv_iload hx hb dX4_hardOnes_67 (lv_at hl 4 rfl) ?_
          refine lv_ishl hx hb dX4_hardOnes_69 ?_
          refine lv_ixor hx hb dX4_hardOnes_70 ?_
          refine lv_topi (fun x9 ex9 => ?_)
          replace hf := bnd_e hf x9 ex9
          refine lv_istore_n (lv' := [(2, .int x9), (0, .ref p0), (3, .int l3), (4, .int l4), (5, .int v.2)]) hx hb dX4_hardOnes_71 rfl hl (by decide) rfl (fun ls hl => ?_)
          obtain ⟨x10, ex10⟩ : ∃ y : Int32, y = (v.2 + (1 : Int32)) := ⟨_, rfl⟩
          replace hf := bnd_e hf x10 ex10
          refine lv_iinc (v := x10) (lv' := [(5, .int x10), (2, .int x9), (0, .ref p0), (3, .int l3), (4, .int l4)]) hx hb dX4_hardOnes_72 hl (k := 4) rfl (by rw [ex10]; rfl) (by decide) rfl (fun ls hl => ?_)
          refine lv_goto (tgt := 16) hx hb dX4_hardOnes_75 (by decide) ?_
          replace hf := Option.some.inj hf
          subst hf
          exact hM _ _ _ hI (lv_sub hl [2, 1, 3, 4, 0] rfl)
  have L4 : ∀ (v : Int32 × Int32) (x : Int32), loopO (X4_hardOnes_L4 P_can N_roadCount N_beside) v = some x → (fun z : Int32 => z = out) x → (fun (v : Int32 × Int32) => ∀ (H : Heap) (locs : List Loc) (ls : Array Slot), WI D A s.heap (wP cI cJ cZ p0 p1 p2 p3 n0 n1 n2 n3 n4 n5 n6 P_can P_picked P_left N_postCount N_roadCount N_first N_second N_number N_allowed N_at N_beside) H locs → lv_has ls 6 [(0, .ref p0), (2, .int v.1), (3, .int v.2)] → GX4_hardOnes p l e s m below meth c D cI cJ cZ p0 p1 p2 p3 n0 n1 n2 n3 n4 n5 n6 P_can P_picked P_left N_postCount N_roadCount N_first N_second N_number N_allowed N_at N_beside a1 out H locs (F0 m 4 ls [])) v := by
    refine loopO_ind (fun (v : Int32 × Int32) => ∀ (H : Heap) (locs : List Loc) (ls : Array Slot), WI D A s.heap (wP cI cJ cZ p0 p1 p2 p3 n0 n1 n2 n3 n4 n5 n6 P_can P_picked P_left N_postCount N_roadCount N_first N_second N_number N_allowed N_at N_beside) H locs → lv_has ls 6 [(0, .ref p0), (2, .int v.1), (3, .int v.2)] → GX4_hardOnes p l e s m below meth c D cI cJ cZ p0 p1 p2 p3 n0 n1 n2 n3 n4 n5 n6 P_can P_picked P_left N_postCount N_roadCount N_first N_second N_number N_allowed N_at N_beside a1 out H locs (F0 m 4 ls [])) (fun z : Int32 => z = out) ?_
    intro v x hf hM H locs ls hI hl
    refine lv_iload_n hx hb dX4_hardOnes_4 rfl (lv_at hl 2 rfl) ?_
    refine lv_bipush (v := 12) hx hb dX4_hardOnes_5 (by decide) ?_
    refine lv_icmp_ge (tgt := 93) hx hb dX4_hardOnes_7 (by decide) (fun hc => ?_) (fun hc => ?_)
    · replace hf := ite_t hc hf
      refine lv_iload_n hx hb dX4_hardOnes_93 rfl (lv_at hl 1 rfl) ?_
      replace hf := Option.some.inj hf
      subst hf
      replace hM : v.1 = out := hM
      subst hM
      exact rt_i (u := ()) hx hb hr hlocks rfl hI hAe rfl dX4_hardOnes_94
    · replace hf := ite_f hc hf
      refine lv_iload_n hx hb dX4_hardOnes_10 rfl (lv_at hl 1 rfl) ?_
      refine lv_istore (lv' := [(4, .int v.1), (0, .ref p0), (2, .int v.1), (3, .int v.2)]) hx hb dX4_hardOnes_11 hl (by decide) rfl (fun ls hl => ?_)
      refine lv_iconst (v := 0) hx hb dX4_hardOnes_13 (by decide) ?_
      refine lv_istore (lv' := [(5, .int (0 : Int32)), (4, .int v.1), (0, .ref p0), (2, .int v.1), (3, .int v.2)]) hx hb dX4_hardOnes_14 hl (by decide) rfl (fun ls hl => ?_)
      exact L16 v.2 v.1 (v.1, (0 : Int32)) _ hf hM _ _ _ hI (lv_sub hl [2, 3, 4, 1, 0] rfl)
  obtain ⟨x, hf, hM⟩ : ∃ x, FX4_hardOnes P_can N_roadCount N_beside a1 = some x ∧ x = out := ⟨out, hf, rfl⟩
  refine lv_iload_n hx hb dX4_hardOnes_0 rfl (lv_at hl 1 rfl) ?_
  refine lv_istore_n (lv' := [(2, .int a1), (0, .ref p0), (1, .int a1)]) hx hb dX4_hardOnes_1 rfl hl (by decide) rfl (fun ls hl => ?_)
  refine lv_iconst (v := 0) hx hb dX4_hardOnes_2 (by decide) ?_
  refine lv_istore_n (lv' := [(3, .int (0 : Int32)), (2, .int a1), (0, .ref p0), (1, .int a1)]) hx hb dX4_hardOnes_3 rfl hl (by decide) rfl (fun ls hl => ?_)
  exact L4  (a1, (0 : Int32)) _ hf hM _ _ _ hI (lv_sub hl [2, 1, 0] rfl)
noncomputable def X4_roadsThatCan_L5 (P_can : Nat → Int32) (N_roadCount : Int32) (l1 : Int32) (l2 : Int32) (v : Int32 × Int32) : Option ((Int32 × Int32) ⊕ (Int32)) :=
  if N_roadCount ≤ v.2 then (some (.inr v.1)) else ((FX7_isIn l1 v.2).bind (fun x1 => if x1 = (0 : Int32) then (bnd (v.2 + (1 : Int32)) (fun x2 => some (.inl (v.1, x2)))) else (rd P_can 12 v.2 (fun x3 => (FX7_isIn x3 l2).bind (fun x4 => if x4 = (0 : Int32) then (bnd (v.2 + (1 : Int32)) (fun x5 => some (.inl (v.1, x5)))) else (bnd (v.1 ||| ((1 : Int32) <<< (v.2 &&& (31 : Int32)))) (fun x6 => bnd (v.2 + (1 : Int32)) (fun x7 => some (.inl (x6, x7))))))))))
noncomputable def FX4_roadsThatCan (P_can : Nat → Int32) (N_roadCount : Int32) (a1 : Int32) (a2 : Int32) : Option (Int32) :=
  loopO (X4_roadsThatCan_L5 P_can N_roadCount a1 a2) ((0 : Int32), (0 : Int32))
abbrev GX4_roadsThatCan (p : Program) (l : Launch) (e : Env) (s : State) (m : MethodId) (below : List Frame) (meth : Method) (c : Code) (D : va_G) (cI cJ cZ : ClassId) (p0 p1 p2 p3 n0 n1 n2 n3 n4 n5 n6 : Nat) (P_can : Nat → Int32) (P_picked : Nat → Int32) (P_left : Nat → Int32) (N_postCount : Int32) (N_roadCount : Int32) (N_first : Nat → Int32) (N_second : Nat → Int32) (N_number : Nat → Int32) (N_allowed : Nat → Int32) (N_at : Nat → Int32) (N_beside : Nat → Int32) (a1 : Int32) (a2 : Int32) (out : Int32) (H : Heap) (locs : List Loc) (g : JFrame) : Prop := W p l e (headSpec (Cond.code yX4_roadsThatCan cX4_roadsThatCan 5 (some .int) :: GW) { frames := 1, cells := 0, slots := 0, locals := 21 }).room s m ([.ref p0, .int a1, .int a2] : List Value).toArray below meth c H locs 0 0 (MQ below (va_Qi (fun r (_ : Unit) => r = out) (BW D (wP cI cJ cZ p0 p1 p2 p3 n0 n1 n2 n3 n4 n5 n6 P_can P_picked P_left N_postCount N_roadCount N_first N_second N_number N_allowed N_at N_beside) s.heap.size (fun _ => (wP cI cJ cZ p0 p1 p2 p3 n0 n1 n2 n3 n4 n5 n6 P_can P_picked P_left N_postCount N_roadCount N_first N_second N_number N_allowed N_at N_beside))) (va_A (wP cI cJ cZ p0 p1 p2 p3 n0 n1 n2 n3 n4 n5 n6 P_can P_picked P_left N_postCount N_roadCount N_first N_second N_number N_allowed N_at N_beside) s.heap.size)) ([.ref p0, .int a1, .int a2] : List Value).toArray s 0 0 (va_A (wP cI cJ cZ p0 p1 p2 p3 n0 n1 n2 n3 n4 n5 n6 P_can P_picked P_left N_postCount N_roadCount N_first N_second N_number N_allowed N_at N_beside) s.heap.size)) g
theorem kvX4_roadsThatCan : CalV RX4 yX4_roadsThatCan cX4_roadsThatCan 5 (some .int) 2 := ⟨wC_yX4_roadsThatCan, wM_yX4_roadsThatCan, wS_yX4_roadsThatCan, wI_RX4, by decide +kernel⟩
set_option maxHeartbeats 4000000 in
set_option maxRecDepth 100000 in
theorem kX4_roadsThatCan (l : Launch) (D : va_G) (cI cJ cZ : ClassId) (p0 p1 p2 p3 n0 n1 n2 n3 n4 n5 n6 : Nat) (P_can : Nat → Int32) (P_picked : Nat → Int32) (P_left : Nat → Int32) (N_postCount : Int32) (N_roadCount : Int32) (N_first : Nat → Int32) (N_second : Nat → Int32) (N_number : Nat → Int32) (N_allowed : Nat → Int32) (N_at : Nat → Int32) (N_beside : Nat → Int32) (a1 : Int32) (a2 : Int32) (out : Int32) (hf : FX4_roadsThatCan P_can N_roadCount a1 a2 = some out) : MI l yX4_roadsThatCan (Cond.code yX4_roadsThatCan cX4_roadsThatCan 5 (some .int) :: GW) { frames := 1, cells := 0, slots := 0, locals := 21 } D cI cJ cZ [.ref p0, .int a1, .int a2] (wP cI cJ cZ p0 p1 p2 p3 n0 n1 n2 n3 n4 n5 n6 P_can P_picked P_left N_postCount N_roadCount N_first N_second N_number N_allowed N_at N_beside) (fun r (_ : Unit) => r = out) (fun _ => (wP cI cJ cZ p0 p1 p2 p3 n0 n1 n2 n3 n4 n5 n6 P_can P_picked P_left N_postCount N_roadCount N_first N_second N_number N_allowed N_at N_beside)) := by
  intro sz
  refine Met.ofW (cc := cX4_roadsThatCan) (maxL := 5) (ret := (some .int)) (by decide +kernel) rfl ?_
  intro p e s m args below meth c s₁ B hml hv
  obtain ⟨rfl, hsz, hP, hK, hD0⟩ := hv
  have hx := B.exec
  have hb := B.bytes
  have hr := B.returns
  have hlocks := B.notSynchronized
  have hg : ∀ w ∈ GW, w.before _ s = true := fun w h => atoms_spec (ws := Cond.code yX4_roadsThatCan cX4_roadsThatCan 5 (some .int) :: GW) B.pre w (List.mem_cons_of_mem _ h)
  have hown : s.vm.findClass RX4 = some m.cls := findClass_of_methodNamed B.named
  subst hsz
  obtain ⟨A, hAe⟩ : ∃ A, A = va_A (wP cI cJ cZ p0 p1 p2 p3 n0 n1 n2 n3 n4 n5 n6 P_can P_picked P_left N_postCount N_roadCount N_first N_second N_number N_allowed N_at N_beside) s.heap.size := ⟨_, rfl⟩
  have hA : ∀ q : Nat, s.heap.size ≤ q → A q := fun q h => by rw [hAe]; exact Or.inr h
  have hI : WI D A s.heap (wP cI cJ cZ p0 p1 p2 p3 n0 n1 n2 n3 n4 n5 n6 P_can P_picked P_left N_postCount N_roadCount N_first N_second N_number N_allowed N_at N_beside) s.heap [] := ⟨hP, by rw [hAe]; exact hD0.self, va_S.rf⟩
  have hl := lv_entry [.ref p0, .int a1, .int a2] (n := 5) (Nat.le_of_ble_eq_true rfl)
  rw [lg_entry_eq]
  generalize (lg_sl [.ref p0, .int a1, .int a2] ++ List.replicate (5 - (lg_sl [.ref p0, .int a1, .int a2]).length) Slot.unset).toArray = ls at hl ⊢
  replace hl : lv_has ls 5 [(0, .ref p0), (1, .int a1), (2, .int a2)] := hl
  have L5 : ∀ (l1 : Int32) (l2 : Int32), ∀ (v : Int32 × Int32) (x : Int32), loopO (X4_roadsThatCan_L5 P_can N_roadCount l1 l2) v = some x → (fun z : Int32 => z = out) x → (fun (v : Int32 × Int32) => ∀ (H : Heap) (locs : List Loc) (ls : Array Slot), WI D A s.heap (wP cI cJ cZ p0 p1 p2 p3 n0 n1 n2 n3 n4 n5 n6 P_can P_picked P_left N_postCount N_roadCount N_first N_second N_number N_allowed N_at N_beside) H locs → lv_has ls 5 [(0, .ref p0), (1, .int l1), (2, .int l2), (3, .int v.1), (4, .int v.2)] → GX4_roadsThatCan p l e s m below meth c D cI cJ cZ p0 p1 p2 p3 n0 n1 n2 n3 n4 n5 n6 P_can P_picked P_left N_postCount N_roadCount N_first N_second N_number N_allowed N_at N_beside a1 a2 out H locs (F0 m 5 ls [])) v := by
    intro l1 l2
    refine loopO_ind (fun (v : Int32 × Int32) => ∀ (H : Heap) (locs : List Loc) (ls : Array Slot), WI D A s.heap (wP cI cJ cZ p0 p1 p2 p3 n0 n1 n2 n3 n4 n5 n6 P_can P_picked P_left N_postCount N_roadCount N_first N_second N_number N_allowed N_at N_beside) H locs → lv_has ls 5 [(0, .ref p0), (1, .int l1), (2, .int l2), (3, .int v.1), (4, .int v.2)] → GX4_roadsThatCan p l e s m below meth c D cI cJ cZ p0 p1 p2 p3 n0 n1 n2 n3 n4 n5 n6 P_can P_picked P_left N_postCount N_roadCount N_first N_second N_number N_allowed N_at N_beside a1 a2 out H locs (F0 m 5 ls [])) (fun z : Int32 => z = out) ?_
    intro v x hf hM H locs ls hI hl
    refine lv_iload hx hb dX4_roadsThatCan_5 (lv_at hl 4 rfl) ?_
    refine lv_aload_n hx hb dX4_roadsThatCan_7 rfl (lv_at hl 0 rfl) ?_
    refine w_get hx hb hg hown hK hI iX4 0 rfl rfl 0 (by decide) wF_RX4_22 rfl dX4_roadsThatCan_8 ?_
    refine w_get hx hb hg hown hK hI iX3 4 rfl rfl 1 (by decide) wF_RX4_26 rfl dX4_roadsThatCan_11 ?_
    refine lv_icmp_ge (tgt := 53) hx hb dX4_roadsThatCan_14 (by decide) (fun hc => ?_) (fun hc => ?_)
    · replace hf := ite_t hc hf
      refine lv_iload_n hx hb dX4_roadsThatCan_53 rfl (lv_at hl 3 rfl) ?_
      replace hf := Option.some.inj hf
      subst hf
      replace hM : v.1 = out := hM
      subst hM
      exact rt_i (u := ()) hx hb hr hlocks rfl hI hAe rfl dX4_roadsThatCan_54
    · replace hf := ite_f hc hf
      refine lv_iload_n hx hb dX4_roadsThatCan_17 rfl (lv_at hl 1 rfl) ?_
      refine lv_iload hx hb dX4_roadsThatCan_18 (lv_at hl 4 rfl) ?_
      obtain ⟨x1, hx1, hf⟩ := bd_e hf
      refine w_N (rest := []) hx hb hml hg hown hK (kX7_isIn l D cI cJ cZ l1 v.2 x1 hx1) ksX7_isIn (List.mem_of_getElem? (i := 5) rfl) ⟨Nat.le_of_ble_eq_true rfl, Nat.le_of_ble_eq_true rfl⟩ ⟨rfl, rfl⟩ rfl rfl hl.1 (Nat.le_of_ble_eq_true rfl) dX4_roadsThatCan_20 ⟨Nat.zero_le _, Nat.zero_le _⟩ ?_
      refine lv_if_eq (tgt := 47) hx hb dX4_roadsThatCan_23 (by decide) (fun hc => ?_) (fun hc => ?_)
      · replace hf := ite_t hc hf
        obtain ⟨x2, ex2⟩ : ∃ y : Int32, y = (v.2 + (1 : Int32)) := ⟨_, rfl⟩
        replace hf := bnd_e hf x2 ex2
        refine lv_iinc (v := x2) (lv' := [(4, .int x2), (0, .ref p0), (1, .int l1), (2, .int l2), (3, .int v.1)]) hx hb dX4_roadsThatCan_47 hl (k := 4) rfl (by rw [ex2]; rfl) (by decide) rfl (fun ls hl => ?_)
        refine lv_goto (tgt := 5) hx hb dX4_roadsThatCan_50 (by decide) ?_
        replace hf := Option.some.inj hf
        subst hf
        exact hM _ _ _ hI (lv_sub hl [1, 2, 3, 4, 0] rfl)
      · replace hf := ite_f hc hf
        refine lv_aload_n hx hb dX4_roadsThatCan_26 rfl (lv_at hl 0 rfl) ?_
        refine w_get hx hb hg hown hK hI iX4 0 rfl rfl 1 (by decide) wF_RX4_9 rfl dX4_roadsThatCan_27 ?_
        refine lv_iload hx hb dX4_roadsThatCan_30 (lv_at hl 4 rfl) ?_
        obtain ⟨hin, hf⟩ := rd_e hf
        refine w_iald hx hb hK hI 1 rfl hin dX4_roadsThatCan_32 (fun x3 ex3 => ?_)
        replace hf := hf x3 ex3
        refine lv_iload_n hx hb dX4_roadsThatCan_33 rfl (lv_at hl 2 rfl) ?_
        obtain ⟨x4, hx4, hf⟩ := bd_e hf
        refine w_N (rest := []) hx hb hml hg hown hK (kX7_isIn l D cI cJ cZ x3 l2 x4 hx4) ksX7_isIn (List.mem_of_getElem? (i := 5) rfl) ⟨Nat.le_of_ble_eq_true rfl, Nat.le_of_ble_eq_true rfl⟩ ⟨rfl, rfl⟩ rfl rfl hl.1 (Nat.le_of_ble_eq_true rfl) dX4_roadsThatCan_34 ⟨Nat.zero_le _, Nat.zero_le _⟩ ?_
        refine lv_if_eq (tgt := 47) hx hb dX4_roadsThatCan_37 (by decide) (fun hc => ?_) (fun hc => ?_)
        · replace hf := ite_t hc hf
          obtain ⟨x5, ex5⟩ : ∃ y : Int32, y = (v.2 + (1 : Int32)) := ⟨_, rfl⟩
          replace hf := bnd_e hf x5 ex5
          refine lv_iinc (v := x5) (lv' := [(4, .int x5), (0, .ref p0), (1, .int l1), (2, .int l2), (3, .int v.1)]) hx hb dX4_roadsThatCan_47 hl (k := 4) rfl (by rw [ex5]; rfl) (by decide) rfl (fun ls hl => ?_)
          refine lv_goto (tgt := 5) hx hb dX4_roadsThatCan_50 (by decide) ?_
          replace hf := Option.some.inj hf
          subst hf
          exact hM _ _ _ hI (lv_sub hl [1, 2, 3, 4, 0] rfl)
        · replace hf := ite_f hc hf
          refine lv_iload_n hx hb dX4_roadsThatCan_40 rfl (lv_at hl 3 rfl) ?_
          refine lv_iconst (v := 1) hx hb dX4_roadsThatCan_41 (by decide) ?_
          refine lv_iload hx hb dX4_roadsThatCan_42 (lv_at hl 4 rfl) ?_
          refine lv_ishl hx hb dX4_roadsThatCan_44 ?_
          refine lv_ior hx hb dX4_roadsThatCan_45 ?_
          refine lv_topi (fun x6 ex6 => ?_)
          replace hf := bnd_e hf x6 ex6
          refine lv_istore_n (lv' := [(3, .int x6), (0, .ref p0), (1, .int l1), (2, .int l2), (4, .int v.2)]) hx hb dX4_roadsThatCan_46 rfl hl (by decide) rfl (fun ls hl => ?_)
          obtain ⟨x7, ex7⟩ : ∃ y : Int32, y = (v.2 + (1 : Int32)) := ⟨_, rfl⟩
          replace hf := bnd_e hf x7 ex7
          refine lv_iinc (v := x7) (lv' := [(4, .int x7), (3, .int x6), (0, .ref p0), (1, .int l1), (2, .int l2)]) hx hb dX4_roadsThatCan_47 hl (k := 4) rfl (by rw [ex7]; rfl) (by decide) rfl (fun ls hl => ?_)
          refine lv_goto (tgt := 5) hx hb dX4_roadsThatCan_50 (by decide) ?_
          replace hf := Option.some.inj hf
          subst hf
          exact hM _ _ _ hI (lv_sub hl [2, 3, 4, 1, 0] rfl)
  obtain ⟨x, hf, hM⟩ : ∃ x, FX4_roadsThatCan P_can N_roadCount a1 a2 = some x ∧ x = out := ⟨out, hf, rfl⟩
  refine lv_iconst (v := 0) hx hb dX4_roadsThatCan_0 (by decide) ?_
  refine lv_istore_n (lv' := [(3, .int (0 : Int32)), (0, .ref p0), (1, .int a1), (2, .int a2)]) hx hb dX4_roadsThatCan_1 rfl hl (by decide) rfl (fun ls hl => ?_)
  refine lv_iconst (v := 0) hx hb dX4_roadsThatCan_2 (by decide) ?_
  refine lv_istore (lv' := [(4, .int (0 : Int32)), (3, .int (0 : Int32)), (0, .ref p0), (1, .int a1), (2, .int a2)]) hx hb dX4_roadsThatCan_3 hl (by decide) rfl (fun ls hl => ?_)
  exact L5 a1 a2 ((0 : Int32), (0 : Int32)) _ hf hM _ _ _ hI (lv_sub hl [2, 3, 4, 1, 0] rfl)
noncomputable def X4_mostGiven_L19 (P_can : Nat → Int32) (N_roadCount : Int32) (l1 : Int32) (l2 : Int32) (v : Int32 × Int32) : Option ((Int32 × Int32) ⊕ (Int32)) :=
  if (16 : Int32) ≤ v.2 then (some (.inr v.1)) else ((FX4_roadsThatCan P_can N_roadCount l1 v.2).bind (fun o4 => (FJ6_bitCount_0f7a4 o4).bind (fun x5 => bnd (v.1 + (if x5 < l2 then x5 else l2)) (fun x6 => bnd (v.2 + (1 : Int32)) (fun x7 => some (.inl (x6, x7)))))))
noncomputable def FX4_mostGiven (P_can : Nat → Int32) (N_roadCount : Int32) (N_first : Nat → Int32) (N_second : Nat → Int32) (a1 : Int32) : Option (Int32) :=
  (FX3_endsOf N_roadCount N_first N_second a1).bind (fun o1 => (FJ6_bitCount_0f7a4 o1).bind (fun x2 => dv x2 (2 : Int32) (fun x3 => loopO (X4_mostGiven_L19 P_can N_roadCount a1 x3) ((0 : Int32), (0 : Int32)))))
abbrev GX4_mostGiven (p : Program) (l : Launch) (e : Env) (s : State) (m : MethodId) (below : List Frame) (meth : Method) (c : Code) (D : va_G) (cI cJ cZ : ClassId) (p0 p1 p2 p3 n0 n1 n2 n3 n4 n5 n6 : Nat) (P_can : Nat → Int32) (P_picked : Nat → Int32) (P_left : Nat → Int32) (N_postCount : Int32) (N_roadCount : Int32) (N_first : Nat → Int32) (N_second : Nat → Int32) (N_number : Nat → Int32) (N_allowed : Nat → Int32) (N_at : Nat → Int32) (N_beside : Nat → Int32) (a1 : Int32) (out : Int32) (H : Heap) (locs : List Loc) (g : JFrame) : Prop := W p l e (headSpec (Cond.code yX4_mostGiven cX4_mostGiven 5 (some .int) :: GW) { frames := 2, cells := 0, slots := 0, locals := 45 }).room s m ([.ref p0, .int a1] : List Value).toArray below meth c H locs 0 0 (MQ below (va_Qi (fun r (_ : Unit) => r = out) (BW D (wP cI cJ cZ p0 p1 p2 p3 n0 n1 n2 n3 n4 n5 n6 P_can P_picked P_left N_postCount N_roadCount N_first N_second N_number N_allowed N_at N_beside) s.heap.size (fun _ => (wP cI cJ cZ p0 p1 p2 p3 n0 n1 n2 n3 n4 n5 n6 P_can P_picked P_left N_postCount N_roadCount N_first N_second N_number N_allowed N_at N_beside))) (va_A (wP cI cJ cZ p0 p1 p2 p3 n0 n1 n2 n3 n4 n5 n6 P_can P_picked P_left N_postCount N_roadCount N_first N_second N_number N_allowed N_at N_beside) s.heap.size)) ([.ref p0, .int a1] : List Value).toArray s 0 0 (va_A (wP cI cJ cZ p0 p1 p2 p3 n0 n1 n2 n3 n4 n5 n6 P_can P_picked P_left N_postCount N_roadCount N_first N_second N_number N_allowed N_at N_beside) s.heap.size)) g
theorem kvX4_mostGiven : CalV RX4 yX4_mostGiven cX4_mostGiven 5 (some .int) 1 := ⟨wC_yX4_mostGiven, wM_yX4_mostGiven, wS_yX4_mostGiven, wI_RX4, by decide +kernel⟩
set_option maxHeartbeats 4000000 in
set_option maxRecDepth 100000 in
theorem kX4_mostGiven (l : Launch) (D : va_G) (cI cJ cZ : ClassId) (p0 p1 p2 p3 n0 n1 n2 n3 n4 n5 n6 : Nat) (P_can : Nat → Int32) (P_picked : Nat → Int32) (P_left : Nat → Int32) (N_postCount : Int32) (N_roadCount : Int32) (N_first : Nat → Int32) (N_second : Nat → Int32) (N_number : Nat → Int32) (N_allowed : Nat → Int32) (N_at : Nat → Int32) (N_beside : Nat → Int32) (a1 : Int32) (out : Int32) (hf : FX4_mostGiven P_can N_roadCount N_first N_second a1 = some out) : MI l yX4_mostGiven (Cond.code yX4_mostGiven cX4_mostGiven 5 (some .int) :: GW) { frames := 2, cells := 0, slots := 0, locals := 45 } D cI cJ cZ [.ref p0, .int a1] (wP cI cJ cZ p0 p1 p2 p3 n0 n1 n2 n3 n4 n5 n6 P_can P_picked P_left N_postCount N_roadCount N_first N_second N_number N_allowed N_at N_beside) (fun r (_ : Unit) => r = out) (fun _ => (wP cI cJ cZ p0 p1 p2 p3 n0 n1 n2 n3 n4 n5 n6 P_can P_picked P_left N_postCount N_roadCount N_first N_second N_number N_allowed N_at N_beside)) := by
  intro sz
  refine Met.ofW (cc := cX4_mostGiven) (maxL := 5) (ret := (some .int)) (by decide +kernel) rfl ?_
  intro p e s m args below meth c s₁ B hml hv
  obtain ⟨rfl, hsz, hP, hK, hD0⟩ := hv
  have hx := B.exec
  have hb := B.bytes
  have hr := B.returns
  have hlocks := B.notSynchronized
  have hg : ∀ w ∈ GW, w.before _ s = true := fun w h => atoms_spec (ws := Cond.code yX4_mostGiven cX4_mostGiven 5 (some .int) :: GW) B.pre w (List.mem_cons_of_mem _ h)
  have hown : s.vm.findClass RX4 = some m.cls := findClass_of_methodNamed B.named
  subst hsz
  obtain ⟨A, hAe⟩ : ∃ A, A = va_A (wP cI cJ cZ p0 p1 p2 p3 n0 n1 n2 n3 n4 n5 n6 P_can P_picked P_left N_postCount N_roadCount N_first N_second N_number N_allowed N_at N_beside) s.heap.size := ⟨_, rfl⟩
  have hA : ∀ q : Nat, s.heap.size ≤ q → A q := fun q h => by rw [hAe]; exact Or.inr h
  have hI : WI D A s.heap (wP cI cJ cZ p0 p1 p2 p3 n0 n1 n2 n3 n4 n5 n6 P_can P_picked P_left N_postCount N_roadCount N_first N_second N_number N_allowed N_at N_beside) s.heap [] := ⟨hP, by rw [hAe]; exact hD0.self, va_S.rf⟩
  have hl := lv_entry [.ref p0, .int a1] (n := 5) (Nat.le_of_ble_eq_true rfl)
  rw [lg_entry_eq]
  generalize (lg_sl [.ref p0, .int a1] ++ List.replicate (5 - (lg_sl [.ref p0, .int a1]).length) Slot.unset).toArray = ls at hl ⊢
  replace hl : lv_has ls 5 [(0, .ref p0), (1, .int a1)] := hl
  have L19 : ∀ (l1 : Int32) (l2 : Int32), ∀ (v : Int32 × Int32) (x : Int32), loopO (X4_mostGiven_L19 P_can N_roadCount l1 l2) v = some x → (fun z : Int32 => z = out) x → (fun (v : Int32 × Int32) => ∀ (H : Heap) (locs : List Loc) (ls : Array Slot), WI D A s.heap (wP cI cJ cZ p0 p1 p2 p3 n0 n1 n2 n3 n4 n5 n6 P_can P_picked P_left N_postCount N_roadCount N_first N_second N_number N_allowed N_at N_beside) H locs → lv_has ls 5 [(0, .ref p0), (1, .int l1), (2, .int l2), (3, .int v.1), (4, .int v.2)] → GX4_mostGiven p l e s m below meth c D cI cJ cZ p0 p1 p2 p3 n0 n1 n2 n3 n4 n5 n6 P_can P_picked P_left N_postCount N_roadCount N_first N_second N_number N_allowed N_at N_beside a1 out H locs (F0 m 19 ls [])) v := by
    intro l1 l2
    refine loopO_ind (fun (v : Int32 × Int32) => ∀ (H : Heap) (locs : List Loc) (ls : Array Slot), WI D A s.heap (wP cI cJ cZ p0 p1 p2 p3 n0 n1 n2 n3 n4 n5 n6 P_can P_picked P_left N_postCount N_roadCount N_first N_second N_number N_allowed N_at N_beside) H locs → lv_has ls 5 [(0, .ref p0), (1, .int l1), (2, .int l2), (3, .int v.1), (4, .int v.2)] → GX4_mostGiven p l e s m below meth c D cI cJ cZ p0 p1 p2 p3 n0 n1 n2 n3 n4 n5 n6 P_can P_picked P_left N_postCount N_roadCount N_first N_second N_number N_allowed N_at N_beside a1 out H locs (F0 m 19 ls [])) (fun z : Int32 => z = out) ?_
    intro v x hf hM H locs ls hI hl
    refine lv_iload hx hb dX4_mostGiven_19 (lv_at hl 4 rfl) ?_
    refine lv_bipush (v := 16) hx hb dX4_mostGiven_21 (by decide) ?_
    refine lv_icmp_ge (tgt := 49) hx hb dX4_mostGiven_23 (by decide) (fun hc => ?_) (fun hc => ?_)
    · replace hf := ite_t hc hf
      refine lv_iload_n hx hb dX4_mostGiven_49 rfl (lv_at hl 3 rfl) ?_
      replace hf := Option.some.inj hf
      subst hf
      replace hM : v.1 = out := hM
      subst hM
      exact rt_i (u := ()) hx hb hr hlocks rfl hI hAe rfl dX4_mostGiven_50
    · replace hf := ite_f hc hf
      refine lv_iload_n hx hb dX4_mostGiven_26 rfl (lv_at hl 3 rfl) ?_
      refine lv_iload_n hx hb dX4_mostGiven_27 rfl (lv_at hl 2 rfl) ?_
      refine lv_aload_n hx hb dX4_mostGiven_28 rfl (lv_at hl 0 rfl) ?_
      refine lv_iload_n hx hb dX4_mostGiven_29 rfl (lv_at hl 1 rfl) ?_
      refine lv_iload hx hb dX4_mostGiven_30 (lv_at hl 4 rfl) ?_
      obtain ⟨o4, ho4, hf⟩ := bd_e hf
      refine w_Vi0 (wc := (wP cI cJ cZ p0 p1 p2 p3 n0 n1 n2 n3 n4 n5 n6 P_can P_picked P_left N_postCount N_roadCount N_first N_second N_number N_allowed N_at N_beside)) (wr := []) (rest := [.int l2, .int v.1]) hx hb hml hg hown hK hA hI (kX4_roadsThatCan l D cI cJ cZ p0 p1 p2 p3 n0 n1 n2 n3 n4 n5 n6 P_can P_picked P_left N_postCount N_roadCount N_first N_second N_number N_allowed N_at N_beside l1 v.2 o4 ho4) kvX4_roadsThatCan wL_RX4_64 ⟨Nat.le_of_ble_eq_true rfl, Nat.le_of_ble_eq_true rfl⟩ rfl rfl [0, 1, 2, 3, 4, 5, 6, 7, 8, 9, 10] [] rfl rfl rfl rfl (by decide) rfl rfl hl.1 (Nat.le_of_ble_eq_true rfl) dX4_mostGiven_32 ⟨Nat.zero_le _, Nat.zero_le _⟩ ⟨rfl, rfl⟩ (fun r u H locs hp hI => ?_)
      replace hp : r = o4 := hp
      rw [hp]
      clear hp
      replace hI : WI D A s.heap (wP cI cJ cZ p0 p1 p2 p3 n0 n1 n2 n3 n4 n5 n6 P_can P_picked P_left N_postCount N_roadCount N_first N_second N_number N_allowed N_at N_beside) H locs := hI
      obtain ⟨x5, hx5, hf⟩ := bd_e hf
      refine w_S (rest := [.int l2, .int v.1]) hx hb hml hg hown hK (kJ6_bitCount_0f7a4 l D cI cJ cZ o4 x5 hx5) ksJ6_bitCount_0f7a4 wL_RX4_81 ⟨Nat.le_of_ble_eq_true rfl, Nat.le_of_ble_eq_true rfl⟩ ⟨rfl, rfl⟩ rfl rfl hl.1 (Nat.le_of_ble_eq_true rfl) dX4_mostGiven_35 ⟨Nat.zero_le _, Nat.zero_le _⟩ ?_
      refine va_mmin hx hb (hml.trans hl.1.symm) hown (hg _ wL_RX4_95) (hg _ wT_yJ9_min_7cf53) (hg _ wI_RJ9) (hg _ wC_yJ9_min_7cf53) (Nat.le_of_ble_eq_true rfl) (Nat.le_of_ble_eq_true rfl) (Nat.zero_le _) (Nat.zero_le _) dX4_mostGiven_38 ?_
      refine lv_iadd hx hb dX4_mostGiven_41 ?_
      refine lv_topi (fun x6 ex6 => ?_)
      replace hf := bnd_e hf x6 ex6
      refine lv_istore_n (lv' := [(3, .int x6), (0, .ref p0), (1, .int l1), (2, .int l2), (4, .int v.2)]) hx hb dX4_mostGiven_42 rfl hl (by decide) rfl (fun ls hl => ?_)
      obtain ⟨x7, ex7⟩ : ∃ y : Int32, y = (v.2 + (1 : Int32)) := ⟨_, rfl⟩
      replace hf := bnd_e hf x7 ex7
      refine lv_iinc (v := x7) (lv' := [(4, .int x7), (3, .int x6), (0, .ref p0), (1, .int l1), (2, .int l2)]) hx hb dX4_mostGiven_43 hl (k := 4) rfl (by rw [ex7]; rfl) (by decide) rfl (fun ls hl => ?_)
      refine lv_goto (tgt := 19) hx hb dX4_mostGiven_46 (by decide) ?_
      replace hf := Option.some.inj hf
      subst hf
      exact hM _ _ _ hI (lv_sub hl [2, 3, 4, 1, 0] rfl)
  obtain ⟨x, hf, hM⟩ : ∃ x, FX4_mostGiven P_can N_roadCount N_first N_second a1 = some x ∧ x = out := ⟨out, hf, rfl⟩
  refine lv_aload_n hx hb dX4_mostGiven_0 rfl (lv_at hl 0 rfl) ?_
  refine w_get hx hb hg hown hK hI iX4 0 rfl rfl 0 (by decide) wF_RX4_22 rfl dX4_mostGiven_1 ?_
  refine lv_iload_n hx hb dX4_mostGiven_4 rfl (lv_at hl 1 rfl) ?_
  obtain ⟨o1, ho1, hf⟩ := bd_e hf
  refine w_Vi0 (wc := (wN cI cJ cZ n0 n1 n2 n3 n4 n5 n6 N_postCount N_roadCount N_first N_second N_number N_allowed N_at N_beside)) (wr := [(p0, .inr (4, [.ref n0, .ref p1, .ref p2, .ref p3])), (p1, .inl (cI, 12, .inl P_can)), (p2, .inl (cI, 12, .inl P_picked)), (p3, .inl (cZ, 4096, .inl P_left))]) (rest := []) hx hb hml hg hown hK hA hI (kX3_endsOf l D cI cJ cZ n0 n1 n2 n3 n4 n5 n6 N_postCount N_roadCount N_first N_second N_number N_allowed N_at N_beside a1 o1 ho1) kvX3_endsOf wL_RX4_92 ⟨Nat.le_of_ble_eq_true rfl, Nat.le_of_ble_eq_true rfl⟩ rfl rfl [4, 5, 6, 7, 8, 9, 10] [0, 1, 2, 3] rfl rfl rfl rfl (by decide) rfl rfl hl.1 (Nat.le_of_ble_eq_true rfl) dX4_mostGiven_5 ⟨Nat.zero_le _, Nat.zero_le _⟩ ⟨rfl, rfl⟩ (fun r u H locs hp hI => ?_)
  replace hp : r = o1 := hp
  rw [hp]
  clear hp
  replace hI : WI D A s.heap (wP cI cJ cZ p0 p1 p2 p3 n0 n1 n2 n3 n4 n5 n6 P_can P_picked P_left N_postCount N_roadCount N_first N_second N_number N_allowed N_at N_beside) H locs := hI
  obtain ⟨x2, hx2, hf⟩ := bd_e hf
  refine w_S (rest := []) hx hb hml hg hown hK (kJ6_bitCount_0f7a4 l D cI cJ cZ o1 x2 hx2) ksJ6_bitCount_0f7a4 wL_RX4_81 ⟨Nat.le_of_ble_eq_true rfl, Nat.le_of_ble_eq_true rfl⟩ ⟨rfl, rfl⟩ rfl rfl hl.1 (Nat.le_of_ble_eq_true rfl) dX4_mostGiven_8 ⟨Nat.zero_le _, Nat.zero_le _⟩ ?_
  refine lv_iconst (v := 2) hx hb dX4_mostGiven_11 (by decide) ?_
  obtain ⟨hne, hf⟩ := dv_e hf
  refine lv_idiv hx hb dX4_mostGiven_12 hne ?_
  refine lv_topi (fun x3 ex3 => ?_)
  replace hf := hf x3 ex3
  refine lv_istore_n (lv' := [(2, .int x3), (0, .ref p0), (1, .int a1)]) hx hb dX4_mostGiven_13 rfl hl (by decide) rfl (fun ls hl => ?_)
  refine lv_iconst (v := 0) hx hb dX4_mostGiven_14 (by decide) ?_
  refine lv_istore_n (lv' := [(3, .int (0 : Int32)), (2, .int x3), (0, .ref p0), (1, .int a1)]) hx hb dX4_mostGiven_15 rfl hl (by decide) rfl (fun ls hl => ?_)
  refine lv_iconst (v := 0) hx hb dX4_mostGiven_16 (by decide) ?_
  refine lv_istore (lv' := [(4, .int (0 : Int32)), (3, .int (0 : Int32)), (2, .int x3), (0, .ref p0), (1, .int a1)]) hx hb dX4_mostGiven_17 hl (by decide) rfl (fun ls hl => ?_)
  exact L19 a1 x3 ((0 : Int32), (0 : Int32)) _ hf hM _ _ _ hI (lv_sub hl [3, 4, 2, 1, 0] rfl)
noncomputable def X4_clearLeft_L12 (l1 : Int32) (l2 : Int32) (v : (Nat → Int32) × Int32 × Int32) : Option (((Nat → Int32) × Int32 × Int32) ⊕ ((Nat → Int32))) :=
  if l2 ≤ v.2.2 then (some (.inr v.1)) else (wr v.1 4096 v.2.1 (vp_nar .boolean (0 : Int32)) (fun g3 => bnd ((v.2.1 - l1) &&& l1) (fun x4 => bnd (v.2.2 + (1 : Int32)) (fun x5 => some (.inl (g3, x4, x5))))))
noncomputable def FX4_clearLeft (P_left_0 : Nat → Int32) (a1 : Int32) : Option ((Nat → Int32)) :=
  (FJ6_bitCount_0f7a4 a1).bind (fun x1 => bnd ((1 : Int32) <<< (x1 &&& (31 : Int32))) (fun x2 => loopO (X4_clearLeft_L12 a1 x2) (P_left_0, (0 : Int32), (0 : Int32))))
abbrev GX4_clearLeft (p : Program) (l : Launch) (e : Env) (s : State) (m : MethodId) (below : List Frame) (meth : Method) (c : Code) (D : va_G) (cI cJ cZ : ClassId) (p0 p1 p2 p3 n0 n1 n2 n3 n4 n5 n6 : Nat) (P_can : Nat → Int32) (P_picked : Nat → Int32) (P_left_0 : Nat → Int32) (N_postCount : Int32) (N_roadCount : Int32) (N_first : Nat → Int32) (N_second : Nat → Int32) (N_number : Nat → Int32) (N_allowed : Nat → Int32) (N_at : Nat → Int32) (N_beside : Nat → Int32) (a1 : Int32) (out : (Nat → Int32)) (H : Heap) (locs : List Loc) (g : JFrame) : Prop := W p l e (headSpec (Cond.code yX4_clearLeft cX4_clearLeft 5 none :: GW) { frames := 1, cells := 0, slots := 0, locals := 20 }).room s m ([.ref p0, .int a1] : List Value).toArray below meth c H locs 0 0 (MQ below (va_Qv (fun (_ : Unit) => True) (BW D (wP cI cJ cZ p0 p1 p2 p3 n0 n1 n2 n3 n4 n5 n6 P_can P_picked P_left_0 N_postCount N_roadCount N_first N_second N_number N_allowed N_at N_beside) s.heap.size (fun _ => (wP cI cJ cZ p0 p1 p2 p3 n0 n1 n2 n3 n4 n5 n6 P_can P_picked out N_postCount N_roadCount N_first N_second N_number N_allowed N_at N_beside))) (va_A (wP cI cJ cZ p0 p1 p2 p3 n0 n1 n2 n3 n4 n5 n6 P_can P_picked P_left_0 N_postCount N_roadCount N_first N_second N_number N_allowed N_at N_beside) s.heap.size)) ([.ref p0, .int a1] : List Value).toArray s 0 0 (va_A (wP cI cJ cZ p0 p1 p2 p3 n0 n1 n2 n3 n4 n5 n6 P_can P_picked P_left_0 N_postCount N_roadCount N_first N_second N_number N_allowed N_at N_beside) s.heap.size)) g
theorem kvX4_clearLeft : CalV RX4 yX4_clearLeft cX4_clearLeft 5 none 1 := ⟨wC_yX4_clearLeft, wM_yX4_clearLeft, wS_yX4_clearLeft, wI_RX4, by decide +kernel⟩
set_option maxHeartbeats 4000000 in
set_option maxRecDepth 100000 in
theorem kX4_clearLeft (l : Launch) (D : va_G) (cI cJ cZ : ClassId) (p0 p1 p2 p3 n0 n1 n2 n3 n4 n5 n6 : Nat) (P_can : Nat → Int32) (P_picked : Nat → Int32) (P_left_0 : Nat → Int32) (N_postCount : Int32) (N_roadCount : Int32) (N_first : Nat → Int32) (N_second : Nat → Int32) (N_number : Nat → Int32) (N_allowed : Nat → Int32) (N_at : Nat → Int32) (N_beside : Nat → Int32) (a1 : Int32) (out : (Nat → Int32)) (hf : FX4_clearLeft P_left_0 a1 = some out) : MV l yX4_clearLeft (Cond.code yX4_clearLeft cX4_clearLeft 5 none :: GW) { frames := 1, cells := 0, slots := 0, locals := 20 } D cI cJ cZ [.ref p0, .int a1] (wP cI cJ cZ p0 p1 p2 p3 n0 n1 n2 n3 n4 n5 n6 P_can P_picked P_left_0 N_postCount N_roadCount N_first N_second N_number N_allowed N_at N_beside) (fun (_ : Unit) => True) (fun _ => (wP cI cJ cZ p0 p1 p2 p3 n0 n1 n2 n3 n4 n5 n6 P_can P_picked out N_postCount N_roadCount N_first N_second N_number N_allowed N_at N_beside)) := by
  intro sz
  refine Met.ofW (cc := cX4_clearLeft) (maxL := 5) (ret := none) (by decide +kernel) rfl ?_
  intro p e s m args below meth c s₁ B hml hv
  obtain ⟨rfl, hsz, hP, hK, hD0⟩ := hv
  have hx := B.exec
  have hb := B.bytes
  have hr := B.returns
  have hlocks := B.notSynchronized
  have hg : ∀ w ∈ GW, w.before _ s = true := fun w h => atoms_spec (ws := Cond.code yX4_clearLeft cX4_clearLeft 5 none :: GW) B.pre w (List.mem_cons_of_mem _ h)
  have hown : s.vm.findClass RX4 = some m.cls := findClass_of_methodNamed B.named
  subst hsz
  obtain ⟨A, hAe⟩ : ∃ A, A = va_A (wP cI cJ cZ p0 p1 p2 p3 n0 n1 n2 n3 n4 n5 n6 P_can P_picked P_left_0 N_postCount N_roadCount N_first N_second N_number N_allowed N_at N_beside) s.heap.size := ⟨_, rfl⟩
  have hA : ∀ q : Nat, s.heap.size ≤ q → A q := fun q h => by rw [hAe]; exact Or.inr h
  have hI : WI D A s.heap (wP cI cJ cZ p0 p1 p2 p3 n0 n1 n2 n3 n4 n5 n6 P_can P_picked P_left_0 N_postCount N_roadCount N_first N_second N_number N_allowed N_at N_beside) s.heap [] := ⟨hP, by rw [hAe]; exact hD0.self, va_S.rf⟩
  have hl := lv_entry [.ref p0, .int a1] (n := 5) (Nat.le_of_ble_eq_true rfl)
  rw [lg_entry_eq]
  generalize (lg_sl [.ref p0, .int a1] ++ List.replicate (5 - (lg_sl [.ref p0, .int a1]).length) Slot.unset).toArray = ls at hl ⊢
  replace hl : lv_has ls 5 [(0, .ref p0), (1, .int a1)] := hl
  have L12 : ∀ (l1 : Int32) (l2 : Int32), ∀ (v : (Nat → Int32) × Int32 × Int32) (x : (Nat → Int32)), loopO (X4_clearLeft_L12 l1 l2) v = some x → (fun z : (Nat → Int32) => z = out) x → (fun (v : (Nat → Int32) × Int32 × Int32) => ∀ (H : Heap) (locs : List Loc) (ls : Array Slot), WI D A s.heap (wP cI cJ cZ p0 p1 p2 p3 n0 n1 n2 n3 n4 n5 n6 P_can P_picked v.1 N_postCount N_roadCount N_first N_second N_number N_allowed N_at N_beside) H locs → lv_has ls 5 [(0, .ref p0), (1, .int l1), (2, .int l2), (3, .int v.2.1), (4, .int v.2.2)] → GX4_clearLeft p l e s m below meth c D cI cJ cZ p0 p1 p2 p3 n0 n1 n2 n3 n4 n5 n6 P_can P_picked P_left_0 N_postCount N_roadCount N_first N_second N_number N_allowed N_at N_beside a1 out H locs (F0 m 12 ls [])) v := by
    intro l1 l2
    refine loopO_ind (fun (v : (Nat → Int32) × Int32 × Int32) => ∀ (H : Heap) (locs : List Loc) (ls : Array Slot), WI D A s.heap (wP cI cJ cZ p0 p1 p2 p3 n0 n1 n2 n3 n4 n5 n6 P_can P_picked v.1 N_postCount N_roadCount N_first N_second N_number N_allowed N_at N_beside) H locs → lv_has ls 5 [(0, .ref p0), (1, .int l1), (2, .int l2), (3, .int v.2.1), (4, .int v.2.2)] → GX4_clearLeft p l e s m below meth c D cI cJ cZ p0 p1 p2 p3 n0 n1 n2 n3 n4 n5 n6 P_can P_picked P_left_0 N_postCount N_roadCount N_first N_second N_number N_allowed N_at N_beside a1 out H locs (F0 m 12 ls [])) (fun z : (Nat → Int32) => z = out) ?_
    intro v x hf hM H locs ls hI hl
    refine lv_iload hx hb dX4_clearLeft_12 (lv_at hl 4 rfl) ?_
    refine lv_iload_n hx hb dX4_clearLeft_14 rfl (lv_at hl 2 rfl) ?_
    refine lv_icmp_ge (tgt := 37) hx hb dX4_clearLeft_15 (by decide) (fun hc => ?_) (fun hc => ?_)
    · replace hf := ite_t hc hf
      replace hf := Option.some.inj hf
      subst hf
      replace hM : v.1 = out := hM
      subst hM
      exact rt_v (u := ()) hx hb hr hlocks hI hAe trivial dX4_clearLeft_37
    · replace hf := ite_f hc hf
      refine lv_aload_n hx hb dX4_clearLeft_18 rfl (lv_at hl 0 rfl) ?_
      refine w_get hx hb hg hown hK hI iX4 0 rfl rfl 3 (by decide) wF_RX4_18 rfl dX4_clearLeft_19 ?_
      refine lv_iload_n hx hb dX4_clearLeft_22 rfl (lv_at hl 3 rfl) ?_
      refine lv_iconst (v := 0) hx hb dX4_clearLeft_23 (by decide) ?_
      obtain ⟨hin, hf⟩ := wr_e hf
      obtain ⟨g3, eg3⟩ : ∃ g : Nat → Int32, g = upd v.1 (v.2.1).toNatClampNeg (vp_nar .boolean (0 : Int32)) := ⟨_, rfl⟩
      replace hf := hf g3 eg3
      refine w_zast (g := g3) (W1 := (wP cI cJ cZ p0 p1 p2 p3 n0 n1 n2 n3 n4 n5 n6 P_can P_picked g3 N_postCount N_roadCount N_first N_second N_number N_allowed N_at N_beside)) hx hb hK hI 3 rfl hin eg3 dX4_clearLeft_24 rfl (fun H locs hI => ?_)
      refine lv_iload_n hx hb dX4_clearLeft_25 rfl (lv_at hl 3 rfl) ?_
      refine lv_iload_n hx hb dX4_clearLeft_26 rfl (lv_at hl 1 rfl) ?_
      refine lv_isub hx hb dX4_clearLeft_27 ?_
      refine lv_iload_n hx hb dX4_clearLeft_28 rfl (lv_at hl 1 rfl) ?_
      refine lv_iand hx hb dX4_clearLeft_29 ?_
      refine lv_topi (fun x4 ex4 => ?_)
      replace hf := bnd_e hf x4 ex4
      refine lv_istore_n (lv' := [(3, .int x4), (0, .ref p0), (1, .int l1), (2, .int l2), (4, .int v.2.2)]) hx hb dX4_clearLeft_30 rfl hl (by decide) rfl (fun ls hl => ?_)
      obtain ⟨x5, ex5⟩ : ∃ y : Int32, y = (v.2.2 + (1 : Int32)) := ⟨_, rfl⟩
      replace hf := bnd_e hf x5 ex5
      refine lv_iinc (v := x5) (lv' := [(4, .int x5), (3, .int x4), (0, .ref p0), (1, .int l1), (2, .int l2)]) hx hb dX4_clearLeft_31 hl (k := 4) rfl (by rw [ex5]; rfl) (by decide) rfl (fun ls hl => ?_)
      refine lv_goto (tgt := 12) hx hb dX4_clearLeft_34 (by decide) ?_
      replace hf := Option.some.inj hf
      subst hf
      exact hM _ _ _ hI (lv_sub hl [2, 3, 4, 1, 0] rfl)
  obtain ⟨x, hf, hM⟩ : ∃ x, FX4_clearLeft P_left_0 a1 = some x ∧ x = out := ⟨out, hf, rfl⟩
  refine lv_iconst (v := 1) hx hb dX4_clearLeft_0 (by decide) ?_
  refine lv_iload_n hx hb dX4_clearLeft_1 rfl (lv_at hl 1 rfl) ?_
  obtain ⟨x1, hx1, hf⟩ := bd_e hf
  refine w_S (rest := [.int (1 : Int32)]) hx hb hml hg hown hK (kJ6_bitCount_0f7a4 l D cI cJ cZ a1 x1 hx1) ksJ6_bitCount_0f7a4 wL_RX4_81 ⟨Nat.le_of_ble_eq_true rfl, Nat.le_of_ble_eq_true rfl⟩ ⟨rfl, rfl⟩ rfl rfl hl.1 (Nat.le_of_ble_eq_true rfl) dX4_clearLeft_2 ⟨Nat.zero_le _, Nat.zero_le _⟩ ?_
  refine lv_ishl hx hb dX4_clearLeft_5 ?_
  refine lv_topi (fun x2 ex2 => ?_)
  replace hf := bnd_e hf x2 ex2
  refine lv_istore_n (lv' := [(2, .int x2), (0, .ref p0), (1, .int a1)]) hx hb dX4_clearLeft_6 rfl hl (by decide) rfl (fun ls hl => ?_)
  refine lv_iconst (v := 0) hx hb dX4_clearLeft_7 (by decide) ?_
  refine lv_istore_n (lv' := [(3, .int (0 : Int32)), (2, .int x2), (0, .ref p0), (1, .int a1)]) hx hb dX4_clearLeft_8 rfl hl (by decide) rfl (fun ls hl => ?_)
  refine lv_iconst (v := 0) hx hb dX4_clearLeft_9 (by decide) ?_
  refine lv_istore (lv' := [(4, .int (0 : Int32)), (3, .int (0 : Int32)), (2, .int x2), (0, .ref p0), (1, .int a1)]) hx hb dX4_clearLeft_10 hl (by decide) rfl (fun ls hl => ?_)
  exact L12 a1 x2 (P_left_0, (0 : Int32), (0 : Int32)) _ hf hM _ _ _ hI (lv_sub hl [3, 4, 2, 1, 0] rfl)
noncomputable def X4_strike_L2 (N_roadCount : Int32) (l1 : Int32) (l2 : Int32) (v : (Nat → Int32) × Int32) : Option (((Nat → Int32) × Int32) ⊕ ((Nat → Int32))) :=
  if N_roadCount ≤ v.2 then (some (.inr v.1)) else ((FX7_isIn l1 v.2).bind (fun x1 => if x1 = (0 : Int32) then (bnd (v.2 + (1 : Int32)) (fun x2 => some (.inl (v.1, x2)))) else (rd v.1 12 v.2 (fun x3 => wr v.1 12 v.2 (x3 ^^^ ((1 : Int32) <<< (l2 &&& (31 : Int32)))) (fun g4 => bnd (v.2 + (1 : Int32)) (fun x5 => some (.inl (g4, x5))))))))
noncomputable def FX4_strike (P_can_0 : Nat → Int32) (N_roadCount : Int32) (a1 : Int32) (a2 : Int32) : Option ((Nat → Int32)) :=
  loopO (X4_strike_L2 N_roadCount a1 a2) (P_can_0, (0 : Int32))
abbrev GX4_strike (p : Program) (l : Launch) (e : Env) (s : State) (m : MethodId) (below : List Frame) (meth : Method) (c : Code) (D : va_G) (cI cJ cZ : ClassId) (p0 p1 p2 p3 n0 n1 n2 n3 n4 n5 n6 : Nat) (P_can_0 : Nat → Int32) (P_picked : Nat → Int32) (P_left : Nat → Int32) (N_postCount : Int32) (N_roadCount : Int32) (N_first : Nat → Int32) (N_second : Nat → Int32) (N_number : Nat → Int32) (N_allowed : Nat → Int32) (N_at : Nat → Int32) (N_beside : Nat → Int32) (a1 : Int32) (a2 : Int32) (out : (Nat → Int32)) (H : Heap) (locs : List Loc) (g : JFrame) : Prop := W p l e (headSpec (Cond.code yX4_strike cX4_strike 4 none :: GW) { frames := 1, cells := 0, slots := 0, locals := 21 }).room s m ([.ref p0, .int a1, .int a2] : List Value).toArray below meth c H locs 0 0 (MQ below (va_Qv (fun (_ : Unit) => True) (BW D (wP cI cJ cZ p0 p1 p2 p3 n0 n1 n2 n3 n4 n5 n6 P_can_0 P_picked P_left N_postCount N_roadCount N_first N_second N_number N_allowed N_at N_beside) s.heap.size (fun _ => (wP cI cJ cZ p0 p1 p2 p3 n0 n1 n2 n3 n4 n5 n6 out P_picked P_left N_postCount N_roadCount N_first N_second N_number N_allowed N_at N_beside))) (va_A (wP cI cJ cZ p0 p1 p2 p3 n0 n1 n2 n3 n4 n5 n6 P_can_0 P_picked P_left N_postCount N_roadCount N_first N_second N_number N_allowed N_at N_beside) s.heap.size)) ([.ref p0, .int a1, .int a2] : List Value).toArray s 0 0 (va_A (wP cI cJ cZ p0 p1 p2 p3 n0 n1 n2 n3 n4 n5 n6 P_can_0 P_picked P_left N_postCount N_roadCount N_first N_second N_number N_allowed N_at N_beside) s.heap.size)) g
theorem kvX4_strike : CalV RX4 yX4_strike cX4_strike 4 none 2 := ⟨wC_yX4_strike, wM_yX4_strike, wS_yX4_strike, wI_RX4, by decide +kernel⟩
set_option maxHeartbeats 4000000 in
set_option maxRecDepth 100000 in
theorem kX4_strike (l : Launch) (D : va_G) (cI cJ cZ : ClassId) (p0 p1 p2 p3 n0 n1 n2 n3 n4 n5 n6 : Nat) (P_can_0 : Nat → Int32) (P_picked : Nat → Int32) (P_left : Nat → Int32) (N_postCount : Int32) (N_roadCount : Int32) (N_first : Nat → Int32) (N_second : Nat → Int32) (N_number : Nat → Int32) (N_allowed : Nat → Int32) (N_at : Nat → Int32) (N_beside : Nat → Int32) (a1 : Int32) (a2 : Int32) (out : (Nat → Int32)) (hf : FX4_strike P_can_0 N_roadCount a1 a2 = some out) : MV l yX4_strike (Cond.code yX4_strike cX4_strike 4 none :: GW) { frames := 1, cells := 0, slots := 0, locals := 21 } D cI cJ cZ [.ref p0, .int a1, .int a2] (wP cI cJ cZ p0 p1 p2 p3 n0 n1 n2 n3 n4 n5 n6 P_can_0 P_picked P_left N_postCount N_roadCount N_first N_second N_number N_allowed N_at N_beside) (fun (_ : Unit) => True) (fun _ => (wP cI cJ cZ p0 p1 p2 p3 n0 n1 n2 n3 n4 n5 n6 out P_picked P_left N_postCount N_roadCount N_first N_second N_number N_allowed N_at N_beside)) := by
  intro sz
  refine Met.ofW (cc := cX4_strike) (maxL := 4) (ret := none) (by decide +kernel) rfl ?_
  intro p e s m args below meth c s₁ B hml hv
  obtain ⟨rfl, hsz, hP, hK, hD0⟩ := hv
  have hx := B.exec
  have hb := B.bytes
  have hr := B.returns
  have hlocks := B.notSynchronized
  have hg : ∀ w ∈ GW, w.before _ s = true := fun w h => atoms_spec (ws := Cond.code yX4_strike cX4_strike 4 none :: GW) B.pre w (List.mem_cons_of_mem _ h)
  have hown : s.vm.findClass RX4 = some m.cls := findClass_of_methodNamed B.named
  subst hsz
  obtain ⟨A, hAe⟩ : ∃ A, A = va_A (wP cI cJ cZ p0 p1 p2 p3 n0 n1 n2 n3 n4 n5 n6 P_can_0 P_picked P_left N_postCount N_roadCount N_first N_second N_number N_allowed N_at N_beside) s.heap.size := ⟨_, rfl⟩
  have hA : ∀ q : Nat, s.heap.size ≤ q → A q := fun q h => by rw [hAe]; exact Or.inr h
  have hI : WI D A s.heap (wP cI cJ cZ p0 p1 p2 p3 n0 n1 n2 n3 n4 n5 n6 P_can_0 P_picked P_left N_postCount N_roadCount N_first N_second N_number N_allowed N_at N_beside) s.heap [] := ⟨hP, by rw [hAe]; exact hD0.self, va_S.rf⟩
  have hl := lv_entry [.ref p0, .int a1, .int a2] (n := 4) (Nat.le_of_ble_eq_true rfl)
  rw [lg_entry_eq]
  generalize (lg_sl [.ref p0, .int a1, .int a2] ++ List.replicate (4 - (lg_sl [.ref p0, .int a1, .int a2]).length) Slot.unset).toArray = ls at hl ⊢
  replace hl : lv_has ls 4 [(0, .ref p0), (1, .int a1), (2, .int a2)] := hl
  have L2 : ∀ (l1 : Int32) (l2 : Int32), ∀ (v : (Nat → Int32) × Int32) (x : (Nat → Int32)), loopO (X4_strike_L2 N_roadCount l1 l2) v = some x → (fun z : (Nat → Int32) => z = out) x → (fun (v : (Nat → Int32) × Int32) => ∀ (H : Heap) (locs : List Loc) (ls : Array Slot), WI D A s.heap (wP cI cJ cZ p0 p1 p2 p3 n0 n1 n2 n3 n4 n5 n6 v.1 P_picked P_left N_postCount N_roadCount N_first N_second N_number N_allowed N_at N_beside) H locs → lv_has ls 4 [(0, .ref p0), (1, .int l1), (2, .int l2), (3, .int v.2)] → GX4_strike p l e s m below meth c D cI cJ cZ p0 p1 p2 p3 n0 n1 n2 n3 n4 n5 n6 P_can_0 P_picked P_left N_postCount N_roadCount N_first N_second N_number N_allowed N_at N_beside a1 a2 out H locs (F0 m 2 ls [])) v := by
    intro l1 l2
    refine loopO_ind (fun (v : (Nat → Int32) × Int32) => ∀ (H : Heap) (locs : List Loc) (ls : Array Slot), WI D A s.heap (wP cI cJ cZ p0 p1 p2 p3 n0 n1 n2 n3 n4 n5 n6 v.1 P_picked P_left N_postCount N_roadCount N_first N_second N_number N_allowed N_at N_beside) H locs → lv_has ls 4 [(0, .ref p0), (1, .int l1), (2, .int l2), (3, .int v.2)] → GX4_strike p l e s m below meth c D cI cJ cZ p0 p1 p2 p3 n0 n1 n2 n3 n4 n5 n6 P_can_0 P_picked P_left N_postCount N_roadCount N_first N_second N_number N_allowed N_at N_beside a1 a2 out H locs (F0 m 2 ls [])) (fun z : (Nat → Int32) => z = out) ?_
    intro v x hf hM H locs ls hI hl
    refine lv_iload_n hx hb dX4_strike_2 rfl (lv_at hl 3 rfl) ?_
    refine lv_aload_n hx hb dX4_strike_3 rfl (lv_at hl 0 rfl) ?_
    refine w_get hx hb hg hown hK hI iX4 0 rfl rfl 0 (by decide) wF_RX4_22 rfl dX4_strike_4 ?_
    refine w_get hx hb hg hown hK hI iX3 4 rfl rfl 1 (by decide) wF_RX4_26 rfl dX4_strike_7 ?_
    refine lv_icmp_ge (tgt := 39) hx hb dX4_strike_10 (by decide) (fun hc => ?_) (fun hc => ?_)
    · replace hf := ite_t hc hf
      replace hf := Option.some.inj hf
      subst hf
      replace hM : v.1 = out := hM
      subst hM
      exact rt_v (u := ()) hx hb hr hlocks hI hAe trivial dX4_strike_39
    · replace hf := ite_f hc hf
      refine lv_iload_n hx hb dX4_strike_13 rfl (lv_at hl 1 rfl) ?_
      refine lv_iload_n hx hb dX4_strike_14 rfl (lv_at hl 3 rfl) ?_
      obtain ⟨x1, hx1, hf⟩ := bd_e hf
      refine w_N (rest := []) hx hb hml hg hown hK (kX7_isIn l D cI cJ cZ l1 v.2 x1 hx1) ksX7_isIn (List.mem_of_getElem? (i := 5) rfl) ⟨Nat.le_of_ble_eq_true rfl, Nat.le_of_ble_eq_true rfl⟩ ⟨rfl, rfl⟩ rfl rfl hl.1 (Nat.le_of_ble_eq_true rfl) dX4_strike_15 ⟨Nat.zero_le _, Nat.zero_le _⟩ ?_
      refine lv_if_eq (tgt := 33) hx hb dX4_strike_18 (by decide) (fun hc => ?_) (fun hc => ?_)
      · replace hf := ite_t hc hf
        obtain ⟨x2, ex2⟩ : ∃ y : Int32, y = (v.2 + (1 : Int32)) := ⟨_, rfl⟩
        replace hf := bnd_e hf x2 ex2
        refine lv_iinc (v := x2) (lv' := [(3, .int x2), (0, .ref p0), (1, .int l1), (2, .int l2)]) hx hb dX4_strike_33 hl (k := 3) rfl (by rw [ex2]; rfl) (by decide) rfl (fun ls hl => ?_)
        refine lv_goto (tgt := 2) hx hb dX4_strike_36 (by decide) ?_
        replace hf := Option.some.inj hf
        subst hf
        exact hM _ _ _ hI (lv_sub hl [1, 2, 3, 0] rfl)
      · replace hf := ite_f hc hf
        refine lv_aload_n hx hb dX4_strike_21 rfl (lv_at hl 0 rfl) ?_
        refine w_get hx hb hg hown hK hI iX4 0 rfl rfl 1 (by decide) wF_RX4_9 rfl dX4_strike_22 ?_
        refine lv_iload_n hx hb dX4_strike_25 rfl (lv_at hl 3 rfl) ?_
        refine lv_dup2_11 hx hb dX4_strike_26 rfl rfl ?_
        obtain ⟨hin, hf⟩ := rd_e hf
        refine w_iald hx hb hK hI 1 rfl hin dX4_strike_27 (fun x3 ex3 => ?_)
        replace hf := hf x3 ex3
        refine lv_iconst (v := 1) hx hb dX4_strike_28 (by decide) ?_
        refine lv_iload_n hx hb dX4_strike_29 rfl (lv_at hl 2 rfl) ?_
        refine lv_ishl hx hb dX4_strike_30 ?_
        refine lv_ixor hx hb dX4_strike_31 ?_
        obtain ⟨hin, hf⟩ := wr_e hf
        obtain ⟨g4, eg4⟩ : ∃ g : Nat → Int32, g = upd v.1 (v.2).toNatClampNeg (x3 ^^^ ((1 : Int32) <<< (l2 &&& (31 : Int32)))) := ⟨_, rfl⟩
        replace hf := hf g4 eg4
        refine w_iast (g := g4) (W1 := (wP cI cJ cZ p0 p1 p2 p3 n0 n1 n2 n3 n4 n5 n6 g4 P_picked P_left N_postCount N_roadCount N_first N_second N_number N_allowed N_at N_beside)) hx hb hK hI 1 rfl hin eg4 dX4_strike_32 rfl (fun H locs hI => ?_)
        obtain ⟨x5, ex5⟩ : ∃ y : Int32, y = (v.2 + (1 : Int32)) := ⟨_, rfl⟩
        replace hf := bnd_e hf x5 ex5
        refine lv_iinc (v := x5) (lv' := [(3, .int x5), (0, .ref p0), (1, .int l1), (2, .int l2)]) hx hb dX4_strike_33 hl (k := 3) rfl (by rw [ex5]; rfl) (by decide) rfl (fun ls hl => ?_)
        refine lv_goto (tgt := 2) hx hb dX4_strike_36 (by decide) ?_
        replace hf := Option.some.inj hf
        subst hf
        exact hM _ _ _ hI (lv_sub hl [1, 2, 3, 0] rfl)
  obtain ⟨x, hf, hM⟩ : ∃ x, FX4_strike P_can_0 N_roadCount a1 a2 = some x ∧ x = out := ⟨out, hf, rfl⟩
  refine lv_iconst (v := 0) hx hb dX4_strike_0 (by decide) ?_
  refine lv_istore_n (lv' := [(3, .int (0 : Int32)), (0, .ref p0), (1, .int a1), (2, .int a2)]) hx hb dX4_strike_1 rfl hl (by decide) rfl (fun ls hl => ?_)
  exact L2 a1 a2 (P_can_0, (0 : Int32)) _ hf hM _ _ _ hI (lv_sub hl [1, 2, 3, 0] rfl)
