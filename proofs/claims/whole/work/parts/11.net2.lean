noncomputable def X3_removeLatest_L53 (N_roadCount : Int32) (N_at : Nat → Int32) (l1 : Int32) (v : (Nat → Int32) × Int32) : Option (((Nat → Int32) × Int32) ⊕ (Int32 × Int32 × (Nat → Int32) × (Nat → Int32))) :=
  if N_roadCount ≤ v.2 then (some (.inr (N_roadCount, N_roadCount, N_at, v.1))) else (rd v.1 24 v.2 (fun x9 => wr v.1 24 v.2 (x9 &&& l1) (fun g10 => bnd (v.2 + (1 : Int32)) (fun x11 => some (.inl (g10, x11))))))
noncomputable def FX3_removeLatest (N_roadCount_0 : Int32) (N_first : Nat → Int32) (N_second : Nat → Int32) (N_at_0 : Nat → Int32) (N_beside_0 : Nat → Int32)  : Option (Int32 × Int32 × (Nat → Int32) × (Nat → Int32)) :=
  bnd (N_roadCount_0 - (1 : Int32)) (fun x1 => (FX3_allRoads x1).bind (fun o2 => rd N_first 24 x1 (fun x3 => rd N_at_0 12 x3 (fun x4 => wr N_at_0 12 x3 (x4 &&& o2) (fun g5 => rd N_second 24 x1 (fun x6 => rd g5 12 x6 (fun x7 => wr g5 12 x6 (x7 &&& o2) (fun g8 => loopO (X3_removeLatest_L53 x1 g8 o2) (N_beside_0, (0 : Int32))))))))))
abbrev GX3_removeLatest (p : Program) (l : Launch) (e : Env) (s : State) (m : MethodId) (below : List Frame) (meth : Method) (c : Code) (D : va_G) (cI cJ cZ : ClassId) (n0 n1 n2 n3 n4 n5 n6 : Nat) (N_postCount : Int32) (N_roadCount_0 : Int32) (N_first : Nat → Int32) (N_second : Nat → Int32) (N_number : Nat → Int32) (N_allowed : Nat → Int32) (N_at_0 : Nat → Int32) (N_beside_0 : Nat → Int32)  (out : Int32 × Int32 × (Nat → Int32) × (Nat → Int32)) (H : Heap) (locs : List Loc) (g : JFrame) : Prop := W p l e (headSpec (Cond.code yX3_removeLatest cX3_removeLatest 3 (some .int) :: GW) { frames := 1, cells := 0, slots := 0, locals := 20 }).room s m ([.ref n0] : List Value).toArray below meth c H locs 0 0 (MQ below (va_Qi (fun r (_ : Unit) => r = out.1) (BW D (wN cI cJ cZ n0 n1 n2 n3 n4 n5 n6 N_postCount N_roadCount_0 N_first N_second N_number N_allowed N_at_0 N_beside_0) s.heap.size (fun _ => (wN cI cJ cZ n0 n1 n2 n3 n4 n5 n6 N_postCount out.2.1 N_first N_second N_number N_allowed out.2.2.1 out.2.2.2))) (va_A (wN cI cJ cZ n0 n1 n2 n3 n4 n5 n6 N_postCount N_roadCount_0 N_first N_second N_number N_allowed N_at_0 N_beside_0) s.heap.size)) ([.ref n0] : List Value).toArray s 0 0 (va_A (wN cI cJ cZ n0 n1 n2 n3 n4 n5 n6 N_postCount N_roadCount_0 N_first N_second N_number N_allowed N_at_0 N_beside_0) s.heap.size)) g
theorem kvX3_removeLatest : CalV RX3 yX3_removeLatest cX3_removeLatest 3 (some .int) 0 := ⟨wC_yX3_removeLatest, wM_yX3_removeLatest, wS_yX3_removeLatest, wI_RX3, by decide +kernel⟩
set_option maxHeartbeats 4000000 in
set_option maxRecDepth 100000 in
theorem kX3_removeLatest (l : Launch) (D : va_G) (cI cJ cZ : ClassId) (n0 n1 n2 n3 n4 n5 n6 : Nat) (N_postCount : Int32) (N_roadCount_0 : Int32) (N_first : Nat → Int32) (N_second : Nat → Int32) (N_number : Nat → Int32) (N_allowed : Nat → Int32) (N_at_0 : Nat → Int32) (N_beside_0 : Nat → Int32)  (out : Int32 × Int32 × (Nat → Int32) × (Nat → Int32)) (hf : FX3_removeLatest N_roadCount_0 N_first N_second N_at_0 N_beside_0 = some out) : MI l yX3_removeLatest (Cond.code yX3_removeLatest cX3_removeLatest 3 (some .int) :: GW) { frames := 1, cells := 0, slots := 0, locals := 20 } D cI cJ cZ [.ref n0] (wN cI cJ cZ n0 n1 n2 n3 n4 n5 n6 N_postCount N_roadCount_0 N_first N_second N_number N_allowed N_at_0 N_beside_0) (fun r (_ : Unit) => r = out.1) (fun _ => (wN cI cJ cZ n0 n1 n2 n3 n4 n5 n6 N_postCount out.2.1 N_first N_second N_number N_allowed out.2.2.1 out.2.2.2)) := by
  intro sz
  refine Met.ofW (cc := cX3_removeLatest) (maxL := 3) (ret := (some .int)) (by decide +kernel) rfl ?_
  intro p e s m args below meth c s₁ B hml hv
  obtain ⟨rfl, hsz, hP, hK, hD0⟩ := hv
  have hx := B.exec
  have hb := B.bytes
  have hr := B.returns
  have hlocks := B.notSynchronized
  have hg : ∀ w ∈ GW, w.before _ s = true := fun w h => atoms_spec (ws := Cond.code yX3_removeLatest cX3_removeLatest 3 (some .int) :: GW) B.pre w (List.mem_cons_of_mem _ h)
  have hown : s.vm.findClass RX3 = some m.cls := findClass_of_methodNamed B.named
  subst hsz
  obtain ⟨A, hAe⟩ : ∃ A, A = va_A (wN cI cJ cZ n0 n1 n2 n3 n4 n5 n6 N_postCount N_roadCount_0 N_first N_second N_number N_allowed N_at_0 N_beside_0) s.heap.size := ⟨_, rfl⟩
  have hA : ∀ q : Nat, s.heap.size ≤ q → A q := fun q h => by rw [hAe]; exact Or.inr h
  have hI : WI D A s.heap (wN cI cJ cZ n0 n1 n2 n3 n4 n5 n6 N_postCount N_roadCount_0 N_first N_second N_number N_allowed N_at_0 N_beside_0) s.heap [] := ⟨hP, by rw [hAe]; exact hD0.self, va_S.rf⟩
  have hl := lv_entry [.ref n0] (n := 3) (Nat.le_of_ble_eq_true rfl)
  rw [lg_entry_eq]
  generalize (lg_sl [.ref n0] ++ List.replicate (3 - (lg_sl [.ref n0]).length) Slot.unset).toArray = ls at hl ⊢
  replace hl : lv_has ls 3 [(0, .ref n0)] := hl
  have L53 : ∀ (N_roadCount : Int32) (N_at : Nat → Int32) (l1 : Int32), ∀ (v : (Nat → Int32) × Int32) (x : Int32 × Int32 × (Nat → Int32) × (Nat → Int32)), loopO (X3_removeLatest_L53 N_roadCount N_at l1) v = some x → (fun z : Int32 × Int32 × (Nat → Int32) × (Nat → Int32) => z = out) x → (fun (v : (Nat → Int32) × Int32) => ∀ (H : Heap) (locs : List Loc) (ls : Array Slot), WI D A s.heap (wN cI cJ cZ n0 n1 n2 n3 n4 n5 n6 N_postCount N_roadCount N_first N_second N_number N_allowed N_at v.1) H locs → lv_has ls 3 [(0, .ref n0), (1, .int l1), (2, .int v.2)] → GX3_removeLatest p l e s m below meth c D cI cJ cZ n0 n1 n2 n3 n4 n5 n6 N_postCount N_roadCount_0 N_first N_second N_number N_allowed N_at_0 N_beside_0  out H locs (F0 m 53 ls [])) v := by
    intro N_roadCount N_at l1
    refine loopO_ind (fun (v : (Nat → Int32) × Int32) => ∀ (H : Heap) (locs : List Loc) (ls : Array Slot), WI D A s.heap (wN cI cJ cZ n0 n1 n2 n3 n4 n5 n6 N_postCount N_roadCount N_first N_second N_number N_allowed N_at v.1) H locs → lv_has ls 3 [(0, .ref n0), (1, .int l1), (2, .int v.2)] → GX3_removeLatest p l e s m below meth c D cI cJ cZ n0 n1 n2 n3 n4 n5 n6 N_postCount N_roadCount_0 N_first N_second N_number N_allowed N_at_0 N_beside_0  out H locs (F0 m 53 ls [])) (fun z : Int32 × Int32 × (Nat → Int32) × (Nat → Int32) => z = out) ?_
    intro v x hf hM H locs ls hI hl
    refine lv_iload_n hx hb dX3_removeLatest_53 rfl (lv_at hl 2 rfl) ?_
    refine lv_aload_n hx hb dX3_removeLatest_54 rfl (lv_at hl 0 rfl) ?_
    refine w_get hx hb hg hown hK hI iX3 0 rfl rfl 1 (by decide) wF_RX3_34 rfl dX3_removeLatest_55 ?_
    refine lv_icmp_ge (tgt := 77) hx hb dX3_removeLatest_58 (by decide) (fun hc => ?_) (fun hc => ?_)
    · replace hf := ite_t hc hf
      refine lv_aload_n hx hb dX3_removeLatest_77 rfl (lv_at hl 0 rfl) ?_
      refine w_get hx hb hg hown hK hI iX3 0 rfl rfl 1 (by decide) wF_RX3_34 rfl dX3_removeLatest_78 ?_
      replace hf := Option.some.inj hf
      subst hf
      replace hM : (N_roadCount, N_roadCount, N_at, v.1) = out := hM
      subst hM
      exact rt_i (u := ()) hx hb hr hlocks rfl hI hAe rfl dX3_removeLatest_81
    · replace hf := ite_f hc hf
      refine lv_aload_n hx hb dX3_removeLatest_61 rfl (lv_at hl 0 rfl) ?_
      refine w_get hx hb hg hown hK hI iX3 0 rfl rfl 7 (by decide) wF_RX3_27 rfl dX3_removeLatest_62 ?_
      refine lv_iload_n hx hb dX3_removeLatest_65 rfl (lv_at hl 2 rfl) ?_
      refine lv_dup2_11 hx hb dX3_removeLatest_66 rfl rfl ?_
      obtain ⟨hin, hf⟩ := rd_e hf
      refine w_iald hx hb hK hI 6 rfl hin dX3_removeLatest_67 (fun x9 ex9 => ?_)
      replace hf := hf x9 ex9
      refine lv_iload_n hx hb dX3_removeLatest_68 rfl (lv_at hl 1 rfl) ?_
      refine lv_iand hx hb dX3_removeLatest_69 ?_
      obtain ⟨hin, hf⟩ := wr_e hf
      obtain ⟨g10, eg10⟩ : ∃ g : Nat → Int32, g = upd v.1 (v.2).toNatClampNeg (x9 &&& l1) := ⟨_, rfl⟩
      replace hf := hf g10 eg10
      refine w_iast (g := g10) (W1 := (wN cI cJ cZ n0 n1 n2 n3 n4 n5 n6 N_postCount N_roadCount N_first N_second N_number N_allowed N_at g10)) hx hb hK hI 6 rfl hin eg10 dX3_removeLatest_70 rfl (fun H locs hI => ?_)
      obtain ⟨x11, ex11⟩ : ∃ y : Int32, y = (v.2 + (1 : Int32)) := ⟨_, rfl⟩
      replace hf := bnd_e hf x11 ex11
      refine lv_iinc (v := x11) (lv' := [(2, .int x11), (0, .ref n0), (1, .int l1)]) hx hb dX3_removeLatest_71 hl (k := 2) rfl (by rw [ex11]; rfl) (by decide) rfl (fun ls hl => ?_)
      refine lv_goto (tgt := 53) hx hb dX3_removeLatest_74 (by decide) ?_
      replace hf := Option.some.inj hf
      subst hf
      exact hM _ _ _ hI (lv_sub hl [1, 2, 0] rfl)
  obtain ⟨x, hf, hM⟩ : ∃ x, FX3_removeLatest N_roadCount_0 N_first N_second N_at_0 N_beside_0 = some x ∧ x = out := ⟨out, hf, rfl⟩
  refine lv_aload_n hx hb dX3_removeLatest_0 rfl (lv_at hl 0 rfl) ?_
  refine lv_dup hx hb dX3_removeLatest_1 rfl ?_
  refine w_get hx hb hg hown hK hI iX3 0 rfl rfl 1 (by decide) wF_RX3_34 rfl dX3_removeLatest_2 ?_
  refine lv_iconst (v := 1) hx hb dX3_removeLatest_5 (by decide) ?_
  refine lv_isub hx hb dX3_removeLatest_6 ?_
  refine lv_topi (fun x1 ex1 => ?_)
  replace hf := bnd_e hf x1 ex1
  refine w_put (W1 := (wN cI cJ cZ n0 n1 n2 n3 n4 n5 n6 N_postCount x1 N_first N_second N_number N_allowed N_at_0 N_beside_0)) hx hb hg hown hK hI iX3 tyX3 tyX3_ok nmX3 0 rfl rfl 1 (by decide) wF_RX3_34 rfl (tyX3_ok 1 (by decide)) rfl rfl (Nat.le_of_ble_eq_true rfl) dX3_removeLatest_7 rfl (fun H locs hI => ?_)
  refine lv_aload_n hx hb dX3_removeLatest_10 rfl (lv_at hl 0 rfl) ?_
  obtain ⟨o2, ho2, hf⟩ := bd_e hf
  refine w_Vi0 (wc := (wN cI cJ cZ n0 n1 n2 n3 n4 n5 n6 N_postCount x1 N_first N_second N_number N_allowed N_at_0 N_beside_0)) (wr := []) (rest := []) hx hb hml hg hown hK hA hI (kX3_allRoads l D cI cJ cZ n0 n1 n2 n3 n4 n5 n6 N_postCount x1 N_first N_second N_number N_allowed N_at_0 N_beside_0  o2 ho2) kvX3_allRoads wL_RX3_42 ⟨Nat.le_of_ble_eq_true rfl, Nat.le_of_ble_eq_true rfl⟩ rfl rfl [0, 1, 2, 3, 4, 5, 6] [] rfl rfl rfl rfl (by decide) rfl rfl hl.1 (Nat.le_of_ble_eq_true rfl) dX3_removeLatest_11 ⟨Nat.zero_le _, Nat.zero_le _⟩ ⟨rfl, rfl⟩ (fun r u H locs hp hI => ?_)
  replace hp : r = o2 := hp
  rw [hp]
  clear hp
  replace hI : WI D A s.heap (wN cI cJ cZ n0 n1 n2 n3 n4 n5 n6 N_postCount x1 N_first N_second N_number N_allowed N_at_0 N_beside_0) H locs := hI
  refine lv_istore_n (lv' := [(1, .int o2), (0, .ref n0)]) hx hb dX3_removeLatest_14 rfl hl (by decide) rfl (fun ls hl => ?_)
  refine lv_aload_n hx hb dX3_removeLatest_15 rfl (lv_at hl 1 rfl) ?_
  refine w_get hx hb hg hown hK hI iX3 0 rfl rfl 6 (by decide) wF_RX3_24 rfl dX3_removeLatest_16 ?_
  refine lv_aload_n hx hb dX3_removeLatest_19 rfl (lv_at hl 1 rfl) ?_
  refine w_get hx hb hg hown hK hI iX3 0 rfl rfl 2 (by decide) wF_RX3_9 rfl dX3_removeLatest_20 ?_
  refine lv_aload_n hx hb dX3_removeLatest_23 rfl (lv_at hl 1 rfl) ?_
  refine w_get hx hb hg hown hK hI iX3 0 rfl rfl 1 (by decide) wF_RX3_34 rfl dX3_removeLatest_24 ?_
  obtain ⟨hin, hf⟩ := rd_e hf
  refine w_iald hx hb hK hI 1 rfl hin dX3_removeLatest_27 (fun x3 ex3 => ?_)
  replace hf := hf x3 ex3
  refine lv_dup2_11 hx hb dX3_removeLatest_28 rfl rfl ?_
  obtain ⟨hin, hf⟩ := rd_e hf
  refine w_iald hx hb hK hI 5 rfl hin dX3_removeLatest_29 (fun x4 ex4 => ?_)
  replace hf := hf x4 ex4
  refine lv_iload_n hx hb dX3_removeLatest_30 rfl (lv_at hl 0 rfl) ?_
  refine lv_iand hx hb dX3_removeLatest_31 ?_
  obtain ⟨hin, hf⟩ := wr_e hf
  obtain ⟨g5, eg5⟩ : ∃ g : Nat → Int32, g = upd N_at_0 (x3).toNatClampNeg (x4 &&& o2) := ⟨_, rfl⟩
  replace hf := hf g5 eg5
  refine w_iast (g := g5) (W1 := (wN cI cJ cZ n0 n1 n2 n3 n4 n5 n6 N_postCount x1 N_first N_second N_number N_allowed g5 N_beside_0)) hx hb hK hI 5 rfl hin eg5 dX3_removeLatest_32 rfl (fun H locs hI => ?_)
  refine lv_aload_n hx hb dX3_removeLatest_33 rfl (lv_at hl 1 rfl) ?_
  refine w_get hx hb hg hown hK hI iX3 0 rfl rfl 6 (by decide) wF_RX3_24 rfl dX3_removeLatest_34 ?_
  refine lv_aload_n hx hb dX3_removeLatest_37 rfl (lv_at hl 1 rfl) ?_
  refine w_get hx hb hg hown hK hI iX3 0 rfl rfl 3 (by decide) wF_RX3_15 rfl dX3_removeLatest_38 ?_
  refine lv_aload_n hx hb dX3_removeLatest_41 rfl (lv_at hl 1 rfl) ?_
  refine w_get hx hb hg hown hK hI iX3 0 rfl rfl 1 (by decide) wF_RX3_34 rfl dX3_removeLatest_42 ?_
  obtain ⟨hin, hf⟩ := rd_e hf
  refine w_iald hx hb hK hI 2 rfl hin dX3_removeLatest_45 (fun x6 ex6 => ?_)
  replace hf := hf x6 ex6
  refine lv_dup2_11 hx hb dX3_removeLatest_46 rfl rfl ?_
  obtain ⟨hin, hf⟩ := rd_e hf
  refine w_iald hx hb hK hI 5 rfl hin dX3_removeLatest_47 (fun x7 ex7 => ?_)
  replace hf := hf x7 ex7
  refine lv_iload_n hx hb dX3_removeLatest_48 rfl (lv_at hl 0 rfl) ?_
  refine lv_iand hx hb dX3_removeLatest_49 ?_
  obtain ⟨hin, hf⟩ := wr_e hf
  obtain ⟨g8, eg8⟩ : ∃ g : Nat → Int32, g = upd g5 (x6).toNatClampNeg (x7 &&& o2) := ⟨_, rfl⟩
  replace hf := hf g8 eg8
  refine w_iast (g := g8) (W1 := (wN cI cJ cZ n0 n1 n2 n3 n4 n5 n6 N_postCount x1 N_first N_second N_number N_allowed g8 N_beside_0)) hx hb hK hI 5 rfl hin eg8 dX3_removeLatest_50 rfl (fun H locs hI => ?_)
  refine lv_iconst (v := 0) hx hb dX3_removeLatest_51 (by decide) ?_
  refine lv_istore_n (lv' := [(2, .int (0 : Int32)), (1, .int o2), (0, .ref n0)]) hx hb dX3_removeLatest_52 rfl hl (by decide) rfl (fun ls hl => ?_)
  exact L53 x1 g8 o2 (N_beside_0, (0 : Int32)) _ hf hM _ _ _ hI (lv_sub hl [2, 1, 0] rfl)
noncomputable def X3_numberedRoads_L4 (N_roadCount : Int32) (N_number : Nat → Int32) (v : Int32 × Int32) : Option ((Int32 × Int32) ⊕ (Int32)) :=
  if N_roadCount ≤ v.2 then (some (.inr v.1)) else (rd N_number 24 v.2 (fun x1 => if x1 = (-1 : Int32) then (bnd (v.2 + (1 : Int32)) (fun x2 => some (.inl (v.1, x2)))) else (bnd (v.1 + (1 : Int32)) (fun x3 => bnd (v.2 + (1 : Int32)) (fun x4 => some (.inl (x3, x4)))))))
noncomputable def FX3_numberedRoads (N_roadCount : Int32) (N_number : Nat → Int32)  : Option (Int32) :=
  loopO (X3_numberedRoads_L4 N_roadCount N_number) ((0 : Int32), (0 : Int32))
abbrev GX3_numberedRoads (p : Program) (l : Launch) (e : Env) (s : State) (m : MethodId) (below : List Frame) (meth : Method) (c : Code) (D : va_G) (cI cJ cZ : ClassId) (n0 n1 n2 n3 n4 n5 n6 : Nat) (N_postCount : Int32) (N_roadCount : Int32) (N_first : Nat → Int32) (N_second : Nat → Int32) (N_number : Nat → Int32) (N_allowed : Nat → Int32) (N_at : Nat → Int32) (N_beside : Nat → Int32)  (out : Int32) (H : Heap) (locs : List Loc) (g : JFrame) : Prop := W p l e (headSpec (Cond.code yX3_numberedRoads cX3_numberedRoads 3 (some .int) :: GW) { frames := 0, cells := 0, slots := 0, locals := 0 }).room s m ([.ref n0] : List Value).toArray below meth c H locs 0 0 (MQ below (va_Qi (fun r (_ : Unit) => r = out) (BW D (wN cI cJ cZ n0 n1 n2 n3 n4 n5 n6 N_postCount N_roadCount N_first N_second N_number N_allowed N_at N_beside) s.heap.size (fun _ => (wN cI cJ cZ n0 n1 n2 n3 n4 n5 n6 N_postCount N_roadCount N_first N_second N_number N_allowed N_at N_beside))) (va_A (wN cI cJ cZ n0 n1 n2 n3 n4 n5 n6 N_postCount N_roadCount N_first N_second N_number N_allowed N_at N_beside) s.heap.size)) ([.ref n0] : List Value).toArray s 0 0 (va_A (wN cI cJ cZ n0 n1 n2 n3 n4 n5 n6 N_postCount N_roadCount N_first N_second N_number N_allowed N_at N_beside) s.heap.size)) g
theorem kvX3_numberedRoads : CalV RX3 yX3_numberedRoads cX3_numberedRoads 3 (some .int) 0 := ⟨wC_yX3_numberedRoads, wM_yX3_numberedRoads, wS_yX3_numberedRoads, wI_RX3, by decide +kernel⟩
set_option maxHeartbeats 4000000 in
set_option maxRecDepth 100000 in
theorem kX3_numberedRoads (l : Launch) (D : va_G) (cI cJ cZ : ClassId) (n0 n1 n2 n3 n4 n5 n6 : Nat) (N_postCount : Int32) (N_roadCount : Int32) (N_first : Nat → Int32) (N_second : Nat → Int32) (N_number : Nat → Int32) (N_allowed : Nat → Int32) (N_at : Nat → Int32) (N_beside : Nat → Int32)  (out : Int32) (hf : FX3_numberedRoads N_roadCount N_number = some out) : MI l yX3_numberedRoads (Cond.code yX3_numberedRoads cX3_numberedRoads 3 (some .int) :: GW) { frames := 0, cells := 0, slots := 0, locals := 0 } D cI cJ cZ [.ref n0] (wN cI cJ cZ n0 n1 n2 n3 n4 n5 n6 N_postCount N_roadCount N_first N_second N_number N_allowed N_at N_beside) (fun r (_ : Unit) => r = out) (fun _ => (wN cI cJ cZ n0 n1 n2 n3 n4 n5 n6 N_postCount N_roadCount N_first N_second N_number N_allowed N_at N_beside)) := by
  intro sz
  refine Met.ofW (cc := cX3_numberedRoads) (maxL := 3) (ret := (some .int)) (by decide +kernel) rfl ?_
  intro p e s m args below meth c s₁ B hml hv
  obtain ⟨rfl, hsz, hP, hK, hD0⟩ := hv
  have hx := B.exec
  have hb := B.bytes
  have hr := B.returns
  have hlocks := B.notSynchronized
  have hg : ∀ w ∈ GW, w.before _ s = true := fun w h => atoms_spec (ws := Cond.code yX3_numberedRoads cX3_numberedRoads 3 (some .int) :: GW) B.pre w (List.mem_cons_of_mem _ h)
  have hown : s.vm.findClass RX3 = some m.cls := findClass_of_methodNamed B.named
  subst hsz
  obtain ⟨A, hAe⟩ : ∃ A, A = va_A (wN cI cJ cZ n0 n1 n2 n3 n4 n5 n6 N_postCount N_roadCount N_first N_second N_number N_allowed N_at N_beside) s.heap.size := ⟨_, rfl⟩
  have hA : ∀ q : Nat, s.heap.size ≤ q → A q := fun q h => by rw [hAe]; exact Or.inr h
  have hI : WI D A s.heap (wN cI cJ cZ n0 n1 n2 n3 n4 n5 n6 N_postCount N_roadCount N_first N_second N_number N_allowed N_at N_beside) s.heap [] := ⟨hP, by rw [hAe]; exact hD0.self, va_S.rf⟩
  have hl := lv_entry [.ref n0] (n := 3) (Nat.le_of_ble_eq_true rfl)
  rw [lg_entry_eq]
  generalize (lg_sl [.ref n0] ++ List.replicate (3 - (lg_sl [.ref n0]).length) Slot.unset).toArray = ls at hl ⊢
  replace hl : lv_has ls 3 [(0, .ref n0)] := hl
  have L4 : ∀ (v : Int32 × Int32) (x : Int32), loopO (X3_numberedRoads_L4 N_roadCount N_number) v = some x → (fun z : Int32 => z = out) x → (fun (v : Int32 × Int32) => ∀ (H : Heap) (locs : List Loc) (ls : Array Slot), WI D A s.heap (wN cI cJ cZ n0 n1 n2 n3 n4 n5 n6 N_postCount N_roadCount N_first N_second N_number N_allowed N_at N_beside) H locs → lv_has ls 3 [(0, .ref n0), (1, .int v.1), (2, .int v.2)] → GX3_numberedRoads p l e s m below meth c D cI cJ cZ n0 n1 n2 n3 n4 n5 n6 N_postCount N_roadCount N_first N_second N_number N_allowed N_at N_beside  out H locs (F0 m 4 ls [])) v := by
    refine loopO_ind (fun (v : Int32 × Int32) => ∀ (H : Heap) (locs : List Loc) (ls : Array Slot), WI D A s.heap (wN cI cJ cZ n0 n1 n2 n3 n4 n5 n6 N_postCount N_roadCount N_first N_second N_number N_allowed N_at N_beside) H locs → lv_has ls 3 [(0, .ref n0), (1, .int v.1), (2, .int v.2)] → GX3_numberedRoads p l e s m below meth c D cI cJ cZ n0 n1 n2 n3 n4 n5 n6 N_postCount N_roadCount N_first N_second N_number N_allowed N_at N_beside  out H locs (F0 m 4 ls [])) (fun z : Int32 => z = out) ?_
    intro v x hf hM H locs ls hI hl
    refine lv_iload_n hx hb dX3_numberedRoads_4 rfl (lv_at hl 2 rfl) ?_
    refine lv_aload_n hx hb dX3_numberedRoads_5 rfl (lv_at hl 0 rfl) ?_
    refine w_get hx hb hg hown hK hI iX3 0 rfl rfl 1 (by decide) wF_RX3_34 rfl dX3_numberedRoads_6 ?_
    refine lv_icmp_ge (tgt := 31) hx hb dX3_numberedRoads_9 (by decide) (fun hc => ?_) (fun hc => ?_)
    · replace hf := ite_t hc hf
      refine lv_iload_n hx hb dX3_numberedRoads_31 rfl (lv_at hl 1 rfl) ?_
      replace hf := Option.some.inj hf
      subst hf
      replace hM : v.1 = out := hM
      subst hM
      exact rt_i (u := ()) hx hb hr hlocks rfl hI hAe rfl dX3_numberedRoads_32
    · replace hf := ite_f hc hf
      refine lv_aload_n hx hb dX3_numberedRoads_12 rfl (lv_at hl 0 rfl) ?_
      refine w_get hx hb hg hown hK hI iX3 0 rfl rfl 4 (by decide) wF_RX3_18 rfl dX3_numberedRoads_13 ?_
      refine lv_iload_n hx hb dX3_numberedRoads_16 rfl (lv_at hl 2 rfl) ?_
      obtain ⟨hin, hf⟩ := rd_e hf
      refine w_iald hx hb hK hI 3 rfl hin dX3_numberedRoads_17 (fun x1 ex1 => ?_)
      replace hf := hf x1 ex1
      refine lv_iconst (v := -1) hx hb dX3_numberedRoads_18 (by decide) ?_
      refine lv_icmp_eq (tgt := 25) hx hb dX3_numberedRoads_19 (by decide) (fun hc => ?_) (fun hc => ?_)
      · replace hf := ite_t hc hf
        obtain ⟨x2, ex2⟩ : ∃ y : Int32, y = (v.2 + (1 : Int32)) := ⟨_, rfl⟩
        replace hf := bnd_e hf x2 ex2
        refine lv_iinc (v := x2) (lv' := [(2, .int x2), (0, .ref n0), (1, .int v.1)]) hx hb dX3_numberedRoads_25 hl (k := 2) rfl (by rw [ex2]; rfl) (by decide) rfl (fun ls hl => ?_)
        refine lv_goto (tgt := 4) hx hb dX3_numberedRoads_28 (by decide) ?_
        replace hf := Option.some.inj hf
        subst hf
        exact hM _ _ _ hI (lv_sub hl [1, 2, 0] rfl)
      · replace hf := ite_f hc hf
        obtain ⟨x3, ex3⟩ : ∃ y : Int32, y = (v.1 + (1 : Int32)) := ⟨_, rfl⟩
        replace hf := bnd_e hf x3 ex3
        refine lv_iinc (v := x3) (lv' := [(1, .int x3), (0, .ref n0), (2, .int v.2)]) hx hb dX3_numberedRoads_22 hl (k := 1) rfl (by rw [ex3]; rfl) (by decide) rfl (fun ls hl => ?_)
        obtain ⟨x4, ex4⟩ : ∃ y : Int32, y = (v.2 + (1 : Int32)) := ⟨_, rfl⟩
        replace hf := bnd_e hf x4 ex4
        refine lv_iinc (v := x4) (lv' := [(2, .int x4), (1, .int x3), (0, .ref n0)]) hx hb dX3_numberedRoads_25 hl (k := 2) rfl (by rw [ex4]; rfl) (by decide) rfl (fun ls hl => ?_)
        refine lv_goto (tgt := 4) hx hb dX3_numberedRoads_28 (by decide) ?_
        replace hf := Option.some.inj hf
        subst hf
        exact hM _ _ _ hI (lv_sub hl [2, 1, 0] rfl)
  obtain ⟨x, hf, hM⟩ : ∃ x, FX3_numberedRoads N_roadCount N_number = some x ∧ x = out := ⟨out, hf, rfl⟩
  refine lv_iconst (v := 0) hx hb dX3_numberedRoads_0 (by decide) ?_
  refine lv_istore_n (lv' := [(1, .int (0 : Int32)), (0, .ref n0)]) hx hb dX3_numberedRoads_1 rfl hl (by decide) rfl (fun ls hl => ?_)
  refine lv_iconst (v := 0) hx hb dX3_numberedRoads_2 (by decide) ?_
  refine lv_istore_n (lv' := [(2, .int (0 : Int32)), (1, .int (0 : Int32)), (0, .ref n0)]) hx hb dX3_numberedRoads_3 rfl hl (by decide) rfl (fun ls hl => ?_)
  exact L4  ((0 : Int32), (0 : Int32)) _ hf hM _ _ _ hI (lv_sub hl [2, 1, 0] rfl)
noncomputable def X3_greatestNumber_L4 (N_roadCount : Int32) (N_number : Nat → Int32) (v : Int32 × Int32) : Option ((Int32 × Int32) ⊕ (Int32)) :=
  if N_roadCount ≤ v.2 then (some (.inr v.1)) else (rd N_number 24 v.2 (fun x1 => bnd (if v.1 < x1 then x1 else v.1) (fun x2 => bnd (v.2 + (1 : Int32)) (fun x3 => some (.inl (x2, x3))))))
noncomputable def FX3_greatestNumber (N_roadCount : Int32) (N_number : Nat → Int32)  : Option (Int32) :=
  loopO (X3_greatestNumber_L4 N_roadCount N_number) ((-1 : Int32), (0 : Int32))
abbrev GX3_greatestNumber (p : Program) (l : Launch) (e : Env) (s : State) (m : MethodId) (below : List Frame) (meth : Method) (c : Code) (D : va_G) (cI cJ cZ : ClassId) (n0 n1 n2 n3 n4 n5 n6 : Nat) (N_postCount : Int32) (N_roadCount : Int32) (N_first : Nat → Int32) (N_second : Nat → Int32) (N_number : Nat → Int32) (N_allowed : Nat → Int32) (N_at : Nat → Int32) (N_beside : Nat → Int32)  (out : Int32) (H : Heap) (locs : List Loc) (g : JFrame) : Prop := W p l e (headSpec (Cond.code yX3_greatestNumber cX3_greatestNumber 3 (some .int) :: GW) { frames := 1, cells := 0, slots := 0, locals := 40 }).room s m ([.ref n0] : List Value).toArray below meth c H locs 0 0 (MQ below (va_Qi (fun r (_ : Unit) => r = out) (BW D (wN cI cJ cZ n0 n1 n2 n3 n4 n5 n6 N_postCount N_roadCount N_first N_second N_number N_allowed N_at N_beside) s.heap.size (fun _ => (wN cI cJ cZ n0 n1 n2 n3 n4 n5 n6 N_postCount N_roadCount N_first N_second N_number N_allowed N_at N_beside))) (va_A (wN cI cJ cZ n0 n1 n2 n3 n4 n5 n6 N_postCount N_roadCount N_first N_second N_number N_allowed N_at N_beside) s.heap.size)) ([.ref n0] : List Value).toArray s 0 0 (va_A (wN cI cJ cZ n0 n1 n2 n3 n4 n5 n6 N_postCount N_roadCount N_first N_second N_number N_allowed N_at N_beside) s.heap.size)) g
theorem kvX3_greatestNumber : CalV RX3 yX3_greatestNumber cX3_greatestNumber 3 (some .int) 0 := ⟨wC_yX3_greatestNumber, wM_yX3_greatestNumber, wS_yX3_greatestNumber, wI_RX3, by decide +kernel⟩
set_option maxHeartbeats 4000000 in
set_option maxRecDepth 100000 in
theorem kX3_greatestNumber (l : Launch) (D : va_G) (cI cJ cZ : ClassId) (n0 n1 n2 n3 n4 n5 n6 : Nat) (N_postCount : Int32) (N_roadCount : Int32) (N_first : Nat → Int32) (N_second : Nat → Int32) (N_number : Nat → Int32) (N_allowed : Nat → Int32) (N_at : Nat → Int32) (N_beside : Nat → Int32)  (out : Int32) (hf : FX3_greatestNumber N_roadCount N_number = some out) : MI l yX3_greatestNumber (Cond.code yX3_greatestNumber cX3_greatestNumber 3 (some .int) :: GW) { frames := 1, cells := 0, slots := 0, locals := 40 } D cI cJ cZ [.ref n0] (wN cI cJ cZ n0 n1 n2 n3 n4 n5 n6 N_postCount N_roadCount N_first N_second N_number N_allowed N_at N_beside) (fun r (_ : Unit) => r = out) (fun _ => (wN cI cJ cZ n0 n1 n2 n3 n4 n5 n6 N_postCount N_roadCount N_first N_second N_number N_allowed N_at N_beside)) := by
  intro sz
  refine Met.ofW (cc := cX3_greatestNumber) (maxL := 3) (ret := (some .int)) (by decide +kernel) rfl ?_
  intro p e s m args below meth c s₁ B hml hv
  obtain ⟨rfl, hsz, hP, hK, hD0⟩ := hv
  have hx := B.exec
  have hb := B.bytes
  have hr := B.returns
  have hlocks := B.notSynchronized
  have hg : ∀ w ∈ GW, w.before _ s = true := fun w h => atoms_spec (ws := Cond.code yX3_greatestNumber cX3_greatestNumber 3 (some .int) :: GW) B.pre w (List.mem_cons_of_mem _ h)
  have hown : s.vm.findClass RX3 = some m.cls := findClass_of_methodNamed B.named
  subst hsz
  obtain ⟨A, hAe⟩ : ∃ A, A = va_A (wN cI cJ cZ n0 n1 n2 n3 n4 n5 n6 N_postCount N_roadCount N_first N_second N_number N_allowed N_at N_beside) s.heap.size := ⟨_, rfl⟩
  have hA : ∀ q : Nat, s.heap.size ≤ q → A q := fun q h => by rw [hAe]; exact Or.inr h
  have hI : WI D A s.heap (wN cI cJ cZ n0 n1 n2 n3 n4 n5 n6 N_postCount N_roadCount N_first N_second N_number N_allowed N_at N_beside) s.heap [] := ⟨hP, by rw [hAe]; exact hD0.self, va_S.rf⟩
  have hl := lv_entry [.ref n0] (n := 3) (Nat.le_of_ble_eq_true rfl)
  rw [lg_entry_eq]
  generalize (lg_sl [.ref n0] ++ List.replicate (3 - (lg_sl [.ref n0]).length) Slot.unset).toArray = ls at hl ⊢
  replace hl : lv_has ls 3 [(0, .ref n0)] := hl
  have L4 : ∀ (v : Int32 × Int32) (x : Int32), loopO (X3_greatestNumber_L4 N_roadCount N_number) v = some x → (fun z : Int32 => z = out) x → (fun (v : Int32 × Int32) => ∀ (H : Heap) (locs : List Loc) (ls : Array Slot), WI D A s.heap (wN cI cJ cZ n0 n1 n2 n3 n4 n5 n6 N_postCount N_roadCount N_first N_second N_number N_allowed N_at N_beside) H locs → lv_has ls 3 [(0, .ref n0), (1, .int v.1), (2, .int v.2)] → GX3_greatestNumber p l e s m below meth c D cI cJ cZ n0 n1 n2 n3 n4 n5 n6 N_postCount N_roadCount N_first N_second N_number N_allowed N_at N_beside  out H locs (F0 m 4 ls [])) v := by
    refine loopO_ind (fun (v : Int32 × Int32) => ∀ (H : Heap) (locs : List Loc) (ls : Array Slot), WI D A s.heap (wN cI cJ cZ n0 n1 n2 n3 n4 n5 n6 N_postCount N_roadCount N_first N_second N_number N_allowed N_at N_beside) H locs → lv_has ls 3 [(0, .ref n0), (1, .int v.1), (2, .int v.2)] → GX3_greatestNumber p l e s m below meth c D cI cJ cZ n0 n1 n2 n3 n4 n5 n6 N_postCount N_roadCount N_first N_second N_number N_allowed N_at N_beside  out H locs (F0 m 4 ls [])) (fun z : Int32 => z = out) ?_
    intro v x hf hM H locs ls hI hl
    refine lv_iload_n hx hb dX3_greatestNumber_4 rfl (lv_at hl 2 rfl) ?_
    refine lv_aload_n hx hb dX3_greatestNumber_5 rfl (lv_at hl 0 rfl) ?_
    refine w_get hx hb hg hown hK hI iX3 0 rfl rfl 1 (by decide) wF_RX3_34 rfl dX3_greatestNumber_6 ?_
    refine lv_icmp_ge (tgt := 29) hx hb dX3_greatestNumber_9 (by decide) (fun hc => ?_) (fun hc => ?_)
    · replace hf := ite_t hc hf
      refine lv_iload_n hx hb dX3_greatestNumber_29 rfl (lv_at hl 1 rfl) ?_
      replace hf := Option.some.inj hf
      subst hf
      replace hM : v.1 = out := hM
      subst hM
      exact rt_i (u := ()) hx hb hr hlocks rfl hI hAe rfl dX3_greatestNumber_30
    · replace hf := ite_f hc hf
      refine lv_iload_n hx hb dX3_greatestNumber_12 rfl (lv_at hl 1 rfl) ?_
      refine lv_aload_n hx hb dX3_greatestNumber_13 rfl (lv_at hl 0 rfl) ?_
      refine w_get hx hb hg hown hK hI iX3 0 rfl rfl 4 (by decide) wF_RX3_18 rfl dX3_greatestNumber_14 ?_
      refine lv_iload_n hx hb dX3_greatestNumber_17 rfl (lv_at hl 2 rfl) ?_
      obtain ⟨hin, hf⟩ := rd_e hf
      refine w_iald hx hb hK hI 3 rfl hin dX3_greatestNumber_18 (fun x1 ex1 => ?_)
      replace hf := hf x1 ex1
      refine va_mmax hx hb (hml.trans hl.1.symm) hown (hg _ wL_RX3_46) (hg _ wT_yJ9_max_7cf53) (hg _ wI_RJ9) (hg _ wC_yJ9_max_7cf53) (Nat.le_of_ble_eq_true rfl) (Nat.le_of_ble_eq_true rfl) (Nat.zero_le _) (Nat.zero_le _) dX3_greatestNumber_19 ?_
      refine lv_topi (fun x2 ex2 => ?_)
      replace hf := bnd_e hf x2 ex2
      refine lv_istore_n (lv' := [(1, .int x2), (0, .ref n0), (2, .int v.2)]) hx hb dX3_greatestNumber_22 rfl hl (by decide) rfl (fun ls hl => ?_)
      obtain ⟨x3, ex3⟩ : ∃ y : Int32, y = (v.2 + (1 : Int32)) := ⟨_, rfl⟩
      replace hf := bnd_e hf x3 ex3
      refine lv_iinc (v := x3) (lv' := [(2, .int x3), (1, .int x2), (0, .ref n0)]) hx hb dX3_greatestNumber_23 hl (k := 2) rfl (by rw [ex3]; rfl) (by decide) rfl (fun ls hl => ?_)
      refine lv_goto (tgt := 4) hx hb dX3_greatestNumber_26 (by decide) ?_
      replace hf := Option.some.inj hf
      subst hf
      exact hM _ _ _ hI (lv_sub hl [2, 1, 0] rfl)
  obtain ⟨x, hf, hM⟩ : ∃ x, FX3_greatestNumber N_roadCount N_number = some x ∧ x = out := ⟨out, hf, rfl⟩
  refine lv_iconst (v := -1) hx hb dX3_greatestNumber_0 (by decide) ?_
  refine lv_istore_n (lv' := [(1, .int (-1 : Int32)), (0, .ref n0)]) hx hb dX3_greatestNumber_1 rfl hl (by decide) rfl (fun ls hl => ?_)
  refine lv_iconst (v := 0) hx hb dX3_greatestNumber_2 (by decide) ?_
  refine lv_istore_n (lv' := [(2, .int (0 : Int32)), (1, .int (-1 : Int32)), (0, .ref n0)]) hx hb dX3_greatestNumber_3 rfl hl (by decide) rfl (fun ls hl => ?_)
  exact L4  ((-1 : Int32), (0 : Int32)) _ hf hM _ _ _ hI (lv_sub hl [2, 1, 0] rfl)
noncomputable def X3_forgetNumbers_L2 (N_roadCount : Int32) (v : (Nat → Int32) × Int32) : Option (((Nat → Int32) × Int32) ⊕ ((Nat → Int32))) :=
  if N_roadCount ≤ v.2 then (some (.inr v.1)) else (wr v.1 24 v.2 (-1 : Int32) (fun g1 => bnd (v.2 + (1 : Int32)) (fun x2 => some (.inl (g1, x2)))))
noncomputable def FX3_forgetNumbers (N_roadCount : Int32) (N_number_0 : Nat → Int32)  : Option ((Nat → Int32)) :=
  loopO (X3_forgetNumbers_L2 N_roadCount) (N_number_0, (0 : Int32))
abbrev GX3_forgetNumbers (p : Program) (l : Launch) (e : Env) (s : State) (m : MethodId) (below : List Frame) (meth : Method) (c : Code) (D : va_G) (cI cJ cZ : ClassId) (n0 n1 n2 n3 n4 n5 n6 : Nat) (N_postCount : Int32) (N_roadCount : Int32) (N_first : Nat → Int32) (N_second : Nat → Int32) (N_number_0 : Nat → Int32) (N_allowed : Nat → Int32) (N_at : Nat → Int32) (N_beside : Nat → Int32)  (out : (Nat → Int32)) (H : Heap) (locs : List Loc) (g : JFrame) : Prop := W p l e (headSpec (Cond.code yX3_forgetNumbers cX3_forgetNumbers 2 none :: GW) { frames := 0, cells := 0, slots := 0, locals := 0 }).room s m ([.ref n0] : List Value).toArray below meth c H locs 0 0 (MQ below (va_Qv (fun (_ : Unit) => True) (BW D (wN cI cJ cZ n0 n1 n2 n3 n4 n5 n6 N_postCount N_roadCount N_first N_second N_number_0 N_allowed N_at N_beside) s.heap.size (fun _ => (wN cI cJ cZ n0 n1 n2 n3 n4 n5 n6 N_postCount N_roadCount N_first N_second out N_allowed N_at N_beside))) (va_A (wN cI cJ cZ n0 n1 n2 n3 n4 n5 n6 N_postCount N_roadCount N_first N_second N_number_0 N_allowed N_at N_beside) s.heap.size)) ([.ref n0] : List Value).toArray s 0 0 (va_A (wN cI cJ cZ n0 n1 n2 n3 n4 n5 n6 N_postCount N_roadCount N_first N_second N_number_0 N_allowed N_at N_beside) s.heap.size)) g
theorem kvX3_forgetNumbers : CalV RX3 yX3_forgetNumbers cX3_forgetNumbers 2 none 0 := ⟨wC_yX3_forgetNumbers, wM_yX3_forgetNumbers, wS_yX3_forgetNumbers, wI_RX3, by decide +kernel⟩
set_option maxHeartbeats 4000000 in
set_option maxRecDepth 100000 in
theorem kX3_forgetNumbers (l : Launch) (D : va_G) (cI cJ cZ : ClassId) (n0 n1 n2 n3 n4 n5 n6 : Nat) (N_postCount : Int32) (N_roadCount : Int32) (N_first : Nat → Int32) (N_second : Nat → Int32) (N_number_0 : Nat → Int32) (N_allowed : Nat → Int32) (N_at : Nat → Int32) (N_beside : Nat → Int32)  (out : (Nat → Int32)) (hf : FX3_forgetNumbers N_roadCount N_number_0 = some out) : MV l yX3_forgetNumbers (Cond.code yX3_forgetNumbers cX3_forgetNumbers 2 none :: GW) { frames := 0, cells := 0, slots := 0, locals := 0 } D cI cJ cZ [.ref n0] (wN cI cJ cZ n0 n1 n2 n3 n4 n5 n6 N_postCount N_roadCount N_first N_second N_number_0 N_allowed N_at N_beside) (fun (_ : Unit) => True) (fun _ => (wN cI cJ cZ n0 n1 n2 n3 n4 n5 n6 N_postCount N_roadCount N_first N_second out N_allowed N_at N_beside)) := by
  intro sz
  refine Met.ofW (cc := cX3_forgetNumbers) (maxL := 2) (ret := none) (by decide +kernel) rfl ?_
  intro p e s m args below meth c s₁ B hml hv
  obtain ⟨rfl, hsz, hP, hK, hD0⟩ := hv
  have hx := B.exec
  have hb := B.bytes
  have hr := B.returns
  have hlocks := B.notSynchronized
  have hg : ∀ w ∈ GW, w.before _ s = true := fun w h => atoms_spec (ws := Cond.code yX3_forgetNumbers cX3_forgetNumbers 2 none :: GW) B.pre w (List.mem_cons_of_mem _ h)
  have hown : s.vm.findClass RX3 = some m.cls := findClass_of_methodNamed B.named
  subst hsz
  obtain ⟨A, hAe⟩ : ∃ A, A = va_A (wN cI cJ cZ n0 n1 n2 n3 n4 n5 n6 N_postCount N_roadCount N_first N_second N_number_0 N_allowed N_at N_beside) s.heap.size := ⟨_, rfl⟩
  have hA : ∀ q : Nat, s.heap.size ≤ q → A q := fun q h => by rw [hAe]; exact Or.inr h
  have hI : WI D A s.heap (wN cI cJ cZ n0 n1 n2 n3 n4 n5 n6 N_postCount N_roadCount N_first N_second N_number_0 N_allowed N_at N_beside) s.heap [] := ⟨hP, by rw [hAe]; exact hD0.self, va_S.rf⟩
  have hl := lv_entry [.ref n0] (n := 2) (Nat.le_of_ble_eq_true rfl)
  rw [lg_entry_eq]
  generalize (lg_sl [.ref n0] ++ List.replicate (2 - (lg_sl [.ref n0]).length) Slot.unset).toArray = ls at hl ⊢
  replace hl : lv_has ls 2 [(0, .ref n0)] := hl
  have L2 : ∀ (v : (Nat → Int32) × Int32) (x : (Nat → Int32)), loopO (X3_forgetNumbers_L2 N_roadCount) v = some x → (fun z : (Nat → Int32) => z = out) x → (fun (v : (Nat → Int32) × Int32) => ∀ (H : Heap) (locs : List Loc) (ls : Array Slot), WI D A s.heap (wN cI cJ cZ n0 n1 n2 n3 n4 n5 n6 N_postCount N_roadCount N_first N_second v.1 N_allowed N_at N_beside) H locs → lv_has ls 2 [(0, .ref n0), (1, .int v.2)] → GX3_forgetNumbers p l e s m below meth c D cI cJ cZ n0 n1 n2 n3 n4 n5 n6 N_postCount N_roadCount N_first N_second N_number_0 N_allowed N_at N_beside  out H locs (F0 m 2 ls [])) v := by
    refine loopO_ind (fun (v : (Nat → Int32) × Int32) => ∀ (H : Heap) (locs : List Loc) (ls : Array Slot), WI D A s.heap (wN cI cJ cZ n0 n1 n2 n3 n4 n5 n6 N_postCount N_roadCount N_first N_second v.1 N_allowed N_at N_beside) H locs → lv_has ls 2 [(0, .ref n0), (1, .int v.2)] → GX3_forgetNumbers p l e s m below meth c D cI cJ cZ n0 n1 n2 n3 n4 n5 n6 N_postCount N_roadCount N_first N_second N_number_0 N_allowed N_at N_beside  out H locs (F0 m 2 ls [])) (fun z : (Nat → Int32) => z = out) ?_
    intro v x hf hM H locs ls hI hl
    refine lv_iload_n hx hb dX3_forgetNumbers_2 rfl (lv_at hl 1 rfl) ?_
    refine lv_aload_n hx hb dX3_forgetNumbers_3 rfl (lv_at hl 0 rfl) ?_
    refine w_get hx hb hg hown hK hI iX3 0 rfl rfl 1 (by decide) wF_RX3_34 rfl dX3_forgetNumbers_4 ?_
    refine lv_icmp_ge (tgt := 23) hx hb dX3_forgetNumbers_7 (by decide) (fun hc => ?_) (fun hc => ?_)
    · replace hf := ite_t hc hf
      replace hf := Option.some.inj hf
      subst hf
      replace hM : v.1 = out := hM
      subst hM
      exact rt_v (u := ()) hx hb hr hlocks hI hAe trivial dX3_forgetNumbers_23
    · replace hf := ite_f hc hf
      refine lv_aload_n hx hb dX3_forgetNumbers_10 rfl (lv_at hl 0 rfl) ?_
      refine w_get hx hb hg hown hK hI iX3 0 rfl rfl 4 (by decide) wF_RX3_18 rfl dX3_forgetNumbers_11 ?_
      refine lv_iload_n hx hb dX3_forgetNumbers_14 rfl (lv_at hl 1 rfl) ?_
      refine lv_iconst (v := -1) hx hb dX3_forgetNumbers_15 (by decide) ?_
      obtain ⟨hin, hf⟩ := wr_e hf
      obtain ⟨g1, eg1⟩ : ∃ g : Nat → Int32, g = upd v.1 (v.2).toNatClampNeg (-1 : Int32) := ⟨_, rfl⟩
      replace hf := hf g1 eg1
      refine w_iast (g := g1) (W1 := (wN cI cJ cZ n0 n1 n2 n3 n4 n5 n6 N_postCount N_roadCount N_first N_second g1 N_allowed N_at N_beside)) hx hb hK hI 3 rfl hin eg1 dX3_forgetNumbers_16 rfl (fun H locs hI => ?_)
      obtain ⟨x2, ex2⟩ : ∃ y : Int32, y = (v.2 + (1 : Int32)) := ⟨_, rfl⟩
      replace hf := bnd_e hf x2 ex2
      refine lv_iinc (v := x2) (lv' := [(1, .int x2), (0, .ref n0)]) hx hb dX3_forgetNumbers_17 hl (k := 1) rfl (by rw [ex2]; rfl) (by decide) rfl (fun ls hl => ?_)
      refine lv_goto (tgt := 2) hx hb dX3_forgetNumbers_20 (by decide) ?_
      replace hf := Option.some.inj hf
      subst hf
      exact hM _ _ _ hI (lv_sub hl [1, 0] rfl)
  obtain ⟨x, hf, hM⟩ : ∃ x, FX3_forgetNumbers N_roadCount N_number_0 = some x ∧ x = out := ⟨out, hf, rfl⟩
  refine lv_iconst (v := 0) hx hb dX3_forgetNumbers_0 (by decide) ?_
  refine lv_istore_n (lv' := [(1, .int (0 : Int32)), (0, .ref n0)]) hx hb dX3_forgetNumbers_1 rfl hl (by decide) rfl (fun ls hl => ?_)
  exact L2  (N_number_0, (0 : Int32)) _ hf hM _ _ _ hI (lv_sub hl [1, 0] rfl)
noncomputable def X3_fullest_L4 (N_postCount : Int32) (N_at : Nat → Int32) (v : Int32 × Int32) : Option ((Int32 × Int32) ⊕ (Int32)) :=
  if N_postCount ≤ v.2 then (some (.inr v.1)) else (rd N_at 12 v.2 (fun x1 => (FJ6_bitCount_0f7a4 x1).bind (fun x2 => bnd (if v.1 < x2 then x2 else v.1) (fun x3 => bnd (v.2 + (1 : Int32)) (fun x4 => some (.inl (x3, x4)))))))
noncomputable def FX3_fullest (N_postCount : Int32) (N_at : Nat → Int32)  : Option (Int32) :=
  loopO (X3_fullest_L4 N_postCount N_at) ((0 : Int32), (0 : Int32))
abbrev GX3_fullest (p : Program) (l : Launch) (e : Env) (s : State) (m : MethodId) (below : List Frame) (meth : Method) (c : Code) (D : va_G) (cI cJ cZ : ClassId) (n0 n1 n2 n3 n4 n5 n6 : Nat) (N_postCount : Int32) (N_roadCount : Int32) (N_first : Nat → Int32) (N_second : Nat → Int32) (N_number : Nat → Int32) (N_allowed : Nat → Int32) (N_at : Nat → Int32) (N_beside : Nat → Int32)  (out : Int32) (H : Heap) (locs : List Loc) (g : JFrame) : Prop := W p l e (headSpec (Cond.code yX3_fullest cX3_fullest 3 (some .int) :: GW) { frames := 1, cells := 0, slots := 0, locals := 40 }).room s m ([.ref n0] : List Value).toArray below meth c H locs 0 0 (MQ below (va_Qi (fun r (_ : Unit) => r = out) (BW D (wN cI cJ cZ n0 n1 n2 n3 n4 n5 n6 N_postCount N_roadCount N_first N_second N_number N_allowed N_at N_beside) s.heap.size (fun _ => (wN cI cJ cZ n0 n1 n2 n3 n4 n5 n6 N_postCount N_roadCount N_first N_second N_number N_allowed N_at N_beside))) (va_A (wN cI cJ cZ n0 n1 n2 n3 n4 n5 n6 N_postCount N_roadCount N_first N_second N_number N_allowed N_at N_beside) s.heap.size)) ([.ref n0] : List Value).toArray s 0 0 (va_A (wN cI cJ cZ n0 n1 n2 n3 n4 n5 n6 N_postCount N_roadCount N_first N_second N_number N_allowed N_at N_beside) s.heap.size)) g
theorem kvX3_fullest : CalV RX3 yX3_fullest cX3_fullest 3 (some .int) 0 := ⟨wC_yX3_fullest, wM_yX3_fullest, wS_yX3_fullest, wI_RX3, by decide +kernel⟩
set_option maxHeartbeats 4000000 in
set_option maxRecDepth 100000 in
theorem kX3_fullest (l : Launch) (D : va_G) (cI cJ cZ : ClassId) (n0 n1 n2 n3 n4 n5 n6 : Nat) (N_postCount : Int32) (N_roadCount : Int32) (N_first : Nat → Int32) (N_second : Nat → Int32) (N_number : Nat → Int32) (N_allowed : Nat → Int32) (N_at : Nat → Int32) (N_beside : Nat → Int32)  (out : Int32) (hf : FX3_fullest N_postCount N_at = some out) : MI l yX3_fullest (Cond.code yX3_fullest cX3_fullest 3 (some .int) :: GW) { frames := 1, cells := 0, slots := 0, locals := 40 } D cI cJ cZ [.ref n0] (wN cI cJ cZ n0 n1 n2 n3 n4 n5 n6 N_postCount N_roadCount N_first N_second N_number N_allowed N_at N_beside) (fun r (_ : Unit) => r = out) (fun _ => (wN cI cJ cZ n0 n1 n2 n3 n4 n5 n6 N_postCount N_roadCount N_first N_second N_number N_allowed N_at N_beside)) := by
  intro sz
  refine Met.ofW (cc := cX3_fullest) (maxL := 3) (ret := (some .int)) (by decide +kernel) rfl ?_
  intro p e s m args below meth c s₁ B hml hv
  obtain ⟨rfl, hsz, hP, hK, hD0⟩ := hv
  have hx := B.exec
  have hb := B.bytes
  have hr := B.returns
  have hlocks := B.notSynchronized
  have hg : ∀ w ∈ GW, w.before _ s = true := fun w h => atoms_spec (ws := Cond.code yX3_fullest cX3_fullest 3 (some .int) :: GW) B.pre w (List.mem_cons_of_mem _ h)
  have hown : s.vm.findClass RX3 = some m.cls := findClass_of_methodNamed B.named
  subst hsz
  obtain ⟨A, hAe⟩ : ∃ A, A = va_A (wN cI cJ cZ n0 n1 n2 n3 n4 n5 n6 N_postCount N_roadCount N_first N_second N_number N_allowed N_at N_beside) s.heap.size := ⟨_, rfl⟩
  have hA : ∀ q : Nat, s.heap.size ≤ q → A q := fun q h => by rw [hAe]; exact Or.inr h
  have hI : WI D A s.heap (wN cI cJ cZ n0 n1 n2 n3 n4 n5 n6 N_postCount N_roadCount N_first N_second N_number N_allowed N_at N_beside) s.heap [] := ⟨hP, by rw [hAe]; exact hD0.self, va_S.rf⟩
  have hl := lv_entry [.ref n0] (n := 3) (Nat.le_of_ble_eq_true rfl)
  rw [lg_entry_eq]
  generalize (lg_sl [.ref n0] ++ List.replicate (3 - (lg_sl [.ref n0]).length) Slot.unset).toArray = ls at hl ⊢
  replace hl : lv_has ls 3 [(0, .ref n0)] := hl
  have L4 : ∀ (v : Int32 × Int32) (x : Int32), loopO (X3_fullest_L4 N_postCount N_at) v = some x → (fun z : Int32 => z = out) x → (fun (v : Int32 × Int32) => ∀ (H : Heap) (locs : List Loc) (ls : Array Slot), WI D A s.heap (wN cI cJ cZ n0 n1 n2 n3 n4 n5 n6 N_postCount N_roadCount N_first N_second N_number N_allowed N_at N_beside) H locs → lv_has ls 3 [(0, .ref n0), (1, .int v.1), (2, .int v.2)] → GX3_fullest p l e s m below meth c D cI cJ cZ n0 n1 n2 n3 n4 n5 n6 N_postCount N_roadCount N_first N_second N_number N_allowed N_at N_beside  out H locs (F0 m 4 ls [])) v := by
    refine loopO_ind (fun (v : Int32 × Int32) => ∀ (H : Heap) (locs : List Loc) (ls : Array Slot), WI D A s.heap (wN cI cJ cZ n0 n1 n2 n3 n4 n5 n6 N_postCount N_roadCount N_first N_second N_number N_allowed N_at N_beside) H locs → lv_has ls 3 [(0, .ref n0), (1, .int v.1), (2, .int v.2)] → GX3_fullest p l e s m below meth c D cI cJ cZ n0 n1 n2 n3 n4 n5 n6 N_postCount N_roadCount N_first N_second N_number N_allowed N_at N_beside  out H locs (F0 m 4 ls [])) (fun z : Int32 => z = out) ?_
    intro v x hf hM H locs ls hI hl
    refine lv_iload_n hx hb dX3_fullest_4 rfl (lv_at hl 2 rfl) ?_
    refine lv_aload_n hx hb dX3_fullest_5 rfl (lv_at hl 0 rfl) ?_
    refine w_get hx hb hg hown hK hI iX3 0 rfl rfl 0 (by decide) wF_RX3_30 rfl dX3_fullest_6 ?_
    refine lv_icmp_ge (tgt := 32) hx hb dX3_fullest_9 (by decide) (fun hc => ?_) (fun hc => ?_)
    · replace hf := ite_t hc hf
      refine lv_iload_n hx hb dX3_fullest_32 rfl (lv_at hl 1 rfl) ?_
      replace hf := Option.some.inj hf
      subst hf
      replace hM : v.1 = out := hM
      subst hM
      exact rt_i (u := ()) hx hb hr hlocks rfl hI hAe rfl dX3_fullest_33
    · replace hf := ite_f hc hf
      refine lv_iload_n hx hb dX3_fullest_12 rfl (lv_at hl 1 rfl) ?_
      refine lv_aload_n hx hb dX3_fullest_13 rfl (lv_at hl 0 rfl) ?_
      refine w_get hx hb hg hown hK hI iX3 0 rfl rfl 6 (by decide) wF_RX3_24 rfl dX3_fullest_14 ?_
      refine lv_iload_n hx hb dX3_fullest_17 rfl (lv_at hl 2 rfl) ?_
      obtain ⟨hin, hf⟩ := rd_e hf
      refine w_iald hx hb hK hI 5 rfl hin dX3_fullest_18 (fun x1 ex1 => ?_)
      replace hf := hf x1 ex1
      obtain ⟨x2, hx2, hf⟩ := bd_e hf
      refine w_S (rest := [.int v.1]) hx hb hml hg hown hK (kJ6_bitCount_0f7a4 l D cI cJ cZ x1 x2 hx2) ksJ6_bitCount_0f7a4 wL_RX3_52 ⟨Nat.le_of_ble_eq_true rfl, Nat.le_of_ble_eq_true rfl⟩ ⟨rfl, rfl⟩ rfl rfl hl.1 (Nat.le_of_ble_eq_true rfl) dX3_fullest_19 ⟨Nat.zero_le _, Nat.zero_le _⟩ ?_
      refine va_mmax hx hb (hml.trans hl.1.symm) hown (hg _ wL_RX3_46) (hg _ wT_yJ9_max_7cf53) (hg _ wI_RJ9) (hg _ wC_yJ9_max_7cf53) (Nat.le_of_ble_eq_true rfl) (Nat.le_of_ble_eq_true rfl) (Nat.zero_le _) (Nat.zero_le _) dX3_fullest_22 ?_
      refine lv_topi (fun x3 ex3 => ?_)
      replace hf := bnd_e hf x3 ex3
      refine lv_istore_n (lv' := [(1, .int x3), (0, .ref n0), (2, .int v.2)]) hx hb dX3_fullest_25 rfl hl (by decide) rfl (fun ls hl => ?_)
      obtain ⟨x4, ex4⟩ : ∃ y : Int32, y = (v.2 + (1 : Int32)) := ⟨_, rfl⟩
      replace hf := bnd_e hf x4 ex4
      refine lv_iinc (v := x4) (lv' := [(2, .int x4), (1, .int x3), (0, .ref n0)]) hx hb dX3_fullest_26 hl (k := 2) rfl (by rw [ex4]; rfl) (by decide) rfl (fun ls hl => ?_)
      refine lv_goto (tgt := 4) hx hb dX3_fullest_29 (by decide) ?_
      replace hf := Option.some.inj hf
      subst hf
      exact hM _ _ _ hI (lv_sub hl [2, 1, 0] rfl)
  obtain ⟨x, hf, hM⟩ : ∃ x, FX3_fullest N_postCount N_at = some x ∧ x = out := ⟨out, hf, rfl⟩
  refine lv_iconst (v := 0) hx hb dX3_fullest_0 (by decide) ?_
  refine lv_istore_n (lv' := [(1, .int (0 : Int32)), (0, .ref n0)]) hx hb dX3_fullest_1 rfl hl (by decide) rfl (fun ls hl => ?_)
  refine lv_iconst (v := 0) hx hb dX3_fullest_2 (by decide) ?_
  refine lv_istore_n (lv' := [(2, .int (0 : Int32)), (1, .int (0 : Int32)), (0, .ref n0)]) hx hb dX3_fullest_3 rfl hl (by decide) rfl (fun ls hl => ?_)
  exact L4  ((0 : Int32), (0 : Int32)) _ hf hM _ _ _ hI (lv_sub hl [2, 1, 0] rfl)
noncomputable def X3_isPlain_L2 (N_roadCount : Int32) (N_first : Nat → Int32) (N_second : Nat → Int32) (N_at : Nat → Int32) (v : Int32) : Option ((Int32) ⊕ (Int32)) :=
  if N_roadCount ≤ v then (some (.inr (1 : Int32))) else (rd N_first 24 v (fun x1 => rd N_at 12 x1 (fun x2 => rd N_second 24 v (fun x3 => rd N_at 12 x3 (fun x4 => (FJ6_bitCount_0f7a4 (x2 &&& x4)).bind (fun x5 => if x5 ≤ (1 : Int32) then (bnd (v + (1 : Int32)) (fun x6 => some (.inl x6))) else (some (.inr (0 : Int32)))))))))
noncomputable def FX3_isPlain (N_roadCount : Int32) (N_first : Nat → Int32) (N_second : Nat → Int32) (N_at : Nat → Int32)  : Option (Int32) :=
  loopO (X3_isPlain_L2 N_roadCount N_first N_second N_at) (0 : Int32)
abbrev GX3_isPlain (p : Program) (l : Launch) (e : Env) (s : State) (m : MethodId) (below : List Frame) (meth : Method) (c : Code) (D : va_G) (cI cJ cZ : ClassId) (n0 n1 n2 n3 n4 n5 n6 : Nat) (N_postCount : Int32) (N_roadCount : Int32) (N_first : Nat → Int32) (N_second : Nat → Int32) (N_number : Nat → Int32) (N_allowed : Nat → Int32) (N_at : Nat → Int32) (N_beside : Nat → Int32)  (out : Int32) (H : Heap) (locs : List Loc) (g : JFrame) : Prop := W p l e (headSpec (Cond.code yX3_isPlain cX3_isPlain 2 (some .boolean) :: GW) { frames := 1, cells := 0, slots := 0, locals := 20 }).room s m ([.ref n0] : List Value).toArray below meth c H locs 0 0 (MQ below (va_Qi (fun r (_ : Unit) => r = out) (BW D (wN cI cJ cZ n0 n1 n2 n3 n4 n5 n6 N_postCount N_roadCount N_first N_second N_number N_allowed N_at N_beside) s.heap.size (fun _ => (wN cI cJ cZ n0 n1 n2 n3 n4 n5 n6 N_postCount N_roadCount N_first N_second N_number N_allowed N_at N_beside))) (va_A (wN cI cJ cZ n0 n1 n2 n3 n4 n5 n6 N_postCount N_roadCount N_first N_second N_number N_allowed N_at N_beside) s.heap.size)) ([.ref n0] : List Value).toArray s 0 0 (va_A (wN cI cJ cZ n0 n1 n2 n3 n4 n5 n6 N_postCount N_roadCount N_first N_second N_number N_allowed N_at N_beside) s.heap.size)) g
theorem kvX3_isPlain : CalV RX3 yX3_isPlain cX3_isPlain 2 (some .boolean) 0 := ⟨wC_yX3_isPlain, wM_yX3_isPlain, wS_yX3_isPlain, wI_RX3, by decide +kernel⟩
set_option maxHeartbeats 4000000 in
set_option maxRecDepth 100000 in
theorem kX3_isPlain (l : Launch) (D : va_G) (cI cJ cZ : ClassId) (n0 n1 n2 n3 n4 n5 n6 : Nat) (N_postCount : Int32) (N_roadCount : Int32) (N_first : Nat → Int32) (N_second : Nat → Int32) (N_number : Nat → Int32) (N_allowed : Nat → Int32) (N_at : Nat → Int32) (N_beside : Nat → Int32)  (out : Int32) (hf : FX3_isPlain N_roadCount N_first N_second N_at = some out) : MI l yX3_isPlain (Cond.code yX3_isPlain cX3_isPlain 2 (some .boolean) :: GW) { frames := 1, cells := 0, slots := 0, locals := 20 } D cI cJ cZ [.ref n0] (wN cI cJ cZ n0 n1 n2 n3 n4 n5 n6 N_postCount N_roadCount N_first N_second N_number N_allowed N_at N_beside) (fun r (_ : Unit) => r = out) (fun _ => (wN cI cJ cZ n0 n1 n2 n3 n4 n5 n6 N_postCount N_roadCount N_first N_second N_number N_allowed N_at N_beside)) := by
  intro sz
  refine Met.ofW (cc := cX3_isPlain) (maxL := 2) (ret := (some .boolean)) (by decide +kernel) rfl ?_
  intro p e s m args below meth c s₁ B hml hv
  obtain ⟨rfl, hsz, hP, hK, hD0⟩ := hv
  have hx := B.exec
  have hb := B.bytes
  have hr := B.returns
  have hlocks := B.notSynchronized
  have hg : ∀ w ∈ GW, w.before _ s = true := fun w h => atoms_spec (ws := Cond.code yX3_isPlain cX3_isPlain 2 (some .boolean) :: GW) B.pre w (List.mem_cons_of_mem _ h)
  have hown : s.vm.findClass RX3 = some m.cls := findClass_of_methodNamed B.named
  subst hsz
  obtain ⟨A, hAe⟩ : ∃ A, A = va_A (wN cI cJ cZ n0 n1 n2 n3 n4 n5 n6 N_postCount N_roadCount N_first N_second N_number N_allowed N_at N_beside) s.heap.size := ⟨_, rfl⟩
  have hA : ∀ q : Nat, s.heap.size ≤ q → A q := fun q h => by rw [hAe]; exact Or.inr h
  have hI : WI D A s.heap (wN cI cJ cZ n0 n1 n2 n3 n4 n5 n6 N_postCount N_roadCount N_first N_second N_number N_allowed N_at N_beside) s.heap [] := ⟨hP, by rw [hAe]; exact hD0.self, va_S.rf⟩
  have hl := lv_entry [.ref n0] (n := 2) (Nat.le_of_ble_eq_true rfl)
  rw [lg_entry_eq]
  generalize (lg_sl [.ref n0] ++ List.replicate (2 - (lg_sl [.ref n0]).length) Slot.unset).toArray = ls at hl ⊢
  replace hl : lv_has ls 2 [(0, .ref n0)] := hl
  have L2 : ∀ (v : Int32) (x : Int32), loopO (X3_isPlain_L2 N_roadCount N_first N_second N_at) v = some x → (fun z : Int32 => z = out) x → (fun (v : Int32) => ∀ (H : Heap) (locs : List Loc) (ls : Array Slot), WI D A s.heap (wN cI cJ cZ n0 n1 n2 n3 n4 n5 n6 N_postCount N_roadCount N_first N_second N_number N_allowed N_at N_beside) H locs → lv_has ls 2 [(0, .ref n0), (1, .int v)] → GX3_isPlain p l e s m below meth c D cI cJ cZ n0 n1 n2 n3 n4 n5 n6 N_postCount N_roadCount N_first N_second N_number N_allowed N_at N_beside  out H locs (F0 m 2 ls [])) v := by
    refine loopO_ind (fun (v : Int32) => ∀ (H : Heap) (locs : List Loc) (ls : Array Slot), WI D A s.heap (wN cI cJ cZ n0 n1 n2 n3 n4 n5 n6 N_postCount N_roadCount N_first N_second N_number N_allowed N_at N_beside) H locs → lv_has ls 2 [(0, .ref n0), (1, .int v)] → GX3_isPlain p l e s m below meth c D cI cJ cZ n0 n1 n2 n3 n4 n5 n6 N_postCount N_roadCount N_first N_second N_number N_allowed N_at N_beside  out H locs (F0 m 2 ls [])) (fun z : Int32 => z = out) ?_
    intro v x hf hM H locs ls hI hl
    refine lv_iload_n hx hb dX3_isPlain_2 rfl (lv_at hl 1 rfl) ?_
    refine lv_aload_n hx hb dX3_isPlain_3 rfl (lv_at hl 0 rfl) ?_
    refine w_get hx hb hg hown hK hI iX3 0 rfl rfl 1 (by decide) wF_RX3_34 rfl dX3_isPlain_4 ?_
    refine lv_icmp_ge (tgt := 48) hx hb dX3_isPlain_7 (by decide) (fun hc => ?_) (fun hc => ?_)
    · replace hf := ite_t hc hf
      refine lv_iconst (v := 1) hx hb dX3_isPlain_48 (by decide) ?_
      replace hf := Option.some.inj hf
      subst hf
      replace hM : (1 : Int32) = out := hM
      subst hM
      exact rt_i (u := ()) hx hb hr hlocks (by decide) hI hAe rfl dX3_isPlain_49
    · replace hf := ite_f hc hf
      refine lv_aload_n hx hb dX3_isPlain_10 rfl (lv_at hl 0 rfl) ?_
      refine w_get hx hb hg hown hK hI iX3 0 rfl rfl 6 (by decide) wF_RX3_24 rfl dX3_isPlain_11 ?_
      refine lv_aload_n hx hb dX3_isPlain_14 rfl (lv_at hl 0 rfl) ?_
      refine w_get hx hb hg hown hK hI iX3 0 rfl rfl 2 (by decide) wF_RX3_9 rfl dX3_isPlain_15 ?_
      refine lv_iload_n hx hb dX3_isPlain_18 rfl (lv_at hl 1 rfl) ?_
      obtain ⟨hin, hf⟩ := rd_e hf
      refine w_iald hx hb hK hI 1 rfl hin dX3_isPlain_19 (fun x1 ex1 => ?_)
      replace hf := hf x1 ex1
      obtain ⟨hin, hf⟩ := rd_e hf
      refine w_iald hx hb hK hI 5 rfl hin dX3_isPlain_20 (fun x2 ex2 => ?_)
      replace hf := hf x2 ex2
      refine lv_aload_n hx hb dX3_isPlain_21 rfl (lv_at hl 0 rfl) ?_
      refine w_get hx hb hg hown hK hI iX3 0 rfl rfl 6 (by decide) wF_RX3_24 rfl dX3_isPlain_22 ?_
      refine lv_aload_n hx hb dX3_isPlain_25 rfl (lv_at hl 0 rfl) ?_
      refine w_get hx hb hg hown hK hI iX3 0 rfl rfl 3 (by decide) wF_RX3_15 rfl dX3_isPlain_26 ?_
      refine lv_iload_n hx hb dX3_isPlain_29 rfl (lv_at hl 1 rfl) ?_
      obtain ⟨hin, hf⟩ := rd_e hf
      refine w_iald hx hb hK hI 2 rfl hin dX3_isPlain_30 (fun x3 ex3 => ?_)
      replace hf := hf x3 ex3
      obtain ⟨hin, hf⟩ := rd_e hf
      refine w_iald hx hb hK hI 5 rfl hin dX3_isPlain_31 (fun x4 ex4 => ?_)
      replace hf := hf x4 ex4
      refine lv_iand hx hb dX3_isPlain_32 ?_
      obtain ⟨x5, hx5, hf⟩ := bd_e hf
      refine w_S (rest := []) hx hb hml hg hown hK (kJ6_bitCount_0f7a4 l D cI cJ cZ (x2 &&& x4) x5 hx5) ksJ6_bitCount_0f7a4 wL_RX3_52 ⟨Nat.le_of_ble_eq_true rfl, Nat.le_of_ble_eq_true rfl⟩ ⟨rfl, rfl⟩ rfl rfl hl.1 (Nat.le_of_ble_eq_true rfl) dX3_isPlain_33 ⟨Nat.zero_le _, Nat.zero_le _⟩ ?_
      refine lv_iconst (v := 1) hx hb dX3_isPlain_36 (by decide) ?_
      refine lv_icmp_le (tgt := 42) hx hb dX3_isPlain_37 (by decide) (fun hc => ?_) (fun hc => ?_)
      · replace hf := ite_t hc hf
        obtain ⟨x6, ex6⟩ : ∃ y : Int32, y = (v + (1 : Int32)) := ⟨_, rfl⟩
        replace hf := bnd_e hf x6 ex6
        refine lv_iinc (v := x6) (lv' := [(1, .int x6), (0, .ref n0)]) hx hb dX3_isPlain_42 hl (k := 1) rfl (by rw [ex6]; rfl) (by decide) rfl (fun ls hl => ?_)
        refine lv_goto (tgt := 2) hx hb dX3_isPlain_45 (by decide) ?_
        replace hf := Option.some.inj hf
        subst hf
        exact hM _ _ _ hI (lv_sub hl [1, 0] rfl)
      · replace hf := ite_f hc hf
        refine lv_iconst (v := 0) hx hb dX3_isPlain_40 (by decide) ?_
        replace hf := Option.some.inj hf
        subst hf
        replace hM : (0 : Int32) = out := hM
        subst hM
        exact rt_i (u := ()) hx hb hr hlocks (by decide) hI hAe rfl dX3_isPlain_41
  obtain ⟨x, hf, hM⟩ : ∃ x, FX3_isPlain N_roadCount N_first N_second N_at = some x ∧ x = out := ⟨out, hf, rfl⟩
  refine lv_iconst (v := 0) hx hb dX3_isPlain_0 (by decide) ?_
  refine lv_istore_n (lv' := [(1, .int (0 : Int32)), (0, .ref n0)]) hx hb dX3_isPlain_1 rfl hl (by decide) rfl (fun ls hl => ?_)
  exact L2  (0 : Int32) _ hf hM _ _ _ hI (lv_sub hl [1, 0] rfl)
noncomputable def X3_leastClashing_L2 (N_roadCount : Int32) (N_number : Nat → Int32) (N_beside : Nat → Int32) (v : Int32) : Option ((Int32) ⊕ (Int32)) :=
  if N_roadCount ≤ v then (some (.inr (-1 : Int32))) else (rd N_number 24 v (fun x1 => if x1 = (-1 : Int32) then (bnd (v + (1 : Int32)) (fun x2 => some (.inl x2))) else (rd N_beside 24 v (fun x3 => rd N_number 24 v (fun x4 => (FX3_roadsNumbered N_roadCount N_number x4).bind (fun o5 => if (x3 &&& o5) = (0 : Int32) then (bnd (v + (1 : Int32)) (fun x6 => some (.inl x6))) else (some (.inr v))))))))
noncomputable def FX3_leastClashing (N_roadCount : Int32) (N_number : Nat → Int32) (N_beside : Nat → Int32)  : Option (Int32) :=
  loopO (X3_leastClashing_L2 N_roadCount N_number N_beside) (0 : Int32)
abbrev GX3_leastClashing (p : Program) (l : Launch) (e : Env) (s : State) (m : MethodId) (below : List Frame) (meth : Method) (c : Code) (D : va_G) (cI cJ cZ : ClassId) (n0 n1 n2 n3 n4 n5 n6 : Nat) (N_postCount : Int32) (N_roadCount : Int32) (N_first : Nat → Int32) (N_second : Nat → Int32) (N_number : Nat → Int32) (N_allowed : Nat → Int32) (N_at : Nat → Int32) (N_beside : Nat → Int32)  (out : Int32) (H : Heap) (locs : List Loc) (g : JFrame) : Prop := W p l e (headSpec (Cond.code yX3_leastClashing cX3_leastClashing 2 (some .int) :: GW) { frames := 1, cells := 0, slots := 0, locals := 23 }).room s m ([.ref n0] : List Value).toArray below meth c H locs 0 0 (MQ below (va_Qi (fun r (_ : Unit) => r = out) (BW D (wN cI cJ cZ n0 n1 n2 n3 n4 n5 n6 N_postCount N_roadCount N_first N_second N_number N_allowed N_at N_beside) s.heap.size (fun _ => (wN cI cJ cZ n0 n1 n2 n3 n4 n5 n6 N_postCount N_roadCount N_first N_second N_number N_allowed N_at N_beside))) (va_A (wN cI cJ cZ n0 n1 n2 n3 n4 n5 n6 N_postCount N_roadCount N_first N_second N_number N_allowed N_at N_beside) s.heap.size)) ([.ref n0] : List Value).toArray s 0 0 (va_A (wN cI cJ cZ n0 n1 n2 n3 n4 n5 n6 N_postCount N_roadCount N_first N_second N_number N_allowed N_at N_beside) s.heap.size)) g
theorem kvX3_leastClashing : CalV RX3 yX3_leastClashing cX3_leastClashing 2 (some .int) 0 := ⟨wC_yX3_leastClashing, wM_yX3_leastClashing, wS_yX3_leastClashing, wI_RX3, by decide +kernel⟩
set_option maxHeartbeats 4000000 in
set_option maxRecDepth 100000 in
theorem kX3_leastClashing (l : Launch) (D : va_G) (cI cJ cZ : ClassId) (n0 n1 n2 n3 n4 n5 n6 : Nat) (N_postCount : Int32) (N_roadCount : Int32) (N_first : Nat → Int32) (N_second : Nat → Int32) (N_number : Nat → Int32) (N_allowed : Nat → Int32) (N_at : Nat → Int32) (N_beside : Nat → Int32)  (out : Int32) (hf : FX3_leastClashing N_roadCount N_number N_beside = some out) : MI l yX3_leastClashing (Cond.code yX3_leastClashing cX3_leastClashing 2 (some .int) :: GW) { frames := 1, cells := 0, slots := 0, locals := 23 } D cI cJ cZ [.ref n0] (wN cI cJ cZ n0 n1 n2 n3 n4 n5 n6 N_postCount N_roadCount N_first N_second N_number N_allowed N_at N_beside) (fun r (_ : Unit) => r = out) (fun _ => (wN cI cJ cZ n0 n1 n2 n3 n4 n5 n6 N_postCount N_roadCount N_first N_second N_number N_allowed N_at N_beside)) := by
  intro sz
  refine Met.ofW (cc := cX3_leastClashing) (maxL := 2) (ret := (some .int)) (by decide +kernel) rfl ?_
  intro p e s m args below meth c s₁ B hml hv
  obtain ⟨rfl, hsz, hP, hK, hD0⟩ := hv
  have hx := B.exec
  have hb := B.bytes
  have hr := B.returns
  have hlocks := B.notSynchronized
  have hg : ∀ w ∈ GW, w.before _ s = true := fun w h => atoms_spec (ws := Cond.code yX3_leastClashing cX3_leastClashing 2 (some .int) :: GW) B.pre w (List.mem_cons_of_mem _ h)
  have hown : s.vm.findClass RX3 = some m.cls := findClass_of_methodNamed B.named
  subst hsz
  obtain ⟨A, hAe⟩ : ∃ A, A = va_A (wN cI cJ cZ n0 n1 n2 n3 n4 n5 n6 N_postCount N_roadCount N_first N_second N_number N_allowed N_at N_beside) s.heap.size := ⟨_, rfl⟩
  have hA : ∀ q : Nat, s.heap.size ≤ q → A q := fun q h => by rw [hAe]; exact Or.inr h
  have hI : WI D A s.heap (wN cI cJ cZ n0 n1 n2 n3 n4 n5 n6 N_postCount N_roadCount N_first N_second N_number N_allowed N_at N_beside) s.heap [] := ⟨hP, by rw [hAe]; exact hD0.self, va_S.rf⟩
  have hl := lv_entry [.ref n0] (n := 2) (Nat.le_of_ble_eq_true rfl)
  rw [lg_entry_eq]
  generalize (lg_sl [.ref n0] ++ List.replicate (2 - (lg_sl [.ref n0]).length) Slot.unset).toArray = ls at hl ⊢
  replace hl : lv_has ls 2 [(0, .ref n0)] := hl
  have L2 : ∀ (v : Int32) (x : Int32), loopO (X3_leastClashing_L2 N_roadCount N_number N_beside) v = some x → (fun z : Int32 => z = out) x → (fun (v : Int32) => ∀ (H : Heap) (locs : List Loc) (ls : Array Slot), WI D A s.heap (wN cI cJ cZ n0 n1 n2 n3 n4 n5 n6 N_postCount N_roadCount N_first N_second N_number N_allowed N_at N_beside) H locs → lv_has ls 2 [(0, .ref n0), (1, .int v)] → GX3_leastClashing p l e s m below meth c D cI cJ cZ n0 n1 n2 n3 n4 n5 n6 N_postCount N_roadCount N_first N_second N_number N_allowed N_at N_beside  out H locs (F0 m 2 ls [])) v := by
    refine loopO_ind (fun (v : Int32) => ∀ (H : Heap) (locs : List Loc) (ls : Array Slot), WI D A s.heap (wN cI cJ cZ n0 n1 n2 n3 n4 n5 n6 N_postCount N_roadCount N_first N_second N_number N_allowed N_at N_beside) H locs → lv_has ls 2 [(0, .ref n0), (1, .int v)] → GX3_leastClashing p l e s m below meth c D cI cJ cZ n0 n1 n2 n3 n4 n5 n6 N_postCount N_roadCount N_first N_second N_number N_allowed N_at N_beside  out H locs (F0 m 2 ls [])) (fun z : Int32 => z = out) ?_
    intro v x hf hM H locs ls hI hl
    refine lv_iload_n hx hb dX3_leastClashing_2 rfl (lv_at hl 1 rfl) ?_
    refine lv_aload_n hx hb dX3_leastClashing_3 rfl (lv_at hl 0 rfl) ?_
    refine w_get hx hb hg hown hK hI iX3 0 rfl rfl 1 (by decide) wF_RX3_34 rfl dX3_leastClashing_4 ?_
    refine lv_icmp_ge (tgt := 48) hx hb dX3_leastClashing_7 (by decide) (fun hc => ?_) (fun hc => ?_)
    · replace hf := ite_t hc hf
      refine lv_iconst (v := -1) hx hb dX3_leastClashing_48 (by decide) ?_
      replace hf := Option.some.inj hf
      subst hf
      replace hM : (-1 : Int32) = out := hM
      subst hM
      exact rt_i (u := ()) hx hb hr hlocks rfl hI hAe rfl dX3_leastClashing_49
    · replace hf := ite_f hc hf
      refine lv_aload_n hx hb dX3_leastClashing_10 rfl (lv_at hl 0 rfl) ?_
      refine w_get hx hb hg hown hK hI iX3 0 rfl rfl 4 (by decide) wF_RX3_18 rfl dX3_leastClashing_11 ?_
      refine lv_iload_n hx hb dX3_leastClashing_14 rfl (lv_at hl 1 rfl) ?_
      obtain ⟨hin, hf⟩ := rd_e hf
      refine w_iald hx hb hK hI 3 rfl hin dX3_leastClashing_15 (fun x1 ex1 => ?_)
      replace hf := hf x1 ex1
      refine lv_iconst (v := -1) hx hb dX3_leastClashing_16 (by decide) ?_
      refine lv_icmp_eq (tgt := 42) hx hb dX3_leastClashing_17 (by decide) (fun hc => ?_) (fun hc => ?_)
      · replace hf := ite_t hc hf
        obtain ⟨x2, ex2⟩ : ∃ y : Int32, y = (v + (1 : Int32)) := ⟨_, rfl⟩
        replace hf := bnd_e hf x2 ex2
        refine lv_iinc (v := x2) (lv' := [(1, .int x2), (0, .ref n0)]) hx hb dX3_leastClashing_42 hl (k := 1) rfl (by rw [ex2]; rfl) (by decide) rfl (fun ls hl => ?_)
        refine lv_goto (tgt := 2) hx hb dX3_leastClashing_45 (by decide) ?_
        replace hf := Option.some.inj hf
        subst hf
        exact hM _ _ _ hI (lv_sub hl [1, 0] rfl)
      · replace hf := ite_f hc hf
        refine lv_aload_n hx hb dX3_leastClashing_20 rfl (lv_at hl 0 rfl) ?_
        refine w_get hx hb hg hown hK hI iX3 0 rfl rfl 7 (by decide) wF_RX3_27 rfl dX3_leastClashing_21 ?_
        refine lv_iload_n hx hb dX3_leastClashing_24 rfl (lv_at hl 1 rfl) ?_
        obtain ⟨hin, hf⟩ := rd_e hf
        refine w_iald hx hb hK hI 6 rfl hin dX3_leastClashing_25 (fun x3 ex3 => ?_)
        replace hf := hf x3 ex3
        refine lv_aload_n hx hb dX3_leastClashing_26 rfl (lv_at hl 0 rfl) ?_
        refine lv_aload_n hx hb dX3_leastClashing_27 rfl (lv_at hl 0 rfl) ?_
        refine w_get hx hb hg hown hK hI iX3 0 rfl rfl 4 (by decide) wF_RX3_18 rfl dX3_leastClashing_28 ?_
        refine lv_iload_n hx hb dX3_leastClashing_31 rfl (lv_at hl 1 rfl) ?_
        obtain ⟨hin, hf⟩ := rd_e hf
        refine w_iald hx hb hK hI 3 rfl hin dX3_leastClashing_32 (fun x4 ex4 => ?_)
        replace hf := hf x4 ex4
        obtain ⟨o5, ho5, hf⟩ := bd_e hf
        refine w_Vi0 (wc := (wN cI cJ cZ n0 n1 n2 n3 n4 n5 n6 N_postCount N_roadCount N_first N_second N_number N_allowed N_at N_beside)) (wr := []) (rest := [.int x3]) hx hb hml hg hown hK hA hI (kX3_roadsNumbered l D cI cJ cZ n0 n1 n2 n3 n4 n5 n6 N_postCount N_roadCount N_first N_second N_number N_allowed N_at N_beside x4 o5 ho5) kvX3_roadsNumbered wL_RX3_64 ⟨Nat.le_of_ble_eq_true rfl, Nat.le_of_ble_eq_true rfl⟩ rfl rfl [0, 1, 2, 3, 4, 5, 6] [] rfl rfl rfl rfl (by decide) rfl rfl hl.1 (Nat.le_of_ble_eq_true rfl) dX3_leastClashing_33 ⟨Nat.zero_le _, Nat.zero_le _⟩ ⟨rfl, rfl⟩ (fun r u H locs hp hI => ?_)
        replace hp : r = o5 := hp
        rw [hp]
        clear hp
        replace hI : WI D A s.heap (wN cI cJ cZ n0 n1 n2 n3 n4 n5 n6 N_postCount N_roadCount N_first N_second N_number N_allowed N_at N_beside) H locs := hI
        refine lv_iand hx hb dX3_leastClashing_36 ?_
        refine lv_if_eq (tgt := 42) hx hb dX3_leastClashing_37 (by decide) (fun hc => ?_) (fun hc => ?_)
        · replace hf := ite_t hc hf
          obtain ⟨x6, ex6⟩ : ∃ y : Int32, y = (v + (1 : Int32)) := ⟨_, rfl⟩
          replace hf := bnd_e hf x6 ex6
          refine lv_iinc (v := x6) (lv' := [(1, .int x6), (0, .ref n0)]) hx hb dX3_leastClashing_42 hl (k := 1) rfl (by rw [ex6]; rfl) (by decide) rfl (fun ls hl => ?_)
          refine lv_goto (tgt := 2) hx hb dX3_leastClashing_45 (by decide) ?_
          replace hf := Option.some.inj hf
          subst hf
          exact hM _ _ _ hI (lv_sub hl [1, 0] rfl)
        · replace hf := ite_f hc hf
          refine lv_iload_n hx hb dX3_leastClashing_40 rfl (lv_at hl 1 rfl) ?_
          replace hf := Option.some.inj hf
          subst hf
          replace hM : v = out := hM
          subst hM
          exact rt_i (u := ()) hx hb hr hlocks rfl hI hAe rfl dX3_leastClashing_41
  obtain ⟨x, hf, hM⟩ : ∃ x, FX3_leastClashing N_roadCount N_number N_beside = some x ∧ x = out := ⟨out, hf, rfl⟩
  refine lv_iconst (v := 0) hx hb dX3_leastClashing_0 (by decide) ?_
  refine lv_istore_n (lv' := [(1, .int (0 : Int32)), (0, .ref n0)]) hx hb dX3_leastClashing_1 rfl hl (by decide) rfl (fun ls hl => ?_)
  exact L2  (0 : Int32) _ hf hM _ _ _ hI (lv_sub hl [1, 0] rfl)
noncomputable def X3_roadsInside_L4 (N_roadCount : Int32) (N_first : Nat → Int32) (N_second : Nat → Int32) (l1 : Int32) (v : Int32 × Int32) : Option ((Int32 × Int32) ⊕ (Int32)) :=
  if N_roadCount ≤ v.2 then (some (.inr v.1)) else (rd N_first 24 v.2 (fun x1 => (FX7_isIn l1 x1).bind (fun x2 => if x2 = (0 : Int32) then (bnd (v.2 + (1 : Int32)) (fun x3 => some (.inl (v.1, x3)))) else (rd N_second 24 v.2 (fun x4 => (FX7_isIn l1 x4).bind (fun x5 => if x5 = (0 : Int32) then (bnd (v.2 + (1 : Int32)) (fun x6 => some (.inl (v.1, x6)))) else (bnd (v.1 + (1 : Int32)) (fun x7 => bnd (v.2 + (1 : Int32)) (fun x8 => some (.inl (x7, x8)))))))))))
noncomputable def FX3_roadsInside (N_roadCount : Int32) (N_first : Nat → Int32) (N_second : Nat → Int32) (a1 : Int32) : Option (Int32) :=
  loopO (X3_roadsInside_L4 N_roadCount N_first N_second a1) ((0 : Int32), (0 : Int32))
abbrev GX3_roadsInside (p : Program) (l : Launch) (e : Env) (s : State) (m : MethodId) (below : List Frame) (meth : Method) (c : Code) (D : va_G) (cI cJ cZ : ClassId) (n0 n1 n2 n3 n4 n5 n6 : Nat) (N_postCount : Int32) (N_roadCount : Int32) (N_first : Nat → Int32) (N_second : Nat → Int32) (N_number : Nat → Int32) (N_allowed : Nat → Int32) (N_at : Nat → Int32) (N_beside : Nat → Int32) (a1 : Int32) (out : Int32) (H : Heap) (locs : List Loc) (g : JFrame) : Prop := W p l e (headSpec (Cond.code yX3_roadsInside cX3_roadsInside 4 (some .int) :: GW) { frames := 1, cells := 0, slots := 0, locals := 21 }).room s m ([.ref n0, .int a1] : List Value).toArray below meth c H locs 0 0 (MQ below (va_Qi (fun r (_ : Unit) => r = out) (BW D (wN cI cJ cZ n0 n1 n2 n3 n4 n5 n6 N_postCount N_roadCount N_first N_second N_number N_allowed N_at N_beside) s.heap.size (fun _ => (wN cI cJ cZ n0 n1 n2 n3 n4 n5 n6 N_postCount N_roadCount N_first N_second N_number N_allowed N_at N_beside))) (va_A (wN cI cJ cZ n0 n1 n2 n3 n4 n5 n6 N_postCount N_roadCount N_first N_second N_number N_allowed N_at N_beside) s.heap.size)) ([.ref n0, .int a1] : List Value).toArray s 0 0 (va_A (wN cI cJ cZ n0 n1 n2 n3 n4 n5 n6 N_postCount N_roadCount N_first N_second N_number N_allowed N_at N_beside) s.heap.size)) g
theorem kvX3_roadsInside : CalV RX3 yX3_roadsInside cX3_roadsInside 4 (some .int) 1 := ⟨wC_yX3_roadsInside, wM_yX3_roadsInside, wS_yX3_roadsInside, wI_RX3, by decide +kernel⟩
set_option maxHeartbeats 4000000 in
set_option maxRecDepth 100000 in
theorem kX3_roadsInside (l : Launch) (D : va_G) (cI cJ cZ : ClassId) (n0 n1 n2 n3 n4 n5 n6 : Nat) (N_postCount : Int32) (N_roadCount : Int32) (N_first : Nat → Int32) (N_second : Nat → Int32) (N_number : Nat → Int32) (N_allowed : Nat → Int32) (N_at : Nat → Int32) (N_beside : Nat → Int32) (a1 : Int32) (out : Int32) (hf : FX3_roadsInside N_roadCount N_first N_second a1 = some out) : MI l yX3_roadsInside (Cond.code yX3_roadsInside cX3_roadsInside 4 (some .int) :: GW) { frames := 1, cells := 0, slots := 0, locals := 21 } D cI cJ cZ [.ref n0, .int a1] (wN cI cJ cZ n0 n1 n2 n3 n4 n5 n6 N_postCount N_roadCount N_first N_second N_number N_allowed N_at N_beside) (fun r (_ : Unit) => r = out) (fun _ => (wN cI cJ cZ n0 n1 n2 n3 n4 n5 n6 N_postCount N_roadCount N_first N_second N_number N_allowed N_at N_beside)) := by
  intro sz
  refine Met.ofW (cc := cX3_roadsInside) (maxL := 4) (ret := (some .int)) (by decide +kernel) rfl ?_
  intro p e s m args below meth c s₁ B hml hv
  obtain ⟨rfl, hsz, hP, hK, hD0⟩ := hv
  have hx := B.exec
  have hb := B.bytes
  have hr := B.returns
  have hlocks := B.notSynchronized
  have hg : ∀ w ∈ GW, w.before _ s = true := fun w h => atoms_spec (ws := Cond.code yX3_roadsInside cX3_roadsInside 4 (some .int) :: GW) B.pre w (List.mem_cons_of_mem _ h)
  have hown : s.vm.findClass RX3 = some m.cls := findClass_of_methodNamed B.named
  subst hsz
  obtain ⟨A, hAe⟩ : ∃ A, A = va_A (wN cI cJ cZ n0 n1 n2 n3 n4 n5 n6 N_postCount N_roadCount N_first N_second N_number N_allowed N_at N_beside) s.heap.size := ⟨_, rfl⟩
  have hA : ∀ q : Nat, s.heap.size ≤ q → A q := fun q h => by rw [hAe]; exact Or.inr h
  have hI : WI D A s.heap (wN cI cJ cZ n0 n1 n2 n3 n4 n5 n6 N_postCount N_roadCount N_first N_second N_number N_allowed N_at N_beside) s.heap [] := ⟨hP, by rw [hAe]; exact hD0.self, va_S.rf⟩
  have hl := lv_entry [.ref n0, .int a1] (n := 4) (Nat.le_of_ble_eq_true rfl)
  rw [lg_entry_eq]
  generalize (lg_sl [.ref n0, .int a1] ++ List.replicate (4 - (lg_sl [.ref n0, .int a1]).length) Slot.unset).toArray = ls at hl ⊢
  replace hl : lv_has ls 4 [(0, .ref n0), (1, .int a1)] := hl
  have L4 : ∀ (l1 : Int32), ∀ (v : Int32 × Int32) (x : Int32), loopO (X3_roadsInside_L4 N_roadCount N_first N_second l1) v = some x → (fun z : Int32 => z = out) x → (fun (v : Int32 × Int32) => ∀ (H : Heap) (locs : List Loc) (ls : Array Slot), WI D A s.heap (wN cI cJ cZ n0 n1 n2 n3 n4 n5 n6 N_postCount N_roadCount N_first N_second N_number N_allowed N_at N_beside) H locs → lv_has ls 4 [(0, .ref n0), (1, .int l1), (2, .int v.1), (3, .int v.2)] → GX3_roadsInside p l e s m below meth c D cI cJ cZ n0 n1 n2 n3 n4 n5 n6 N_postCount N_roadCount N_first N_second N_number N_allowed N_at N_beside a1 out H locs (F0 m 4 ls [])) v := by
    intro l1
    refine loopO_ind (fun (v : Int32 × Int32) => ∀ (H : Heap) (locs : List Loc) (ls : Array Slot), WI D A s.heap (wN cI cJ cZ n0 n1 n2 n3 n4 n5 n6 N_postCount N_roadCount N_first N_second N_number N_allowed N_at N_beside) H locs → lv_has ls 4 [(0, .ref n0), (1, .int l1), (2, .int v.1), (3, .int v.2)] → GX3_roadsInside p l e s m below meth c D cI cJ cZ n0 n1 n2 n3 n4 n5 n6 N_postCount N_roadCount N_first N_second N_number N_allowed N_at N_beside a1 out H locs (F0 m 4 ls [])) (fun z : Int32 => z = out) ?_
    intro v x hf hM H locs ls hI hl
    refine lv_iload_n hx hb dX3_roadsInside_4 rfl (lv_at hl 3 rfl) ?_
    refine lv_aload_n hx hb dX3_roadsInside_5 rfl (lv_at hl 0 rfl) ?_
    refine w_get hx hb hg hown hK hI iX3 0 rfl rfl 1 (by decide) wF_RX3_34 rfl dX3_roadsInside_6 ?_
    refine lv_icmp_ge (tgt := 47) hx hb dX3_roadsInside_9 (by decide) (fun hc => ?_) (fun hc => ?_)
    · replace hf := ite_t hc hf
      refine lv_iload_n hx hb dX3_roadsInside_47 rfl (lv_at hl 2 rfl) ?_
      replace hf := Option.some.inj hf
      subst hf
      replace hM : v.1 = out := hM
      subst hM
      exact rt_i (u := ()) hx hb hr hlocks rfl hI hAe rfl dX3_roadsInside_48
    · replace hf := ite_f hc hf
      refine lv_iload_n hx hb dX3_roadsInside_12 rfl (lv_at hl 1 rfl) ?_
      refine lv_aload_n hx hb dX3_roadsInside_13 rfl (lv_at hl 0 rfl) ?_
      refine w_get hx hb hg hown hK hI iX3 0 rfl rfl 2 (by decide) wF_RX3_9 rfl dX3_roadsInside_14 ?_
      refine lv_iload_n hx hb dX3_roadsInside_17 rfl (lv_at hl 3 rfl) ?_
      obtain ⟨hin, hf⟩ := rd_e hf
      refine w_iald hx hb hK hI 1 rfl hin dX3_roadsInside_18 (fun x1 ex1 => ?_)
      replace hf := hf x1 ex1
      obtain ⟨x2, hx2, hf⟩ := bd_e hf
      refine w_N (rest := []) hx hb hml hg hown hK (kX7_isIn l D cI cJ cZ l1 x1 x2 hx2) ksX7_isIn (List.mem_of_getElem? (i := 3) rfl) ⟨Nat.le_of_ble_eq_true rfl, Nat.le_of_ble_eq_true rfl⟩ ⟨rfl, rfl⟩ rfl rfl hl.1 (Nat.le_of_ble_eq_true rfl) dX3_roadsInside_19 ⟨Nat.zero_le _, Nat.zero_le _⟩ ?_
      refine lv_if_eq (tgt := 41) hx hb dX3_roadsInside_22 (by decide) (fun hc => ?_) (fun hc => ?_)
      · replace hf := ite_t hc hf
        obtain ⟨x3, ex3⟩ : ∃ y : Int32, y = (v.2 + (1 : Int32)) := ⟨_, rfl⟩
        replace hf := bnd_e hf x3 ex3
        refine lv_iinc (v := x3) (lv' := [(3, .int x3), (0, .ref n0), (1, .int l1), (2, .int v.1)]) hx hb dX3_roadsInside_41 hl (k := 3) rfl (by rw [ex3]; rfl) (by decide) rfl (fun ls hl => ?_)
        refine lv_goto (tgt := 4) hx hb dX3_roadsInside_44 (by decide) ?_
        replace hf := Option.some.inj hf
        subst hf
        exact hM _ _ _ hI (lv_sub hl [1, 2, 3, 0] rfl)
      · replace hf := ite_f hc hf
        refine lv_iload_n hx hb dX3_roadsInside_25 rfl (lv_at hl 1 rfl) ?_
        refine lv_aload_n hx hb dX3_roadsInside_26 rfl (lv_at hl 0 rfl) ?_
        refine w_get hx hb hg hown hK hI iX3 0 rfl rfl 3 (by decide) wF_RX3_15 rfl dX3_roadsInside_27 ?_
        refine lv_iload_n hx hb dX3_roadsInside_30 rfl (lv_at hl 3 rfl) ?_
        obtain ⟨hin, hf⟩ := rd_e hf
        refine w_iald hx hb hK hI 2 rfl hin dX3_roadsInside_31 (fun x4 ex4 => ?_)
        replace hf := hf x4 ex4
        obtain ⟨x5, hx5, hf⟩ := bd_e hf
        refine w_N (rest := []) hx hb hml hg hown hK (kX7_isIn l D cI cJ cZ l1 x4 x5 hx5) ksX7_isIn (List.mem_of_getElem? (i := 3) rfl) ⟨Nat.le_of_ble_eq_true rfl, Nat.le_of_ble_eq_true rfl⟩ ⟨rfl, rfl⟩ rfl rfl hl.1 (Nat.le_of_ble_eq_true rfl) dX3_roadsInside_32 ⟨Nat.zero_le _, Nat.zero_le _⟩ ?_
        refine lv_if_eq (tgt := 41) hx hb dX3_roadsInside_35 (by decide) (fun hc => ?_) (fun hc => ?_)
        · replace hf := ite_t hc hf
          obtain ⟨x6, ex6⟩ : ∃ y : Int32, y = (v.2 + (1 : Int32)) := ⟨_, rfl⟩
          replace hf := bnd_e hf x6 ex6
          refine lv_iinc (v := x6) (lv' := [(3, .int x6), (0, .ref n0), (1, .int l1), (2, .int v.1)]) hx hb dX3_roadsInside_41 hl (k := 3) rfl (by rw [ex6]; rfl) (by decide) rfl (fun ls hl => ?_)
          refine lv_goto (tgt := 4) hx hb dX3_roadsInside_44 (by decide) ?_
          replace hf := Option.some.inj hf
          subst hf
          exact hM _ _ _ hI (lv_sub hl [1, 2, 3, 0] rfl)
        · replace hf := ite_f hc hf
          obtain ⟨x7, ex7⟩ : ∃ y : Int32, y = (v.1 + (1 : Int32)) := ⟨_, rfl⟩
          replace hf := bnd_e hf x7 ex7
          refine lv_iinc (v := x7) (lv' := [(2, .int x7), (0, .ref n0), (1, .int l1), (3, .int v.2)]) hx hb dX3_roadsInside_38 hl (k := 2) rfl (by rw [ex7]; rfl) (by decide) rfl (fun ls hl => ?_)
          obtain ⟨x8, ex8⟩ : ∃ y : Int32, y = (v.2 + (1 : Int32)) := ⟨_, rfl⟩
          replace hf := bnd_e hf x8 ex8
          refine lv_iinc (v := x8) (lv' := [(3, .int x8), (2, .int x7), (0, .ref n0), (1, .int l1)]) hx hb dX3_roadsInside_41 hl (k := 3) rfl (by rw [ex8]; rfl) (by decide) rfl (fun ls hl => ?_)
          refine lv_goto (tgt := 4) hx hb dX3_roadsInside_44 (by decide) ?_
          replace hf := Option.some.inj hf
          subst hf
          exact hM _ _ _ hI (lv_sub hl [2, 3, 1, 0] rfl)
  obtain ⟨x, hf, hM⟩ : ∃ x, FX3_roadsInside N_roadCount N_first N_second a1 = some x ∧ x = out := ⟨out, hf, rfl⟩
  refine lv_iconst (v := 0) hx hb dX3_roadsInside_0 (by decide) ?_
  refine lv_istore_n (lv' := [(2, .int (0 : Int32)), (0, .ref n0), (1, .int a1)]) hx hb dX3_roadsInside_1 rfl hl (by decide) rfl (fun ls hl => ?_)
  refine lv_iconst (v := 0) hx hb dX3_roadsInside_2 (by decide) ?_
  refine lv_istore_n (lv' := [(3, .int (0 : Int32)), (2, .int (0 : Int32)), (0, .ref n0), (1, .int a1)]) hx hb dX3_roadsInside_3 rfl hl (by decide) rfl (fun ls hl => ?_)
  exact L4 a1 ((0 : Int32), (0 : Int32)) _ hf hM _ _ _ hI (lv_sub hl [2, 3, 1, 0] rfl)
noncomputable def X3_endsOf_L4 (N_roadCount : Int32) (N_first : Nat → Int32) (N_second : Nat → Int32) (l1 : Int32) (v : Int32 × Int32) : Option ((Int32 × Int32) ⊕ (Int32)) :=
  if N_roadCount ≤ v.2 then (some (.inr v.1)) else ((FX7_isIn l1 v.2).bind (fun x1 => if x1 = (0 : Int32) then (bnd (v.2 + (1 : Int32)) (fun x2 => some (.inl (v.1, x2)))) else (rd N_first 24 v.2 (fun x3 => rd N_second 24 v.2 (fun x4 => bnd (v.1 ||| (((1 : Int32) <<< (x3 &&& (31 : Int32))) ||| ((1 : Int32) <<< (x4 &&& (31 : Int32))))) (fun x5 => bnd (v.2 + (1 : Int32)) (fun x6 => some (.inl (x5, x6)))))))))
noncomputable def FX3_endsOf (N_roadCount : Int32) (N_first : Nat → Int32) (N_second : Nat → Int32) (a1 : Int32) : Option (Int32) :=
  loopO (X3_endsOf_L4 N_roadCount N_first N_second a1) ((0 : Int32), (0 : Int32))
abbrev GX3_endsOf (p : Program) (l : Launch) (e : Env) (s : State) (m : MethodId) (below : List Frame) (meth : Method) (c : Code) (D : va_G) (cI cJ cZ : ClassId) (n0 n1 n2 n3 n4 n5 n6 : Nat) (N_postCount : Int32) (N_roadCount : Int32) (N_first : Nat → Int32) (N_second : Nat → Int32) (N_number : Nat → Int32) (N_allowed : Nat → Int32) (N_at : Nat → Int32) (N_beside : Nat → Int32) (a1 : Int32) (out : Int32) (H : Heap) (locs : List Loc) (g : JFrame) : Prop := W p l e (headSpec (Cond.code yX3_endsOf cX3_endsOf 4 (some .int) :: GW) { frames := 1, cells := 0, slots := 0, locals := 21 }).room s m ([.ref n0, .int a1] : List Value).toArray below meth c H locs 0 0 (MQ below (va_Qi (fun r (_ : Unit) => r = out) (BW D (wN cI cJ cZ n0 n1 n2 n3 n4 n5 n6 N_postCount N_roadCount N_first N_second N_number N_allowed N_at N_beside) s.heap.size (fun _ => (wN cI cJ cZ n0 n1 n2 n3 n4 n5 n6 N_postCount N_roadCount N_first N_second N_number N_allowed N_at N_beside))) (va_A (wN cI cJ cZ n0 n1 n2 n3 n4 n5 n6 N_postCount N_roadCount N_first N_second N_number N_allowed N_at N_beside) s.heap.size)) ([.ref n0, .int a1] : List Value).toArray s 0 0 (va_A (wN cI cJ cZ n0 n1 n2 n3 n4 n5 n6 N_postCount N_roadCount N_first N_second N_number N_allowed N_at N_beside) s.heap.size)) g
theorem kvX3_endsOf : CalV RX3 yX3_endsOf cX3_endsOf 4 (some .int) 1 := ⟨wC_yX3_endsOf, wM_yX3_endsOf, wS_yX3_endsOf, wI_RX3, by decide +kernel⟩
set_option maxHeartbeats 4000000 in
set_option maxRecDepth 100000 in
theorem kX3_endsOf (l : Launch) (D : va_G) (cI cJ cZ : ClassId) (n0 n1 n2 n3 n4 n5 n6 : Nat) (N_postCount : Int32) (N_roadCount : Int32) (N_first : Nat → Int32) (N_second : Nat → Int32) (N_number : Nat → Int32) (N_allowed : Nat → Int32) (N_at : Nat → Int32) (N_beside : Nat → Int32) (a1 : Int32) (out : Int32) (hf : FX3_endsOf N_roadCount N_first N_second a1 = some out) : MI l yX3_endsOf (Cond.code yX3_endsOf cX3_endsOf 4 (some .int) :: GW) { frames := 1, cells := 0, slots := 0, locals := 21 } D cI cJ cZ [.ref n0, .int a1] (wN cI cJ cZ n0 n1 n2 n3 n4 n5 n6 N_postCount N_roadCount N_first N_second N_number N_allowed N_at N_beside) (fun r (_ : Unit) => r = out) (fun _ => (wN cI cJ cZ n0 n1 n2 n3 n4 n5 n6 N_postCount N_roadCount N_first N_second N_number N_allowed N_at N_beside)) := by
  intro sz
  refine Met.ofW (cc := cX3_endsOf) (maxL := 4) (ret := (some .int)) (by decide +kernel) rfl ?_
  intro p e s m args below meth c s₁ B hml hv
  obtain ⟨rfl, hsz, hP, hK, hD0⟩ := hv
  have hx := B.exec
  have hb := B.bytes
  have hr := B.returns
  have hlocks := B.notSynchronized
  have hg : ∀ w ∈ GW, w.before _ s = true := fun w h => atoms_spec (ws := Cond.code yX3_endsOf cX3_endsOf 4 (some .int) :: GW) B.pre w (List.mem_cons_of_mem _ h)
  have hown : s.vm.findClass RX3 = some m.cls := findClass_of_methodNamed B.named
  subst hsz
  obtain ⟨A, hAe⟩ : ∃ A, A = va_A (wN cI cJ cZ n0 n1 n2 n3 n4 n5 n6 N_postCount N_roadCount N_first N_second N_number N_allowed N_at N_beside) s.heap.size := ⟨_, rfl⟩
  have hA : ∀ q : Nat, s.heap.size ≤ q → A q := fun q h => by rw [hAe]; exact Or.inr h
  have hI : WI D A s.heap (wN cI cJ cZ n0 n1 n2 n3 n4 n5 n6 N_postCount N_roadCount N_first N_second N_number N_allowed N_at N_beside) s.heap [] := ⟨hP, by rw [hAe]; exact hD0.self, va_S.rf⟩
  have hl := lv_entry [.ref n0, .int a1] (n := 4) (Nat.le_of_ble_eq_true rfl)
  rw [lg_entry_eq]
  generalize (lg_sl [.ref n0, .int a1] ++ List.replicate (4 - (lg_sl [.ref n0, .int a1]).length) Slot.unset).toArray = ls at hl ⊢
  replace hl : lv_has ls 4 [(0, .ref n0), (1, .int a1)] := hl
  have L4 : ∀ (l1 : Int32), ∀ (v : Int32 × Int32) (x : Int32), loopO (X3_endsOf_L4 N_roadCount N_first N_second l1) v = some x → (fun z : Int32 => z = out) x → (fun (v : Int32 × Int32) => ∀ (H : Heap) (locs : List Loc) (ls : Array Slot), WI D A s.heap (wN cI cJ cZ n0 n1 n2 n3 n4 n5 n6 N_postCount N_roadCount N_first N_second N_number N_allowed N_at N_beside) H locs → lv_has ls 4 [(0, .ref n0), (1, .int l1), (2, .int v.1), (3, .int v.2)] → GX3_endsOf p l e s m below meth c D cI cJ cZ n0 n1 n2 n3 n4 n5 n6 N_postCount N_roadCount N_first N_second N_number N_allowed N_at N_beside a1 out H locs (F0 m 4 ls [])) v := by
    intro l1
    refine loopO_ind (fun (v : Int32 × Int32) => ∀ (H : Heap) (locs : List Loc) (ls : Array Slot), WI D A s.heap (wN cI cJ cZ n0 n1 n2 n3 n4 n5 n6 N_postCount N_roadCount N_first N_second N_number N_allowed N_at N_beside) H locs → lv_has ls 4 [(0, .ref n0), (1, .int l1), (2, .int v.1), (3, .int v.2)] → GX3_endsOf p l e s m below meth c D cI cJ cZ n0 n1 n2 n3 n4 n5 n6 N_postCount N_roadCount N_first N_second N_number N_allowed N_at N_beside a1 out H locs (F0 m 4 ls [])) (fun z : Int32 => z = out) ?_
    intro v x hf hM H locs ls hI hl
    refine lv_iload_n hx hb dX3_endsOf_4 rfl (lv_at hl 3 rfl) ?_
    refine lv_aload_n hx hb dX3_endsOf_5 rfl (lv_at hl 0 rfl) ?_
    refine w_get hx hb hg hown hK hI iX3 0 rfl rfl 1 (by decide) wF_RX3_34 rfl dX3_endsOf_6 ?_
    refine lv_icmp_ge (tgt := 46) hx hb dX3_endsOf_9 (by decide) (fun hc => ?_) (fun hc => ?_)
    · replace hf := ite_t hc hf
      refine lv_iload_n hx hb dX3_endsOf_46 rfl (lv_at hl 2 rfl) ?_
      replace hf := Option.some.inj hf
      subst hf
      replace hM : v.1 = out := hM
      subst hM
      exact rt_i (u := ()) hx hb hr hlocks rfl hI hAe rfl dX3_endsOf_47
    · replace hf := ite_f hc hf
      refine lv_iload_n hx hb dX3_endsOf_12 rfl (lv_at hl 1 rfl) ?_
      refine lv_iload_n hx hb dX3_endsOf_13 rfl (lv_at hl 3 rfl) ?_
      obtain ⟨x1, hx1, hf⟩ := bd_e hf
      refine w_N (rest := []) hx hb hml hg hown hK (kX7_isIn l D cI cJ cZ l1 v.2 x1 hx1) ksX7_isIn (List.mem_of_getElem? (i := 3) rfl) ⟨Nat.le_of_ble_eq_true rfl, Nat.le_of_ble_eq_true rfl⟩ ⟨rfl, rfl⟩ rfl rfl hl.1 (Nat.le_of_ble_eq_true rfl) dX3_endsOf_14 ⟨Nat.zero_le _, Nat.zero_le _⟩ ?_
      refine lv_if_eq (tgt := 40) hx hb dX3_endsOf_17 (by decide) (fun hc => ?_) (fun hc => ?_)
      · replace hf := ite_t hc hf
        obtain ⟨x2, ex2⟩ : ∃ y : Int32, y = (v.2 + (1 : Int32)) := ⟨_, rfl⟩
        replace hf := bnd_e hf x2 ex2
        refine lv_iinc (v := x2) (lv' := [(3, .int x2), (0, .ref n0), (1, .int l1), (2, .int v.1)]) hx hb dX3_endsOf_40 hl (k := 3) rfl (by rw [ex2]; rfl) (by decide) rfl (fun ls hl => ?_)
        refine lv_goto (tgt := 4) hx hb dX3_endsOf_43 (by decide) ?_
        replace hf := Option.some.inj hf
        subst hf
        exact hM _ _ _ hI (lv_sub hl [1, 2, 3, 0] rfl)
      · replace hf := ite_f hc hf
        refine lv_iload_n hx hb dX3_endsOf_20 rfl (lv_at hl 2 rfl) ?_
        refine lv_iconst (v := 1) hx hb dX3_endsOf_21 (by decide) ?_
        refine lv_aload_n hx hb dX3_endsOf_22 rfl (lv_at hl 0 rfl) ?_
        refine w_get hx hb hg hown hK hI iX3 0 rfl rfl 2 (by decide) wF_RX3_9 rfl dX3_endsOf_23 ?_
        refine lv_iload_n hx hb dX3_endsOf_26 rfl (lv_at hl 3 rfl) ?_
        obtain ⟨hin, hf⟩ := rd_e hf
        refine w_iald hx hb hK hI 1 rfl hin dX3_endsOf_27 (fun x3 ex3 => ?_)
        replace hf := hf x3 ex3
        refine lv_ishl hx hb dX3_endsOf_28 ?_
        refine lv_iconst (v := 1) hx hb dX3_endsOf_29 (by decide) ?_
        refine lv_aload_n hx hb dX3_endsOf_30 rfl (lv_at hl 0 rfl) ?_
        refine w_get hx hb hg hown hK hI iX3 0 rfl rfl 3 (by decide) wF_RX3_15 rfl dX3_endsOf_31 ?_
        refine lv_iload_n hx hb dX3_endsOf_34 rfl (lv_at hl 3 rfl) ?_
        obtain ⟨hin, hf⟩ := rd_e hf
        refine w_iald hx hb hK hI 2 rfl hin dX3_endsOf_35 (fun x4 ex4 => ?_)
        replace hf := hf x4 ex4
        refine lv_ishl hx hb dX3_endsOf_36 ?_
        refine lv_ior hx hb dX3_endsOf_37 ?_
        refine lv_ior hx hb dX3_endsOf_38 ?_
        refine lv_topi (fun x5 ex5 => ?_)
        replace hf := bnd_e hf x5 ex5
        refine lv_istore_n (lv' := [(2, .int x5), (0, .ref n0), (1, .int l1), (3, .int v.2)]) hx hb dX3_endsOf_39 rfl hl (by decide) rfl (fun ls hl => ?_)
        obtain ⟨x6, ex6⟩ : ∃ y : Int32, y = (v.2 + (1 : Int32)) := ⟨_, rfl⟩
        replace hf := bnd_e hf x6 ex6
        refine lv_iinc (v := x6) (lv' := [(3, .int x6), (2, .int x5), (0, .ref n0), (1, .int l1)]) hx hb dX3_endsOf_40 hl (k := 3) rfl (by rw [ex6]; rfl) (by decide) rfl (fun ls hl => ?_)
        refine lv_goto (tgt := 4) hx hb dX3_endsOf_43 (by decide) ?_
        replace hf := Option.some.inj hf
        subst hf
        exact hM _ _ _ hI (lv_sub hl [2, 3, 1, 0] rfl)
  obtain ⟨x, hf, hM⟩ : ∃ x, FX3_endsOf N_roadCount N_first N_second a1 = some x ∧ x = out := ⟨out, hf, rfl⟩
  refine lv_iconst (v := 0) hx hb dX3_endsOf_0 (by decide) ?_
  refine lv_istore_n (lv' := [(2, .int (0 : Int32)), (0, .ref n0), (1, .int a1)]) hx hb dX3_endsOf_1 rfl hl (by decide) rfl (fun ls hl => ?_)
  refine lv_iconst (v := 0) hx hb dX3_endsOf_2 (by decide) ?_
  refine lv_istore_n (lv' := [(3, .int (0 : Int32)), (2, .int (0 : Int32)), (0, .ref n0), (1, .int a1)]) hx hb dX3_endsOf_3 rfl hl (by decide) rfl (fun ls hl => ?_)
  exact L4 a1 ((0 : Int32), (0 : Int32)) _ hf hM _ _ _ hI (lv_sub hl [2, 3, 1, 0] rfl)
noncomputable def X3_acrossFrom_J36 (N_roadCount : Int32) (N_first : Nat → Int32) (N_second : Nat → Int32) (l1 : Int32) (l2 : Int32) (l3 : Int32) : Option ((Int32 × Int32) ⊕ (Int32)) :=
  rd N_second 24 l3 (fun x3 => (FX7_isIn l1 x3).bind (fun x4 => if x4 = (0 : Int32) then (bnd (l3 + (1 : Int32)) (fun x5 => some (.inl (l2, x5)))) else (rd N_first 24 l3 (fun x6 => bnd (l2 ||| ((1 : Int32) <<< (x6 &&& (31 : Int32)))) (fun x7 => bnd (l3 + (1 : Int32)) (fun x8 => some (.inl (x7, x8))))))))
noncomputable def X3_acrossFrom_L4 (N_roadCount : Int32) (N_first : Nat → Int32) (N_second : Nat → Int32) (l1 : Int32) (v : Int32 × Int32) : Option ((Int32 × Int32) ⊕ (Int32)) :=
  if N_roadCount ≤ v.2 then (some (.inr v.1)) else (rd N_first 24 v.2 (fun x1 => (FX7_isIn l1 x1).bind (fun x2 => if x2 = (0 : Int32) then (X3_acrossFrom_J36 N_roadCount N_first N_second l1 v.1 v.2) else (rd N_second 24 v.2 (fun x9 => bnd (v.1 ||| ((1 : Int32) <<< (x9 &&& (31 : Int32)))) (fun x10 => X3_acrossFrom_J36 N_roadCount N_first N_second l1 x10 v.2))))))
noncomputable def FX3_acrossFrom (N_roadCount : Int32) (N_first : Nat → Int32) (N_second : Nat → Int32) (a1 : Int32) : Option (Int32) :=
  loopO (X3_acrossFrom_L4 N_roadCount N_first N_second a1) ((0 : Int32), (0 : Int32))
abbrev GX3_acrossFrom (p : Program) (l : Launch) (e : Env) (s : State) (m : MethodId) (below : List Frame) (meth : Method) (c : Code) (D : va_G) (cI cJ cZ : ClassId) (n0 n1 n2 n3 n4 n5 n6 : Nat) (N_postCount : Int32) (N_roadCount : Int32) (N_first : Nat → Int32) (N_second : Nat → Int32) (N_number : Nat → Int32) (N_allowed : Nat → Int32) (N_at : Nat → Int32) (N_beside : Nat → Int32) (a1 : Int32) (out : Int32) (H : Heap) (locs : List Loc) (g : JFrame) : Prop := W p l e (headSpec (Cond.code yX3_acrossFrom cX3_acrossFrom 4 (some .int) :: GW) { frames := 1, cells := 0, slots := 0, locals := 21 }).room s m ([.ref n0, .int a1] : List Value).toArray below meth c H locs 0 0 (MQ below (va_Qi (fun r (_ : Unit) => r = out) (BW D (wN cI cJ cZ n0 n1 n2 n3 n4 n5 n6 N_postCount N_roadCount N_first N_second N_number N_allowed N_at N_beside) s.heap.size (fun _ => (wN cI cJ cZ n0 n1 n2 n3 n4 n5 n6 N_postCount N_roadCount N_first N_second N_number N_allowed N_at N_beside))) (va_A (wN cI cJ cZ n0 n1 n2 n3 n4 n5 n6 N_postCount N_roadCount N_first N_second N_number N_allowed N_at N_beside) s.heap.size)) ([.ref n0, .int a1] : List Value).toArray s 0 0 (va_A (wN cI cJ cZ n0 n1 n2 n3 n4 n5 n6 N_postCount N_roadCount N_first N_second N_number N_allowed N_at N_beside) s.heap.size)) g
theorem kvX3_acrossFrom : CalV RX3 yX3_acrossFrom cX3_acrossFrom 4 (some .int) 1 := ⟨wC_yX3_acrossFrom, wM_yX3_acrossFrom, wS_yX3_acrossFrom, wI_RX3, by decide +kernel⟩
set_option maxHeartbeats 4000000 in
set_option maxRecDepth 100000 in
theorem kX3_acrossFrom (l : Launch) (D : va_G) (cI cJ cZ : ClassId) (n0 n1 n2 n3 n4 n5 n6 : Nat) (N_postCount : Int32) (N_roadCount : Int32) (N_first : Nat → Int32) (N_second : Nat → Int32) (N_number : Nat → Int32) (N_allowed : Nat → Int32) (N_at : Nat → Int32) (N_beside : Nat → Int32) (a1 : Int32) (out : Int32) (hf : FX3_acrossFrom N_roadCount N_first N_second a1 = some out) : MI l yX3_acrossFrom (Cond.code yX3_acrossFrom cX3_acrossFrom 4 (some .int) :: GW) { frames := 1, cells := 0, slots := 0, locals := 21 } D cI cJ cZ [.ref n0, .int a1] (wN cI cJ cZ n0 n1 n2 n3 n4 n5 n6 N_postCount N_roadCount N_first N_second N_number N_allowed N_at N_beside) (fun r (_ : Unit) => r = out) (fun _ => (wN cI cJ cZ n0 n1 n2 n3 n4 n5 n6 N_postCount N_roadCount N_first N_second N_number N_allowed N_at N_beside)) := by
  intro sz
  refine Met.ofW (cc := cX3_acrossFrom) (maxL := 4) (ret := (some .int)) (by decide +kernel) rfl ?_
  intro p e s m args below meth c s₁ B hml hv
  obtain ⟨rfl, hsz, hP, hK, hD0⟩ := hv
  have hx := B.exec
  have hb := B.bytes
  have hr := B.returns
  have hlocks := B.notSynchronized
  have hg : ∀ w ∈ GW, w.before _ s = true := fun w h => atoms_spec (ws := Cond.code yX3_acrossFrom cX3_acrossFrom 4 (some .int) :: GW) B.pre w (List.mem_cons_of_mem _ h)
  have hown : s.vm.findClass RX3 = some m.cls := findClass_of_methodNamed B.named
  subst hsz
  obtain ⟨A, hAe⟩ : ∃ A, A = va_A (wN cI cJ cZ n0 n1 n2 n3 n4 n5 n6 N_postCount N_roadCount N_first N_second N_number N_allowed N_at N_beside) s.heap.size := ⟨_, rfl⟩
  have hA : ∀ q : Nat, s.heap.size ≤ q → A q := fun q h => by rw [hAe]; exact Or.inr h
  have hI : WI D A s.heap (wN cI cJ cZ n0 n1 n2 n3 n4 n5 n6 N_postCount N_roadCount N_first N_second N_number N_allowed N_at N_beside) s.heap [] := ⟨hP, by rw [hAe]; exact hD0.self, va_S.rf⟩
  have hl := lv_entry [.ref n0, .int a1] (n := 4) (Nat.le_of_ble_eq_true rfl)
  rw [lg_entry_eq]
  generalize (lg_sl [.ref n0, .int a1] ++ List.replicate (4 - (lg_sl [.ref n0, .int a1]).length) Slot.unset).toArray = ls at hl ⊢
  replace hl : lv_has ls 4 [(0, .ref n0), (1, .int a1)] := hl
  have J36 : ∀ (l1 : Int32) (l2 : Int32) (l3 : Int32) (x : (Int32 × Int32) ⊕ (Int32)), X3_acrossFrom_J36 N_roadCount N_first N_second l1 l2 l3 = some x → (fun z => Sum.elim (fun (v1 : Int32 × Int32) => ∀ (H : Heap) (locs : List Loc) (ls : Array Slot), WI D A s.heap (wN cI cJ cZ n0 n1 n2 n3 n4 n5 n6 N_postCount N_roadCount N_first N_second N_number N_allowed N_at N_beside) H locs → lv_has ls 4 [(0, .ref n0), (1, .int l1), (2, .int v1.1), (3, .int v1.2)] → GX3_acrossFrom p l e s m below meth c D cI cJ cZ n0 n1 n2 n3 n4 n5 n6 N_postCount N_roadCount N_first N_second N_number N_allowed N_at N_beside a1 out H locs (F0 m 4 ls [])) (fun z : Int32 => z = out) z) x → ∀ (H : Heap) (locs : List Loc) (ls : Array Slot), WI D A s.heap (wN cI cJ cZ n0 n1 n2 n3 n4 n5 n6 N_postCount N_roadCount N_first N_second N_number N_allowed N_at N_beside) H locs → lv_has ls 4 [(0, .ref n0), (1, .int l1), (2, .int l2), (3, .int l3)] → GX3_acrossFrom p l e s m below meth c D cI cJ cZ n0 n1 n2 n3 n4 n5 n6 N_postCount N_roadCount N_first N_second N_number N_allowed N_at N_beside a1 out H locs (F0 m 36 ls []) := by
    intro l1 l2 l3 x hf hM H locs ls hI hl
    refine lv_iload_n hx hb dX3_acrossFrom_36 rfl (lv_at hl 1 rfl) ?_
    refine lv_aload_n hx hb dX3_acrossFrom_37 rfl (lv_at hl 0 rfl) ?_
    refine w_get hx hb hg hown hK hI iX3 0 rfl rfl 3 (by decide) wF_RX3_15 rfl dX3_acrossFrom_38 ?_
    refine lv_iload_n hx hb dX3_acrossFrom_41 rfl (lv_at hl 3 rfl) ?_
    obtain ⟨hin, hf⟩ := rd_e hf
    refine w_iald hx hb hK hI 2 rfl hin dX3_acrossFrom_42 (fun x3 ex3 => ?_)
    replace hf := hf x3 ex3
    obtain ⟨x4, hx4, hf⟩ := bd_e hf
    refine w_N (rest := []) hx hb hml hg hown hK (kX7_isIn l D cI cJ cZ l1 x3 x4 hx4) ksX7_isIn (List.mem_of_getElem? (i := 3) rfl) ⟨Nat.le_of_ble_eq_true rfl, Nat.le_of_ble_eq_true rfl⟩ ⟨rfl, rfl⟩ rfl rfl hl.1 (Nat.le_of_ble_eq_true rfl) dX3_acrossFrom_43 ⟨Nat.zero_le _, Nat.zero_le _⟩ ?_
    refine lv_if_eq (tgt := 60) hx hb dX3_acrossFrom_46 (by decide) (fun hc => ?_) (fun hc => ?_)
    · replace hf := ite_t hc hf
      obtain ⟨x5, ex5⟩ : ∃ y : Int32, y = (l3 + (1 : Int32)) := ⟨_, rfl⟩
      replace hf := bnd_e hf x5 ex5
      refine lv_iinc (v := x5) (lv' := [(3, .int x5), (0, .ref n0), (1, .int l1), (2, .int l2)]) hx hb dX3_acrossFrom_60 hl (k := 3) rfl (by rw [ex5]; rfl) (by decide) rfl (fun ls hl => ?_)
      refine lv_goto (tgt := 4) hx hb dX3_acrossFrom_63 (by decide) ?_
      replace hf := Option.some.inj hf
      subst hf
      exact hM _ _ _ hI (lv_sub hl [1, 2, 3, 0] rfl)
    · replace hf := ite_f hc hf
      refine lv_iload_n hx hb dX3_acrossFrom_49 rfl (lv_at hl 2 rfl) ?_
      refine lv_iconst (v := 1) hx hb dX3_acrossFrom_50 (by decide) ?_
      refine lv_aload_n hx hb dX3_acrossFrom_51 rfl (lv_at hl 0 rfl) ?_
      refine w_get hx hb hg hown hK hI iX3 0 rfl rfl 2 (by decide) wF_RX3_9 rfl dX3_acrossFrom_52 ?_
      refine lv_iload_n hx hb dX3_acrossFrom_55 rfl (lv_at hl 3 rfl) ?_
      obtain ⟨hin, hf⟩ := rd_e hf
      refine w_iald hx hb hK hI 1 rfl hin dX3_acrossFrom_56 (fun x6 ex6 => ?_)
      replace hf := hf x6 ex6
      refine lv_ishl hx hb dX3_acrossFrom_57 ?_
      refine lv_ior hx hb dX3_acrossFrom_58 ?_
      refine lv_topi (fun x7 ex7 => ?_)
      replace hf := bnd_e hf x7 ex7
      refine lv_istore_n (lv' := [(2, .int x7), (0, .ref n0), (1, .int l1), (3, .int l3)]) hx hb dX3_acrossFrom_59 rfl hl (by decide) rfl (fun ls hl => ?_)
      obtain ⟨x8, ex8⟩ : ∃ y : Int32, y = (l3 + (1 : Int32)) := ⟨_, rfl⟩
      replace hf := bnd_e hf x8 ex8
      refine lv_iinc (v := x8) (lv' := [(3, .int x8), (2, .int x7), (0, .ref n0), (1, .int l1)]) hx hb dX3_acrossFrom_60 hl (k := 3) rfl (by rw [ex8]; rfl) (by decide) rfl (fun ls hl => ?_)
      refine lv_goto (tgt := 4) hx hb dX3_acrossFrom_63 (by decide) ?_
      replace hf := Option.some.inj hf
      subst hf
      exact hM _ _ _ hI (lv_sub hl [2, 3, 1, 0] rfl)
  have L4 : ∀ (l1 : Int32), ∀ (v : Int32 × Int32) (x : Int32), loopO (X3_acrossFrom_L4 N_roadCount N_first N_second l1) v = some x → (fun z : Int32 => z = out) x → (fun (v : Int32 × Int32) => ∀ (H : Heap) (locs : List Loc) (ls : Array Slot), WI D A s.heap (wN cI cJ cZ n0 n1 n2 n3 n4 n5 n6 N_postCount N_roadCount N_first N_second N_number N_allowed N_at N_beside) H locs → lv_has ls 4 [(0, .ref n0), (1, .int l1), (2, .int v.1), (3, .int v.2)] → GX3_acrossFrom p l e s m below meth c D cI cJ cZ n0 n1 n2 n3 n4 n5 n6 N_postCount N_roadCount N_first N_second N_number N_allowed N_at N_beside a1 out H locs (F0 m 4 ls [])) v := by
    intro l1
    refine loopO_ind (fun (v : Int32 × Int32) => ∀ (H : Heap) (locs : List Loc) (ls : Array Slot), WI D A s.heap (wN cI cJ cZ n0 n1 n2 n3 n4 n5 n6 N_postCount N_roadCount N_first N_second N_number N_allowed N_at N_beside) H locs → lv_has ls 4 [(0, .ref n0), (1, .int l1), (2, .int v.1), (3, .int v.2)] → GX3_acrossFrom p l e s m below meth c D cI cJ cZ n0 n1 n2 n3 n4 n5 n6 N_postCount N_roadCount N_first N_second N_number N_allowed N_at N_beside a1 out H locs (F0 m 4 ls [])) (fun z : Int32 => z = out) ?_
    intro v x hf hM H locs ls hI hl
    refine lv_iload_n hx hb dX3_acrossFrom_4 rfl (lv_at hl 3 rfl) ?_
    refine lv_aload_n hx hb dX3_acrossFrom_5 rfl (lv_at hl 0 rfl) ?_
    refine w_get hx hb hg hown hK hI iX3 0 rfl rfl 1 (by decide) wF_RX3_34 rfl dX3_acrossFrom_6 ?_
    refine lv_icmp_ge (tgt := 66) hx hb dX3_acrossFrom_9 (by decide) (fun hc => ?_) (fun hc => ?_)
    · replace hf := ite_t hc hf
      refine lv_iload_n hx hb dX3_acrossFrom_66 rfl (lv_at hl 2 rfl) ?_
      replace hf := Option.some.inj hf
      subst hf
      replace hM : v.1 = out := hM
      subst hM
      exact rt_i (u := ()) hx hb hr hlocks rfl hI hAe rfl dX3_acrossFrom_67
    · replace hf := ite_f hc hf
      refine lv_iload_n hx hb dX3_acrossFrom_12 rfl (lv_at hl 1 rfl) ?_
      refine lv_aload_n hx hb dX3_acrossFrom_13 rfl (lv_at hl 0 rfl) ?_
      refine w_get hx hb hg hown hK hI iX3 0 rfl rfl 2 (by decide) wF_RX3_9 rfl dX3_acrossFrom_14 ?_
      refine lv_iload_n hx hb dX3_acrossFrom_17 rfl (lv_at hl 3 rfl) ?_
      obtain ⟨hin, hf⟩ := rd_e hf
      refine w_iald hx hb hK hI 1 rfl hin dX3_acrossFrom_18 (fun x1 ex1 => ?_)
      replace hf := hf x1 ex1
      obtain ⟨x2, hx2, hf⟩ := bd_e hf
      refine w_N (rest := []) hx hb hml hg hown hK (kX7_isIn l D cI cJ cZ l1 x1 x2 hx2) ksX7_isIn (List.mem_of_getElem? (i := 3) rfl) ⟨Nat.le_of_ble_eq_true rfl, Nat.le_of_ble_eq_true rfl⟩ ⟨rfl, rfl⟩ rfl rfl hl.1 (Nat.le_of_ble_eq_true rfl) dX3_acrossFrom_19 ⟨Nat.zero_le _, Nat.zero_le _⟩ ?_
      refine lv_if_eq (tgt := 36) hx hb dX3_acrossFrom_22 (by decide) (fun hc => ?_) (fun hc => ?_)
      · replace hf := ite_t hc hf
        exact J36 l1 v.1 v.2 _ hf hM _ _ _ hI (lv_sub hl [0, 1, 2, 3] rfl)
      · replace hf := ite_f hc hf
        refine lv_iload_n hx hb dX3_acrossFrom_25 rfl (lv_at hl 2 rfl) ?_
        refine lv_iconst (v := 1) hx hb dX3_acrossFrom_26 (by decide) ?_
        refine lv_aload_n hx hb dX3_acrossFrom_27 rfl (lv_at hl 0 rfl) ?_
        refine w_get hx hb hg hown hK hI iX3 0 rfl rfl 3 (by decide) wF_RX3_15 rfl dX3_acrossFrom_28 ?_
        refine lv_iload_n hx hb dX3_acrossFrom_31 rfl (lv_at hl 3 rfl) ?_
        obtain ⟨hin, hf⟩ := rd_e hf
        refine w_iald hx hb hK hI 2 rfl hin dX3_acrossFrom_32 (fun x9 ex9 => ?_)
        replace hf := hf x9 ex9
        refine lv_ishl hx hb dX3_acrossFrom_33 ?_
        refine lv_ior hx hb dX3_acrossFrom_34 ?_
        refine lv_topi (fun x10 ex10 => ?_)
        replace hf := bnd_e hf x10 ex10
        refine lv_istore_n (lv' := [(2, .int x10), (0, .ref n0), (1, .int l1), (3, .int v.2)]) hx hb dX3_acrossFrom_35 rfl hl (by decide) rfl (fun ls hl => ?_)
        exact J36 l1 x10 v.2 _ hf hM _ _ _ hI (lv_sub hl [1, 2, 0, 3] rfl)
  obtain ⟨x, hf, hM⟩ : ∃ x, FX3_acrossFrom N_roadCount N_first N_second a1 = some x ∧ x = out := ⟨out, hf, rfl⟩
  refine lv_iconst (v := 0) hx hb dX3_acrossFrom_0 (by decide) ?_
  refine lv_istore_n (lv' := [(2, .int (0 : Int32)), (0, .ref n0), (1, .int a1)]) hx hb dX3_acrossFrom_1 rfl hl (by decide) rfl (fun ls hl => ?_)
  refine lv_iconst (v := 0) hx hb dX3_acrossFrom_2 (by decide) ?_
  refine lv_istore_n (lv' := [(3, .int (0 : Int32)), (2, .int (0 : Int32)), (0, .ref n0), (1, .int a1)]) hx hb dX3_acrossFrom_3 rfl hl (by decide) rfl (fun ls hl => ?_)
  exact L4 a1 ((0 : Int32), (0 : Int32)) _ hf hM _ _ _ hI (lv_sub hl [2, 3, 1, 0] rfl)
noncomputable def X3_isInTwoHeaps_J84 (l1 : Int32) (l2 : Int32) : Option (Int32) :=
  if (l1 &&& l2) = (0 : Int32) then (some (1 : Int32)) else (some (0 : Int32))
noncomputable def X3_isInTwoHeaps_L33 (N_postCount : Int32) (N_roadCount : Int32) (N_first : Nat → Int32) (N_second : Nat → Int32) (l3 : Int32) (v : Int32 × Int32 × Int32) : Option ((Int32 × Int32 × Int32) ⊕ ((Int32 × Int32 × Int32) ⊕ (Int32))) :=
  if (12 : Int32) ≤ v.2.2 then (bnd (l3 + (1 : Int32)) (fun x2 => some (.inr (.inl (v.1, v.2.1, x2))))) else (bnd (v.1 ||| v.2.1) (fun x3 => (FX3_acrossFrom N_roadCount N_first N_second v.1).bind (fun o4 => bnd (v.2.1 ||| o4) (fun x5 => (FX3_acrossFrom N_roadCount N_first N_second x5).bind (fun o6 => bnd (v.1 ||| o6) (fun x7 => if (x7 ||| x5) = x3 then (bnd (l3 + (1 : Int32)) (fun x9 => some (.inr (.inl (x7, x5, x9))))) else (bnd (v.2.2 + (1 : Int32)) (fun x8 => some (.inl (x7, x5, x8))))))))))
noncomputable def X3_isInTwoHeaps_L6 (N_postCount : Int32) (N_roadCount : Int32) (N_first : Nat → Int32) (N_second : Nat → Int32) (v : Int32 × Int32 × Int32) : Option ((Int32 × Int32 × Int32) ⊕ (Int32)) :=
  if N_postCount ≤ v.2.2 then ((X3_isInTwoHeaps_J84 v.1 v.2.1).map (fun z => (.inr z))) else ((FX7_isIn (v.1 ||| v.2.1) v.2.2).bind (fun x1 => if x1 = (0 : Int32) then (bnd (v.1 ||| ((1 : Int32) <<< (v.2.2 &&& (31 : Int32)))) (fun x10 => loopO (X3_isInTwoHeaps_L33 N_postCount N_roadCount N_first N_second v.2.2) (x10, v.2.1, (0 : Int32)))) else (loopO (X3_isInTwoHeaps_L33 N_postCount N_roadCount N_first N_second v.2.2) (v.1, v.2.1, (0 : Int32)))))
noncomputable def FX3_isInTwoHeaps (N_postCount : Int32) (N_roadCount : Int32) (N_first : Nat → Int32) (N_second : Nat → Int32)  : Option (Int32) :=
  loopO (X3_isInTwoHeaps_L6 N_postCount N_roadCount N_first N_second) ((0 : Int32), (0 : Int32), (0 : Int32))
abbrev GX3_isInTwoHeaps (p : Program) (l : Launch) (e : Env) (s : State) (m : MethodId) (below : List Frame) (meth : Method) (c : Code) (D : va_G) (cI cJ cZ : ClassId) (n0 n1 n2 n3 n4 n5 n6 : Nat) (N_postCount : Int32) (N_roadCount : Int32) (N_first : Nat → Int32) (N_second : Nat → Int32) (N_number : Nat → Int32) (N_allowed : Nat → Int32) (N_at : Nat → Int32) (N_beside : Nat → Int32)  (out : Int32) (H : Heap) (locs : List Loc) (g : JFrame) : Prop := W p l e (headSpec (Cond.code yX3_isInTwoHeaps cX3_isInTwoHeaps 6 (some .boolean) :: GW) { frames := 2, cells := 0, slots := 0, locals := 44 }).room s m ([.ref n0] : List Value).toArray below meth c H locs 0 0 (MQ below (va_Qi (fun r (_ : Unit) => r = out) (BW D (wN cI cJ cZ n0 n1 n2 n3 n4 n5 n6 N_postCount N_roadCount N_first N_second N_number N_allowed N_at N_beside) s.heap.size (fun _ => (wN cI cJ cZ n0 n1 n2 n3 n4 n5 n6 N_postCount N_roadCount N_first N_second N_number N_allowed N_at N_beside))) (va_A (wN cI cJ cZ n0 n1 n2 n3 n4 n5 n6 N_postCount N_roadCount N_first N_second N_number N_allowed N_at N_beside) s.heap.size)) ([.ref n0] : List Value).toArray s 0 0 (va_A (wN cI cJ cZ n0 n1 n2 n3 n4 n5 n6 N_postCount N_roadCount N_first N_second N_number N_allowed N_at N_beside) s.heap.size)) g
theorem kvX3_isInTwoHeaps : CalV RX3 yX3_isInTwoHeaps cX3_isInTwoHeaps 6 (some .boolean) 0 := ⟨wC_yX3_isInTwoHeaps, wM_yX3_isInTwoHeaps, wS_yX3_isInTwoHeaps, wI_RX3, by decide +kernel⟩
set_option maxHeartbeats 4000000 in
set_option maxRecDepth 100000 in
theorem kX3_isInTwoHeaps (l : Launch) (D : va_G) (cI cJ cZ : ClassId) (n0 n1 n2 n3 n4 n5 n6 : Nat) (N_postCount : Int32) (N_roadCount : Int32) (N_first : Nat → Int32) (N_second : Nat → Int32) (N_number : Nat → Int32) (N_allowed : Nat → Int32) (N_at : Nat → Int32) (N_beside : Nat → Int32)  (out : Int32) (hf : FX3_isInTwoHeaps N_postCount N_roadCount N_first N_second = some out) : MI l yX3_isInTwoHeaps (Cond.code yX3_isInTwoHeaps cX3_isInTwoHeaps 6 (some .boolean) :: GW) { frames := 2, cells := 0, slots := 0, locals := 44 } D cI cJ cZ [.ref n0] (wN cI cJ cZ n0 n1 n2 n3 n4 n5 n6 N_postCount N_roadCount N_first N_second N_number N_allowed N_at N_beside) (fun r (_ : Unit) => r = out) (fun _ => (wN cI cJ cZ n0 n1 n2 n3 n4 n5 n6 N_postCount N_roadCount N_first N_second N_number N_allowed N_at N_beside)) := by
  intro sz
  refine Met.ofW (cc := cX3_isInTwoHeaps) (maxL := 6) (ret := (some .boolean)) (by decide +kernel) rfl ?_
  intro p e s m args below meth c s₁ B hml hv
  obtain ⟨rfl, hsz, hP, hK, hD0⟩ := hv
  have hx := B.exec
  have hb := B.bytes
  have hr := B.returns
  have hlocks := B.notSynchronized
  have hg : ∀ w ∈ GW, w.before _ s = true := fun w h => atoms_spec (ws := Cond.code yX3_isInTwoHeaps cX3_isInTwoHeaps 6 (some .boolean) :: GW) B.pre w (List.mem_cons_of_mem _ h)
  have hown : s.vm.findClass RX3 = some m.cls := findClass_of_methodNamed B.named
  subst hsz
  obtain ⟨A, hAe⟩ : ∃ A, A = va_A (wN cI cJ cZ n0 n1 n2 n3 n4 n5 n6 N_postCount N_roadCount N_first N_second N_number N_allowed N_at N_beside) s.heap.size := ⟨_, rfl⟩
  have hA : ∀ q : Nat, s.heap.size ≤ q → A q := fun q h => by rw [hAe]; exact Or.inr h
  have hI : WI D A s.heap (wN cI cJ cZ n0 n1 n2 n3 n4 n5 n6 N_postCount N_roadCount N_first N_second N_number N_allowed N_at N_beside) s.heap [] := ⟨hP, by rw [hAe]; exact hD0.self, va_S.rf⟩
  have hl := lv_entry [.ref n0] (n := 6) (Nat.le_of_ble_eq_true rfl)
  rw [lg_entry_eq]
  generalize (lg_sl [.ref n0] ++ List.replicate (6 - (lg_sl [.ref n0]).length) Slot.unset).toArray = ls at hl ⊢
  replace hl : lv_has ls 6 [(0, .ref n0)] := hl
  have J84 : ∀ (l1 : Int32) (l2 : Int32) (x : Int32), X3_isInTwoHeaps_J84 l1 l2 = some x → (fun z : Int32 => z = out) x → ∀ (H : Heap) (locs : List Loc) (ls : Array Slot), WI D A s.heap (wN cI cJ cZ n0 n1 n2 n3 n4 n5 n6 N_postCount N_roadCount N_first N_second N_number N_allowed N_at N_beside) H locs → lv_has ls 6 [(1, .int l1), (2, .int l2)] → GX3_isInTwoHeaps p l e s m below meth c D cI cJ cZ n0 n1 n2 n3 n4 n5 n6 N_postCount N_roadCount N_first N_second N_number N_allowed N_at N_beside  out H locs (F0 m 84 ls []) := by
    intro l1 l2 x hf hM H locs ls hI hl
    refine lv_iload_n hx hb dX3_isInTwoHeaps_84 rfl (lv_at hl 0 rfl) ?_
    refine lv_iload_n hx hb dX3_isInTwoHeaps_85 rfl (lv_at hl 1 rfl) ?_
    refine lv_iand hx hb dX3_isInTwoHeaps_86 ?_
    refine lv_if_ne (tgt := 94) hx hb dX3_isInTwoHeaps_87 (by decide) (fun hc => ?_) (fun hc => ?_)
    · replace hf := ite_f hc hf
      refine lv_iconst (v := 0) hx hb dX3_isInTwoHeaps_94 (by decide) ?_
      replace hf := Option.some.inj hf
      subst hf
      replace hM : (0 : Int32) = out := hM
      subst hM
      exact rt_i (u := ()) hx hb hr hlocks (by decide) hI hAe rfl dX3_isInTwoHeaps_95
    · replace hf := ite_t hc hf
      refine lv_iconst (v := 1) hx hb dX3_isInTwoHeaps_90 (by decide) ?_
      refine lv_goto (tgt := 95) hx hb dX3_isInTwoHeaps_91 (by decide) ?_
      replace hf := Option.some.inj hf
      subst hf
      replace hM : (1 : Int32) = out := hM
      subst hM
      exact rt_i (u := ()) hx hb hr hlocks (by decide) hI hAe rfl dX3_isInTwoHeaps_95
  have L33 : ∀ (l3 : Int32), ∀ (v : Int32 × Int32 × Int32) (x : (Int32 × Int32 × Int32) ⊕ (Int32)), loopO (X3_isInTwoHeaps_L33 N_postCount N_roadCount N_first N_second l3) v = some x → (fun z => Sum.elim (fun (v1 : Int32 × Int32 × Int32) => ∀ (H : Heap) (locs : List Loc) (ls : Array Slot), WI D A s.heap (wN cI cJ cZ n0 n1 n2 n3 n4 n5 n6 N_postCount N_roadCount N_first N_second N_number N_allowed N_at N_beside) H locs → lv_has ls 6 [(0, .ref n0), (1, .int v1.1), (2, .int v1.2.1), (3, .int v1.2.2)] → GX3_isInTwoHeaps p l e s m below meth c D cI cJ cZ n0 n1 n2 n3 n4 n5 n6 N_postCount N_roadCount N_first N_second N_number N_allowed N_at N_beside  out H locs (F0 m 6 ls [])) (fun z : Int32 => z = out) z) x → (fun (v : Int32 × Int32 × Int32) => ∀ (H : Heap) (locs : List Loc) (ls : Array Slot), WI D A s.heap (wN cI cJ cZ n0 n1 n2 n3 n4 n5 n6 N_postCount N_roadCount N_first N_second N_number N_allowed N_at N_beside) H locs → lv_has ls 6 [(0, .ref n0), (1, .int v.1), (2, .int v.2.1), (3, .int l3), (4, .int v.2.2)] → GX3_isInTwoHeaps p l e s m below meth c D cI cJ cZ n0 n1 n2 n3 n4 n5 n6 N_postCount N_roadCount N_first N_second N_number N_allowed N_at N_beside  out H locs (F0 m 33 ls [])) v := by
    intro l3
    refine loopO_ind (fun (v : Int32 × Int32 × Int32) => ∀ (H : Heap) (locs : List Loc) (ls : Array Slot), WI D A s.heap (wN cI cJ cZ n0 n1 n2 n3 n4 n5 n6 N_postCount N_roadCount N_first N_second N_number N_allowed N_at N_beside) H locs → lv_has ls 6 [(0, .ref n0), (1, .int v.1), (2, .int v.2.1), (3, .int l3), (4, .int v.2.2)] → GX3_isInTwoHeaps p l e s m below meth c D cI cJ cZ n0 n1 n2 n3 n4 n5 n6 N_postCount N_roadCount N_first N_second N_number N_allowed N_at N_beside  out H locs (F0 m 33 ls [])) (fun z => Sum.elim (fun (v1 : Int32 × Int32 × Int32) => ∀ (H : Heap) (locs : List Loc) (ls : Array Slot), WI D A s.heap (wN cI cJ cZ n0 n1 n2 n3 n4 n5 n6 N_postCount N_roadCount N_first N_second N_number N_allowed N_at N_beside) H locs → lv_has ls 6 [(0, .ref n0), (1, .int v1.1), (2, .int v1.2.1), (3, .int v1.2.2)] → GX3_isInTwoHeaps p l e s m below meth c D cI cJ cZ n0 n1 n2 n3 n4 n5 n6 N_postCount N_roadCount N_first N_second N_number N_allowed N_at N_beside  out H locs (F0 m 6 ls [])) (fun z : Int32 => z = out) z) ?_
    intro v x hf hM H locs ls hI hl
    refine lv_iload hx hb dX3_isInTwoHeaps_33 (lv_at hl 4 rfl) ?_
    refine lv_bipush (v := 12) hx hb dX3_isInTwoHeaps_35 (by decide) ?_
    refine lv_icmp_ge (tgt := 78) hx hb dX3_isInTwoHeaps_37 (by decide) (fun hc => ?_) (fun hc => ?_)
    · replace hf := ite_t hc hf
      obtain ⟨x2, ex2⟩ : ∃ y : Int32, y = (l3 + (1 : Int32)) := ⟨_, rfl⟩
      replace hf := bnd_e hf x2 ex2
      refine lv_iinc (v := x2) (lv' := [(3, .int x2), (0, .ref n0), (1, .int v.1), (2, .int v.2.1), (4, .int v.2.2)]) hx hb dX3_isInTwoHeaps_78 hl (k := 3) rfl (by rw [ex2]; rfl) (by decide) rfl (fun ls hl => ?_)
      refine lv_goto (tgt := 6) hx hb dX3_isInTwoHeaps_81 (by decide) ?_
      replace hf := Option.some.inj hf
      subst hf
      exact hM _ _ _ hI (lv_sub hl [1, 2, 3, 0] rfl)
    · replace hf := ite_f hc hf
      refine lv_iload_n hx hb dX3_isInTwoHeaps_40 rfl (lv_at hl 1 rfl) ?_
      refine lv_iload_n hx hb dX3_isInTwoHeaps_41 rfl (lv_at hl 2 rfl) ?_
      refine lv_ior hx hb dX3_isInTwoHeaps_42 ?_
      refine lv_topi (fun x3 ex3 => ?_)
      replace hf := bnd_e hf x3 ex3
      refine lv_istore (lv' := [(5, .int x3), (0, .ref n0), (1, .int v.1), (2, .int v.2.1), (3, .int l3), (4, .int v.2.2)]) hx hb dX3_isInTwoHeaps_43 hl (by decide) rfl (fun ls hl => ?_)
      refine lv_iload_n hx hb dX3_isInTwoHeaps_45 rfl (lv_at hl 3 rfl) ?_
      refine lv_aload_n hx hb dX3_isInTwoHeaps_46 rfl (lv_at hl 1 rfl) ?_
      refine lv_iload_n hx hb dX3_isInTwoHeaps_47 rfl (lv_at hl 2 rfl) ?_
      obtain ⟨o4, ho4, hf⟩ := bd_e hf
      refine w_Vi0 (wc := (wN cI cJ cZ n0 n1 n2 n3 n4 n5 n6 N_postCount N_roadCount N_first N_second N_number N_allowed N_at N_beside)) (wr := []) (rest := [.int v.2.1]) hx hb hml hg hown hK hA hI (kX3_acrossFrom l D cI cJ cZ n0 n1 n2 n3 n4 n5 n6 N_postCount N_roadCount N_first N_second N_number N_allowed N_at N_beside v.1 o4 ho4) kvX3_acrossFrom wL_RX3_70 ⟨Nat.le_of_ble_eq_true rfl, Nat.le_of_ble_eq_true rfl⟩ rfl rfl [0, 1, 2, 3, 4, 5, 6] [] rfl rfl rfl rfl (by decide) rfl rfl hl.1 (Nat.le_of_ble_eq_true rfl) dX3_isInTwoHeaps_48 ⟨Nat.zero_le _, Nat.zero_le _⟩ ⟨rfl, rfl⟩ (fun r u H locs hp hI => ?_)
      replace hp : r = o4 := hp
      rw [hp]
      clear hp
      replace hI : WI D A s.heap (wN cI cJ cZ n0 n1 n2 n3 n4 n5 n6 N_postCount N_roadCount N_first N_second N_number N_allowed N_at N_beside) H locs := hI
      refine lv_ior hx hb dX3_isInTwoHeaps_51 ?_
      refine lv_topi (fun x5 ex5 => ?_)
      replace hf := bnd_e hf x5 ex5
      refine lv_istore_n (lv' := [(2, .int x5), (5, .int x3), (0, .ref n0), (1, .int v.1), (3, .int l3), (4, .int v.2.2)]) hx hb dX3_isInTwoHeaps_52 rfl hl (by decide) rfl (fun ls hl => ?_)
      refine lv_iload_n hx hb dX3_isInTwoHeaps_53 rfl (lv_at hl 3 rfl) ?_
      refine lv_aload_n hx hb dX3_isInTwoHeaps_54 rfl (lv_at hl 2 rfl) ?_
      refine lv_iload_n hx hb dX3_isInTwoHeaps_55 rfl (lv_at hl 0 rfl) ?_
      obtain ⟨o6, ho6, hf⟩ := bd_e hf
      refine w_Vi0 (wc := (wN cI cJ cZ n0 n1 n2 n3 n4 n5 n6 N_postCount N_roadCount N_first N_second N_number N_allowed N_at N_beside)) (wr := []) (rest := [.int v.1]) hx hb hml hg hown hK hA hI (kX3_acrossFrom l D cI cJ cZ n0 n1 n2 n3 n4 n5 n6 N_postCount N_roadCount N_first N_second N_number N_allowed N_at N_beside x5 o6 ho6) kvX3_acrossFrom wL_RX3_70 ⟨Nat.le_of_ble_eq_true rfl, Nat.le_of_ble_eq_true rfl⟩ rfl rfl [0, 1, 2, 3, 4, 5, 6] [] rfl rfl rfl rfl (by decide) rfl rfl hl.1 (Nat.le_of_ble_eq_true rfl) dX3_isInTwoHeaps_56 ⟨Nat.zero_le _, Nat.zero_le _⟩ ⟨rfl, rfl⟩ (fun r u H locs hp hI => ?_)
      replace hp : r = o6 := hp
      rw [hp]
      clear hp
      replace hI : WI D A s.heap (wN cI cJ cZ n0 n1 n2 n3 n4 n5 n6 N_postCount N_roadCount N_first N_second N_number N_allowed N_at N_beside) H locs := hI
      refine lv_ior hx hb dX3_isInTwoHeaps_59 ?_
      refine lv_topi (fun x7 ex7 => ?_)
      replace hf := bnd_e hf x7 ex7
      refine lv_istore_n (lv' := [(1, .int x7), (2, .int x5), (5, .int x3), (0, .ref n0), (3, .int l3), (4, .int v.2.2)]) hx hb dX3_isInTwoHeaps_60 rfl hl (by decide) rfl (fun ls hl => ?_)
      refine lv_iload_n hx hb dX3_isInTwoHeaps_61 rfl (lv_at hl 0 rfl) ?_
      refine lv_iload_n hx hb dX3_isInTwoHeaps_62 rfl (lv_at hl 1 rfl) ?_
      refine lv_ior hx hb dX3_isInTwoHeaps_63 ?_
      refine lv_iload hx hb dX3_isInTwoHeaps_64 (lv_at hl 2 rfl) ?_
      refine lv_icmp_ne (tgt := 72) hx hb dX3_isInTwoHeaps_66 (by decide) (fun hc => ?_) (fun hc => ?_)
      · replace hf := ite_f hc hf
        obtain ⟨x8, ex8⟩ : ∃ y : Int32, y = (v.2.2 + (1 : Int32)) := ⟨_, rfl⟩
        replace hf := bnd_e hf x8 ex8
        refine lv_iinc (v := x8) (lv' := [(4, .int x8), (1, .int x7), (2, .int x5), (5, .int x3), (0, .ref n0), (3, .int l3)]) hx hb dX3_isInTwoHeaps_72 hl (k := 5) rfl (by rw [ex8]; rfl) (by decide) rfl (fun ls hl => ?_)
        refine lv_goto (tgt := 33) hx hb dX3_isInTwoHeaps_75 (by decide) ?_
        replace hf := Option.some.inj hf
        subst hf
        exact hM _ _ _ hI (lv_sub hl [4, 1, 2, 5, 0] rfl)
      · replace hf := ite_t hc hf
        refine lv_goto (tgt := 78) hx hb dX3_isInTwoHeaps_69 (by decide) ?_
        obtain ⟨x9, ex9⟩ : ∃ y : Int32, y = (l3 + (1 : Int32)) := ⟨_, rfl⟩
        replace hf := bnd_e hf x9 ex9
        refine lv_iinc (v := x9) (lv' := [(3, .int x9), (1, .int x7), (2, .int x5), (5, .int x3), (0, .ref n0), (4, .int v.2.2)]) hx hb dX3_isInTwoHeaps_78 hl (k := 4) rfl (by rw [ex9]; rfl) (by decide) rfl (fun ls hl => ?_)
        refine lv_goto (tgt := 6) hx hb dX3_isInTwoHeaps_81 (by decide) ?_
        replace hf := Option.some.inj hf
        subst hf
        exact hM _ _ _ hI (lv_sub hl [4, 1, 2, 0] rfl)
  have L6 : ∀ (v : Int32 × Int32 × Int32) (x : Int32), loopO (X3_isInTwoHeaps_L6 N_postCount N_roadCount N_first N_second) v = some x → (fun z : Int32 => z = out) x → (fun (v : Int32 × Int32 × Int32) => ∀ (H : Heap) (locs : List Loc) (ls : Array Slot), WI D A s.heap (wN cI cJ cZ n0 n1 n2 n3 n4 n5 n6 N_postCount N_roadCount N_first N_second N_number N_allowed N_at N_beside) H locs → lv_has ls 6 [(0, .ref n0), (1, .int v.1), (2, .int v.2.1), (3, .int v.2.2)] → GX3_isInTwoHeaps p l e s m below meth c D cI cJ cZ n0 n1 n2 n3 n4 n5 n6 N_postCount N_roadCount N_first N_second N_number N_allowed N_at N_beside  out H locs (F0 m 6 ls [])) v := by
    refine loopO_ind (fun (v : Int32 × Int32 × Int32) => ∀ (H : Heap) (locs : List Loc) (ls : Array Slot), WI D A s.heap (wN cI cJ cZ n0 n1 n2 n3 n4 n5 n6 N_postCount N_roadCount N_first N_second N_number N_allowed N_at N_beside) H locs → lv_has ls 6 [(0, .ref n0), (1, .int v.1), (2, .int v.2.1), (3, .int v.2.2)] → GX3_isInTwoHeaps p l e s m below meth c D cI cJ cZ n0 n1 n2 n3 n4 n5 n6 N_postCount N_roadCount N_first N_second N_number N_allowed N_at N_beside  out H locs (F0 m 6 ls [])) (fun z : Int32 => z = out) ?_
    intro v x hf hM H locs ls hI hl
    refine lv_iload_n hx hb dX3_isInTwoHeaps_6 rfl (lv_at hl 3 rfl) ?_
    refine lv_aload_n hx hb dX3_isInTwoHeaps_7 rfl (lv_at hl 0 rfl) ?_
    refine w_get hx hb hg hown hK hI iX3 0 rfl rfl 0 (by decide) wF_RX3_30 rfl dX3_isInTwoHeaps_8 ?_
    refine lv_icmp_ge (tgt := 84) hx hb dX3_isInTwoHeaps_11 (by decide) (fun hc => ?_) (fun hc => ?_)
    · replace hf := ite_t hc hf
      obtain ⟨z, hf2, ez⟩ := mp_e hf
      clear hf
      subst ez
      exact J84 v.1 v.2.1 _ hf2 hM _ _ _ hI (lv_sub hl [1, 2] rfl)
    · replace hf := ite_f hc hf
      refine lv_iload_n hx hb dX3_isInTwoHeaps_14 rfl (lv_at hl 1 rfl) ?_
      refine lv_iload_n hx hb dX3_isInTwoHeaps_15 rfl (lv_at hl 2 rfl) ?_
      refine lv_ior hx hb dX3_isInTwoHeaps_16 ?_
      refine lv_iload_n hx hb dX3_isInTwoHeaps_17 rfl (lv_at hl 3 rfl) ?_
      obtain ⟨x1, hx1, hf⟩ := bd_e hf
      refine w_N (rest := []) hx hb hml hg hown hK (kX7_isIn l D cI cJ cZ (v.1 ||| v.2.1) v.2.2 x1 hx1) ksX7_isIn (List.mem_of_getElem? (i := 3) rfl) ⟨Nat.le_of_ble_eq_true rfl, Nat.le_of_ble_eq_true rfl⟩ ⟨rfl, rfl⟩ rfl rfl hl.1 (Nat.le_of_ble_eq_true rfl) dX3_isInTwoHeaps_18 ⟨Nat.zero_le _, Nat.zero_le _⟩ ?_
      refine lv_if_ne (tgt := 30) hx hb dX3_isInTwoHeaps_21 (by decide) (fun hc => ?_) (fun hc => ?_)
      · replace hf := ite_f hc hf
        refine lv_iconst (v := 0) hx hb dX3_isInTwoHeaps_30 (by decide) ?_
        refine lv_istore (lv' := [(4, .int (0 : Int32)), (0, .ref n0), (1, .int v.1), (2, .int v.2.1), (3, .int v.2.2)]) hx hb dX3_isInTwoHeaps_31 hl (by decide) rfl (fun ls hl => ?_)
        exact L33 v.2.2 (v.1, v.2.1, (0 : Int32)) _ hf hM _ _ _ hI (lv_sub hl [1, 2, 3, 4, 0] rfl)
      · replace hf := ite_t hc hf
        refine lv_iload_n hx hb dX3_isInTwoHeaps_24 rfl (lv_at hl 1 rfl) ?_
        refine lv_iconst (v := 1) hx hb dX3_isInTwoHeaps_25 (by decide) ?_
        refine lv_iload_n hx hb dX3_isInTwoHeaps_26 rfl (lv_at hl 3 rfl) ?_
        refine lv_ishl hx hb dX3_isInTwoHeaps_27 ?_
        refine lv_ior hx hb dX3_isInTwoHeaps_28 ?_
        refine lv_topi (fun x10 ex10 => ?_)
        replace hf := bnd_e hf x10 ex10
        refine lv_istore_n (lv' := [(1, .int x10), (0, .ref n0), (2, .int v.2.1), (3, .int v.2.2)]) hx hb dX3_isInTwoHeaps_29 rfl hl (by decide) rfl (fun ls hl => ?_)
        refine lv_iconst (v := 0) hx hb dX3_isInTwoHeaps_30 (by decide) ?_
        refine lv_istore (lv' := [(4, .int (0 : Int32)), (1, .int x10), (0, .ref n0), (2, .int v.2.1), (3, .int v.2.2)]) hx hb dX3_isInTwoHeaps_31 hl (by decide) rfl (fun ls hl => ?_)
        exact L33 v.2.2 (x10, v.2.1, (0 : Int32)) _ hf hM _ _ _ hI (lv_sub hl [2, 1, 3, 4, 0] rfl)
  obtain ⟨x, hf, hM⟩ : ∃ x, FX3_isInTwoHeaps N_postCount N_roadCount N_first N_second = some x ∧ x = out := ⟨out, hf, rfl⟩
  refine lv_iconst (v := 0) hx hb dX3_isInTwoHeaps_0 (by decide) ?_
  refine lv_istore_n (lv' := [(1, .int (0 : Int32)), (0, .ref n0)]) hx hb dX3_isInTwoHeaps_1 rfl hl (by decide) rfl (fun ls hl => ?_)
  refine lv_iconst (v := 0) hx hb dX3_isInTwoHeaps_2 (by decide) ?_
  refine lv_istore_n (lv' := [(2, .int (0 : Int32)), (1, .int (0 : Int32)), (0, .ref n0)]) hx hb dX3_isInTwoHeaps_3 rfl hl (by decide) rfl (fun ls hl => ?_)
  refine lv_iconst (v := 0) hx hb dX3_isInTwoHeaps_4 (by decide) ?_
  refine lv_istore_n (lv' := [(3, .int (0 : Int32)), (2, .int (0 : Int32)), (1, .int (0 : Int32)), (0, .ref n0)]) hx hb dX3_isInTwoHeaps_5 rfl hl (by decide) rfl (fun ls hl => ?_)
  exact L6  ((0 : Int32), (0 : Int32), (0 : Int32)) _ hf hM _ _ _ hI (lv_sub hl [3, 2, 1, 0] rfl)
noncomputable def FX3_numberInTwoHeaps (N_roadCount : Int32) (N_first : Nat → Int32) (N_second : Nat → Int32) (N_number_0 : Nat → Int32) (N_at : Nat → Int32) (N_beside : Nat → Int32) (a1 : Int32) (a2 : Int32) : Option (Int32 × (Nat → Int32)) :=
  rd N_first 24 a1 (fun x1 => (FX3_numbersAt N_roadCount N_number_0 N_at x1).bind (fun o2 => rd N_second 24 a1 (fun x3 => (FX3_numbersAt N_roadCount N_number_0 N_at x3).bind (fun o4 => (FX7_leastOutside (o2 ||| o4)).bind (fun x5 => if a2 ≤ x5 then ((FX7_leastOutside o2).bind (fun x6 => (FX7_leastOutside o4).bind (fun x7 => rd N_second 24 a1 (fun x8 => (FX3_roadWith N_roadCount N_number_0 N_at x8 x6).bind (fun o9 => if o9 = (-1 : Int32) then (some (x6, N_number_0)) else ((FX3_chainOf N_roadCount N_number_0 N_beside o9 x6 x7).bind (fun o10 => (FX3_exchange N_roadCount N_number_0 o10 x6 x7).bind (fun o11 => some (x6, o11))))))))) else (some (x5, N_number_0)))))))
abbrev GX3_numberInTwoHeaps (p : Program) (l : Launch) (e : Env) (s : State) (m : MethodId) (below : List Frame) (meth : Method) (c : Code) (D : va_G) (cI cJ cZ : ClassId) (n0 n1 n2 n3 n4 n5 n6 : Nat) (N_postCount : Int32) (N_roadCount : Int32) (N_first : Nat → Int32) (N_second : Nat → Int32) (N_number_0 : Nat → Int32) (N_allowed : Nat → Int32) (N_at : Nat → Int32) (N_beside : Nat → Int32) (a1 : Int32) (a2 : Int32) (out : Int32 × (Nat → Int32)) (H : Heap) (locs : List Loc) (g : JFrame) : Prop := W p l e (headSpec (Cond.code yX3_numberInTwoHeaps cX3_numberInTwoHeaps 9 (some .int) :: GW) { frames := 3, cells := 0, slots := 0, locals := 71 }).room s m ([.ref n0, .int a1, .int a2] : List Value).toArray below meth c H locs 0 0 (MQ below (va_Qi (fun r (_ : Unit) => r = out.1) (BW D (wN cI cJ cZ n0 n1 n2 n3 n4 n5 n6 N_postCount N_roadCount N_first N_second N_number_0 N_allowed N_at N_beside) s.heap.size (fun _ => (wN cI cJ cZ n0 n1 n2 n3 n4 n5 n6 N_postCount N_roadCount N_first N_second out.2 N_allowed N_at N_beside))) (va_A (wN cI cJ cZ n0 n1 n2 n3 n4 n5 n6 N_postCount N_roadCount N_first N_second N_number_0 N_allowed N_at N_beside) s.heap.size)) ([.ref n0, .int a1, .int a2] : List Value).toArray s 0 0 (va_A (wN cI cJ cZ n0 n1 n2 n3 n4 n5 n6 N_postCount N_roadCount N_first N_second N_number_0 N_allowed N_at N_beside) s.heap.size)) g
theorem kvX3_numberInTwoHeaps : CalV RX3 yX3_numberInTwoHeaps cX3_numberInTwoHeaps 9 (some .int) 2 := ⟨wC_yX3_numberInTwoHeaps, wM_yX3_numberInTwoHeaps, wS_yX3_numberInTwoHeaps, wI_RX3, by decide +kernel⟩
set_option maxHeartbeats 4000000 in
set_option maxRecDepth 100000 in
theorem kX3_numberInTwoHeaps (l : Launch) (D : va_G) (cI cJ cZ : ClassId) (n0 n1 n2 n3 n4 n5 n6 : Nat) (N_postCount : Int32) (N_roadCount : Int32) (N_first : Nat → Int32) (N_second : Nat → Int32) (N_number_0 : Nat → Int32) (N_allowed : Nat → Int32) (N_at : Nat → Int32) (N_beside : Nat → Int32) (a1 : Int32) (a2 : Int32) (out : Int32 × (Nat → Int32)) (hf : FX3_numberInTwoHeaps N_roadCount N_first N_second N_number_0 N_at N_beside a1 a2 = some out) : MI l yX3_numberInTwoHeaps (Cond.code yX3_numberInTwoHeaps cX3_numberInTwoHeaps 9 (some .int) :: GW) { frames := 3, cells := 0, slots := 0, locals := 71 } D cI cJ cZ [.ref n0, .int a1, .int a2] (wN cI cJ cZ n0 n1 n2 n3 n4 n5 n6 N_postCount N_roadCount N_first N_second N_number_0 N_allowed N_at N_beside) (fun r (_ : Unit) => r = out.1) (fun _ => (wN cI cJ cZ n0 n1 n2 n3 n4 n5 n6 N_postCount N_roadCount N_first N_second out.2 N_allowed N_at N_beside)) := by
  intro sz
  refine Met.ofW (cc := cX3_numberInTwoHeaps) (maxL := 9) (ret := (some .int)) (by decide +kernel) rfl ?_
  intro p e s m args below meth c s₁ B hml hv
  obtain ⟨rfl, hsz, hP, hK, hD0⟩ := hv
  have hx := B.exec
  have hb := B.bytes
  have hr := B.returns
  have hlocks := B.notSynchronized
  have hg : ∀ w ∈ GW, w.before _ s = true := fun w h => atoms_spec (ws := Cond.code yX3_numberInTwoHeaps cX3_numberInTwoHeaps 9 (some .int) :: GW) B.pre w (List.mem_cons_of_mem _ h)
  have hown : s.vm.findClass RX3 = some m.cls := findClass_of_methodNamed B.named
  subst hsz
  obtain ⟨A, hAe⟩ : ∃ A, A = va_A (wN cI cJ cZ n0 n1 n2 n3 n4 n5 n6 N_postCount N_roadCount N_first N_second N_number_0 N_allowed N_at N_beside) s.heap.size := ⟨_, rfl⟩
  have hA : ∀ q : Nat, s.heap.size ≤ q → A q := fun q h => by rw [hAe]; exact Or.inr h
  have hI : WI D A s.heap (wN cI cJ cZ n0 n1 n2 n3 n4 n5 n6 N_postCount N_roadCount N_first N_second N_number_0 N_allowed N_at N_beside) s.heap [] := ⟨hP, by rw [hAe]; exact hD0.self, va_S.rf⟩
  have hl := lv_entry [.ref n0, .int a1, .int a2] (n := 9) (Nat.le_of_ble_eq_true rfl)
  rw [lg_entry_eq]
  generalize (lg_sl [.ref n0, .int a1, .int a2] ++ List.replicate (9 - (lg_sl [.ref n0, .int a1, .int a2]).length) Slot.unset).toArray = ls at hl ⊢
  replace hl : lv_has ls 9 [(0, .ref n0), (1, .int a1), (2, .int a2)] := hl
  obtain ⟨x, hf, hM⟩ : ∃ x, FX3_numberInTwoHeaps N_roadCount N_first N_second N_number_0 N_at N_beside a1 a2 = some x ∧ x = out := ⟨out, hf, rfl⟩
  refine lv_aload_n hx hb dX3_numberInTwoHeaps_0 rfl (lv_at hl 0 rfl) ?_
  refine lv_aload_n hx hb dX3_numberInTwoHeaps_1 rfl (lv_at hl 0 rfl) ?_
  refine w_get hx hb hg hown hK hI iX3 0 rfl rfl 2 (by decide) wF_RX3_9 rfl dX3_numberInTwoHeaps_2 ?_
  refine lv_iload_n hx hb dX3_numberInTwoHeaps_5 rfl (lv_at hl 1 rfl) ?_
  obtain ⟨hin, hf⟩ := rd_e hf
  refine w_iald hx hb hK hI 1 rfl hin dX3_numberInTwoHeaps_6 (fun x1 ex1 => ?_)
  replace hf := hf x1 ex1
  obtain ⟨o2, ho2, hf⟩ := bd_e hf
  refine w_Vi0 (wc := (wN cI cJ cZ n0 n1 n2 n3 n4 n5 n6 N_postCount N_roadCount N_first N_second N_number_0 N_allowed N_at N_beside)) (wr := []) (rest := []) hx hb hml hg hown hK hA hI (kX3_numbersAt l D cI cJ cZ n0 n1 n2 n3 n4 n5 n6 N_postCount N_roadCount N_first N_second N_number_0 N_allowed N_at N_beside x1 o2 ho2) kvX3_numbersAt wL_RX3_58 ⟨Nat.le_of_ble_eq_true rfl, Nat.le_of_ble_eq_true rfl⟩ rfl rfl [0, 1, 2, 3, 4, 5, 6] [] rfl rfl rfl rfl (by decide) rfl rfl hl.1 (Nat.le_of_ble_eq_true rfl) dX3_numberInTwoHeaps_7 ⟨Nat.zero_le _, Nat.zero_le _⟩ ⟨rfl, rfl⟩ (fun r u H locs hp hI => ?_)
  replace hp : r = o2 := hp
  rw [hp]
  clear hp
  replace hI : WI D A s.heap (wN cI cJ cZ n0 n1 n2 n3 n4 n5 n6 N_postCount N_roadCount N_first N_second N_number_0 N_allowed N_at N_beside) H locs := hI
  refine lv_istore_n (lv' := [(3, .int o2), (0, .ref n0), (1, .int a1), (2, .int a2)]) hx hb dX3_numberInTwoHeaps_10 rfl hl (by decide) rfl (fun ls hl => ?_)
  refine lv_aload_n hx hb dX3_numberInTwoHeaps_11 rfl (lv_at hl 1 rfl) ?_
  refine lv_aload_n hx hb dX3_numberInTwoHeaps_12 rfl (lv_at hl 1 rfl) ?_
  refine w_get hx hb hg hown hK hI iX3 0 rfl rfl 3 (by decide) wF_RX3_15 rfl dX3_numberInTwoHeaps_13 ?_
  refine lv_iload_n hx hb dX3_numberInTwoHeaps_16 rfl (lv_at hl 2 rfl) ?_
  obtain ⟨hin, hf⟩ := rd_e hf
  refine w_iald hx hb hK hI 2 rfl hin dX3_numberInTwoHeaps_17 (fun x3 ex3 => ?_)
  replace hf := hf x3 ex3
  obtain ⟨o4, ho4, hf⟩ := bd_e hf
  refine w_Vi0 (wc := (wN cI cJ cZ n0 n1 n2 n3 n4 n5 n6 N_postCount N_roadCount N_first N_second N_number_0 N_allowed N_at N_beside)) (wr := []) (rest := []) hx hb hml hg hown hK hA hI (kX3_numbersAt l D cI cJ cZ n0 n1 n2 n3 n4 n5 n6 N_postCount N_roadCount N_first N_second N_number_0 N_allowed N_at N_beside x3 o4 ho4) kvX3_numbersAt wL_RX3_58 ⟨Nat.le_of_ble_eq_true rfl, Nat.le_of_ble_eq_true rfl⟩ rfl rfl [0, 1, 2, 3, 4, 5, 6] [] rfl rfl rfl rfl (by decide) rfl rfl hl.1 (Nat.le_of_ble_eq_true rfl) dX3_numberInTwoHeaps_18 ⟨Nat.zero_le _, Nat.zero_le _⟩ ⟨rfl, rfl⟩ (fun r u H locs hp hI => ?_)
  replace hp : r = o4 := hp
  rw [hp]
  clear hp
  replace hI : WI D A s.heap (wN cI cJ cZ n0 n1 n2 n3 n4 n5 n6 N_postCount N_roadCount N_first N_second N_number_0 N_allowed N_at N_beside) H locs := hI
  refine lv_istore (lv' := [(4, .int o4), (3, .int o2), (0, .ref n0), (1, .int a1), (2, .int a2)]) hx hb dX3_numberInTwoHeaps_21 hl (by decide) rfl (fun ls hl => ?_)
  refine lv_iload_n hx hb dX3_numberInTwoHeaps_23 rfl (lv_at hl 1 rfl) ?_
  refine lv_iload hx hb dX3_numberInTwoHeaps_24 (lv_at hl 0 rfl) ?_
  refine lv_ior hx hb dX3_numberInTwoHeaps_26 ?_
  obtain ⟨x5, hx5, hf⟩ := bd_e hf
  refine w_N (rest := []) hx hb hml hg hown hK (kX7_leastOutside l D cI cJ cZ (o2 ||| o4) x5 hx5) ksX7_leastOutside (List.mem_of_getElem? (i := 4) rfl) ⟨Nat.le_of_ble_eq_true rfl, Nat.le_of_ble_eq_true rfl⟩ ⟨rfl, rfl⟩ rfl rfl hl.1 (Nat.le_of_ble_eq_true rfl) dX3_numberInTwoHeaps_27 ⟨Nat.zero_le _, Nat.zero_le _⟩ ?_
  refine lv_istore (lv' := [(5, .int x5), (4, .int o4), (3, .int o2), (0, .ref n0), (1, .int a1), (2, .int a2)]) hx hb dX3_numberInTwoHeaps_30 hl (by decide) rfl (fun ls hl => ?_)
  refine lv_iload hx hb dX3_numberInTwoHeaps_32 (lv_at hl 0 rfl) ?_
  refine lv_iload_n hx hb dX3_numberInTwoHeaps_34 rfl (lv_at hl 5 rfl) ?_
  refine lv_icmp_ge (tgt := 41) hx hb dX3_numberInTwoHeaps_35 (by decide) (fun hc => ?_) (fun hc => ?_)
  · replace hf := ite_t hc hf
    refine lv_iload_n hx hb dX3_numberInTwoHeaps_41 rfl (lv_at hl 2 rfl) ?_
    obtain ⟨x6, hx6, hf⟩ := bd_e hf
    refine w_N (rest := []) hx hb hml hg hown hK (kX7_leastOutside l D cI cJ cZ o2 x6 hx6) ksX7_leastOutside (List.mem_of_getElem? (i := 4) rfl) ⟨Nat.le_of_ble_eq_true rfl, Nat.le_of_ble_eq_true rfl⟩ ⟨rfl, rfl⟩ rfl rfl hl.1 (Nat.le_of_ble_eq_true rfl) dX3_numberInTwoHeaps_42 ⟨Nat.zero_le _, Nat.zero_le _⟩ ?_
    refine lv_istore (lv' := [(6, .int x6), (5, .int x5), (4, .int o4), (3, .int o2), (0, .ref n0), (1, .int a1), (2, .int a2)]) hx hb dX3_numberInTwoHeaps_45 hl (by decide) rfl (fun ls hl => ?_)
    refine lv_iload hx hb dX3_numberInTwoHeaps_47 (lv_at hl 2 rfl) ?_
    obtain ⟨x7, hx7, hf⟩ := bd_e hf
    refine w_N (rest := []) hx hb hml hg hown hK (kX7_leastOutside l D cI cJ cZ o4 x7 hx7) ksX7_leastOutside (List.mem_of_getElem? (i := 4) rfl) ⟨Nat.le_of_ble_eq_true rfl, Nat.le_of_ble_eq_true rfl⟩ ⟨rfl, rfl⟩ rfl rfl hl.1 (Nat.le_of_ble_eq_true rfl) dX3_numberInTwoHeaps_49 ⟨Nat.zero_le _, Nat.zero_le _⟩ ?_
    refine lv_istore (lv' := [(7, .int x7), (6, .int x6), (5, .int x5), (4, .int o4), (3, .int o2), (0, .ref n0), (1, .int a1), (2, .int a2)]) hx hb dX3_numberInTwoHeaps_52 hl (by decide) rfl (fun ls hl => ?_)
    refine lv_aload_n hx hb dX3_numberInTwoHeaps_54 rfl (lv_at hl 5 rfl) ?_
    refine lv_aload_n hx hb dX3_numberInTwoHeaps_55 rfl (lv_at hl 5 rfl) ?_
    refine w_get hx hb hg hown hK hI iX3 0 rfl rfl 3 (by decide) wF_RX3_15 rfl dX3_numberInTwoHeaps_56 ?_
    refine lv_iload_n hx hb dX3_numberInTwoHeaps_59 rfl (lv_at hl 6 rfl) ?_
    obtain ⟨hin, hf⟩ := rd_e hf
    refine w_iald hx hb hK hI 2 rfl hin dX3_numberInTwoHeaps_60 (fun x8 ex8 => ?_)
    replace hf := hf x8 ex8
    refine lv_iload hx hb dX3_numberInTwoHeaps_61 (lv_at hl 1 rfl) ?_
    obtain ⟨o9, ho9, hf⟩ := bd_e hf
    refine w_Vi0 (wc := (wN cI cJ cZ n0 n1 n2 n3 n4 n5 n6 N_postCount N_roadCount N_first N_second N_number_0 N_allowed N_at N_beside)) (wr := []) (rest := []) hx hb hml hg hown hK hA hI (kX3_roadWith l D cI cJ cZ n0 n1 n2 n3 n4 n5 n6 N_postCount N_roadCount N_first N_second N_number_0 N_allowed N_at N_beside x8 x6 o9 ho9) kvX3_roadWith wL_RX3_79 ⟨Nat.le_of_ble_eq_true rfl, Nat.le_of_ble_eq_true rfl⟩ rfl rfl [0, 1, 2, 3, 4, 5, 6] [] rfl rfl rfl rfl (by decide) rfl rfl hl.1 (Nat.le_of_ble_eq_true rfl) dX3_numberInTwoHeaps_63 ⟨Nat.zero_le _, Nat.zero_le _⟩ ⟨rfl, rfl⟩ (fun r u H locs hp hI => ?_)
    replace hp : r = o9 := hp
    rw [hp]
    clear hp
    replace hI : WI D A s.heap (wN cI cJ cZ n0 n1 n2 n3 n4 n5 n6 N_postCount N_roadCount N_first N_second N_number_0 N_allowed N_at N_beside) H locs := hI
    refine lv_istore (lv' := [(8, .int o9), (7, .int x7), (6, .int x6), (5, .int x5), (4, .int o4), (3, .int o2), (0, .ref n0), (1, .int a1), (2, .int a2)]) hx hb dX3_numberInTwoHeaps_66 hl (by decide) rfl (fun ls hl => ?_)
    refine lv_iload hx hb dX3_numberInTwoHeaps_68 (lv_at hl 0 rfl) ?_
    refine lv_iconst (v := -1) hx hb dX3_numberInTwoHeaps_70 (by decide) ?_
    refine lv_icmp_eq (tgt := 92) hx hb dX3_numberInTwoHeaps_71 (by decide) (fun hc => ?_) (fun hc => ?_)
    · replace hf := ite_t hc hf
      refine lv_iload hx hb dX3_numberInTwoHeaps_92 (lv_at hl 2 rfl) ?_
      replace hf := Option.some.inj hf
      subst hf
      replace hM : (x6, N_number_0) = out := hM
      subst hM
      exact rt_i (u := ()) hx hb hr hlocks rfl hI hAe rfl dX3_numberInTwoHeaps_94
    · replace hf := ite_f hc hf
      refine lv_aload_n hx hb dX3_numberInTwoHeaps_74 rfl (lv_at hl 6 rfl) ?_
      refine lv_aload_n hx hb dX3_numberInTwoHeaps_75 rfl (lv_at hl 6 rfl) ?_
      refine lv_iload hx hb dX3_numberInTwoHeaps_76 (lv_at hl 0 rfl) ?_
      refine lv_iload hx hb dX3_numberInTwoHeaps_78 (lv_at hl 2 rfl) ?_
      refine lv_iload hx hb dX3_numberInTwoHeaps_80 (lv_at hl 1 rfl) ?_
      obtain ⟨o10, ho10, hf⟩ := bd_e hf
      refine w_Vi0 (wc := (wN cI cJ cZ n0 n1 n2 n3 n4 n5 n6 N_postCount N_roadCount N_first N_second N_number_0 N_allowed N_at N_beside)) (wr := []) (rest := [.ref n0]) hx hb hml hg hown hK hA hI (kX3_chainOf l D cI cJ cZ n0 n1 n2 n3 n4 n5 n6 N_postCount N_roadCount N_first N_second N_number_0 N_allowed N_at N_beside o9 x6 x7 o10 ho10) kvX3_chainOf wL_RX3_82 ⟨Nat.le_of_ble_eq_true rfl, Nat.le_of_ble_eq_true rfl⟩ rfl rfl [0, 1, 2, 3, 4, 5, 6] [] rfl rfl rfl rfl (by decide) rfl rfl hl.1 (Nat.le_of_ble_eq_true rfl) dX3_numberInTwoHeaps_82 ⟨Nat.zero_le _, Nat.zero_le _⟩ ⟨rfl, rfl⟩ (fun r u H locs hp hI => ?_)
      replace hp : r = o10 := hp
      rw [hp]
      clear hp
      replace hI : WI D A s.heap (wN cI cJ cZ n0 n1 n2 n3 n4 n5 n6 N_postCount N_roadCount N_first N_second N_number_0 N_allowed N_at N_beside) H locs := hI
      refine lv_iload hx hb dX3_numberInTwoHeaps_85 (lv_at hl 2 rfl) ?_
      refine lv_iload hx hb dX3_numberInTwoHeaps_87 (lv_at hl 1 rfl) ?_
      obtain ⟨o11, ho11, hf⟩ := bd_e hf
      refine w_Vv0 (wc := (wN cI cJ cZ n0 n1 n2 n3 n4 n5 n6 N_postCount N_roadCount N_first N_second N_number_0 N_allowed N_at N_beside)) (wr := []) (rest := []) hx hb hml hg hown hK hA hI (kX3_exchange l D cI cJ cZ n0 n1 n2 n3 n4 n5 n6 N_postCount N_roadCount N_first N_second N_number_0 N_allowed N_at N_beside o10 x6 x7 o11 ho11) kvX3_exchange wL_RX3_86 ⟨Nat.le_of_ble_eq_true rfl, Nat.le_of_ble_eq_true rfl⟩ rfl rfl [0, 1, 2, 3, 4, 5, 6] [] rfl rfl rfl rfl (by decide) rfl rfl hl.1 (Nat.le_of_ble_eq_true rfl) dX3_numberInTwoHeaps_89 ⟨Nat.zero_le _, Nat.zero_le _⟩ ⟨rfl, rfl⟩ (fun  u H locs hp hI => ?_)
      replace hI : WI D A s.heap (wN cI cJ cZ n0 n1 n2 n3 n4 n5 n6 N_postCount N_roadCount N_first N_second o11 N_allowed N_at N_beside) H locs := hI
      refine lv_iload hx hb dX3_numberInTwoHeaps_92 (lv_at hl 2 rfl) ?_
      replace hf := Option.some.inj hf
      subst hf
      replace hM : (x6, o11) = out := hM
      subst hM
      exact rt_i (u := ()) hx hb hr hlocks rfl hI hAe rfl dX3_numberInTwoHeaps_94
  · replace hf := ite_f hc hf
    refine lv_iload hx hb dX3_numberInTwoHeaps_38 (lv_at hl 0 rfl) ?_
    replace hf := Option.some.inj hf
    subst hf
    replace hM : (x5, N_number_0) = out := hM
    subst hM
    exact rt_i (u := ()) hx hb hr hlocks rfl hI hAe rfl dX3_numberInTwoHeaps_40
noncomputable def X3_colourTwoHeaps_L6 (N_roadCount : Int32) (N_first : Nat → Int32) (N_second : Nat → Int32) (N_at : Nat → Int32) (N_beside : Nat → Int32) (l1 : Int32) (v : (Nat → Int32) × Int32) : Option (((Nat → Int32) × Int32) ⊕ ((Nat → Int32))) :=
  if N_roadCount ≤ v.2 then (some (.inr v.1)) else ((FX3_numberInTwoHeaps N_roadCount N_first N_second v.1 N_at N_beside v.2 l1).bind (fun o2 => wr o2.2 24 v.2 o2.1 (fun g3 => bnd (v.2 + (1 : Int32)) (fun x4 => some (.inl (g3, x4))))))
noncomputable def FX3_colourTwoHeaps (N_roadCount : Int32) (N_first : Nat → Int32) (N_second : Nat → Int32) (N_number_0 : Nat → Int32) (N_at : Nat → Int32) (N_beside : Nat → Int32) (a1 : Int32) : Option ((Nat → Int32)) :=
  (FX3_forgetNumbers N_roadCount N_number_0).bind (fun o1 => loopO (X3_colourTwoHeaps_L6 N_roadCount N_first N_second N_at N_beside a1) (o1, (0 : Int32)))
abbrev GX3_colourTwoHeaps (p : Program) (l : Launch) (e : Env) (s : State) (m : MethodId) (below : List Frame) (meth : Method) (c : Code) (D : va_G) (cI cJ cZ : ClassId) (n0 n1 n2 n3 n4 n5 n6 : Nat) (N_postCount : Int32) (N_roadCount : Int32) (N_first : Nat → Int32) (N_second : Nat → Int32) (N_number_0 : Nat → Int32) (N_allowed : Nat → Int32) (N_at : Nat → Int32) (N_beside : Nat → Int32) (a1 : Int32) (out : (Nat → Int32)) (H : Heap) (locs : List Loc) (g : JFrame) : Prop := W p l e (headSpec (Cond.code yX3_colourTwoHeaps cX3_colourTwoHeaps 3 none :: GW) { frames := 4, cells := 0, slots := 0, locals := 99 }).room s m ([.ref n0, .int a1] : List Value).toArray below meth c H locs 0 0 (MQ below (va_Qv (fun (_ : Unit) => True) (BW D (wN cI cJ cZ n0 n1 n2 n3 n4 n5 n6 N_postCount N_roadCount N_first N_second N_number_0 N_allowed N_at N_beside) s.heap.size (fun _ => (wN cI cJ cZ n0 n1 n2 n3 n4 n5 n6 N_postCount N_roadCount N_first N_second out N_allowed N_at N_beside))) (va_A (wN cI cJ cZ n0 n1 n2 n3 n4 n5 n6 N_postCount N_roadCount N_first N_second N_number_0 N_allowed N_at N_beside) s.heap.size)) ([.ref n0, .int a1] : List Value).toArray s 0 0 (va_A (wN cI cJ cZ n0 n1 n2 n3 n4 n5 n6 N_postCount N_roadCount N_first N_second N_number_0 N_allowed N_at N_beside) s.heap.size)) g
theorem kvX3_colourTwoHeaps : CalV RX3 yX3_colourTwoHeaps cX3_colourTwoHeaps 3 none 1 := ⟨wC_yX3_colourTwoHeaps, wM_yX3_colourTwoHeaps, wS_yX3_colourTwoHeaps, wI_RX3, by decide +kernel⟩
set_option maxHeartbeats 4000000 in
set_option maxRecDepth 100000 in
theorem kX3_colourTwoHeaps (l : Launch) (D : va_G) (cI cJ cZ : ClassId) (n0 n1 n2 n3 n4 n5 n6 : Nat) (N_postCount : Int32) (N_roadCount : Int32) (N_first : Nat → Int32) (N_second : Nat → Int32) (N_number_0 : Nat → Int32) (N_allowed : Nat → Int32) (N_at : Nat → Int32) (N_beside : Nat → Int32) (a1 : Int32) (out : (Nat → Int32)) (hf : FX3_colourTwoHeaps N_roadCount N_first N_second N_number_0 N_at N_beside a1 = some out) : MV l yX3_colourTwoHeaps (Cond.code yX3_colourTwoHeaps cX3_colourTwoHeaps 3 none :: GW) { frames := 4, cells := 0, slots := 0, locals := 99 } D cI cJ cZ [.ref n0, .int a1] (wN cI cJ cZ n0 n1 n2 n3 n4 n5 n6 N_postCount N_roadCount N_first N_second N_number_0 N_allowed N_at N_beside) (fun (_ : Unit) => True) (fun _ => (wN cI cJ cZ n0 n1 n2 n3 n4 n5 n6 N_postCount N_roadCount N_first N_second out N_allowed N_at N_beside)) := by
  intro sz
  refine Met.ofW (cc := cX3_colourTwoHeaps) (maxL := 3) (ret := none) (by decide +kernel) rfl ?_
  intro p e s m args below meth c s₁ B hml hv
  obtain ⟨rfl, hsz, hP, hK, hD0⟩ := hv
  have hx := B.exec
  have hb := B.bytes
  have hr := B.returns
  have hlocks := B.notSynchronized
  have hg : ∀ w ∈ GW, w.before _ s = true := fun w h => atoms_spec (ws := Cond.code yX3_colourTwoHeaps cX3_colourTwoHeaps 3 none :: GW) B.pre w (List.mem_cons_of_mem _ h)
  have hown : s.vm.findClass RX3 = some m.cls := findClass_of_methodNamed B.named
  subst hsz
  obtain ⟨A, hAe⟩ : ∃ A, A = va_A (wN cI cJ cZ n0 n1 n2 n3 n4 n5 n6 N_postCount N_roadCount N_first N_second N_number_0 N_allowed N_at N_beside) s.heap.size := ⟨_, rfl⟩
  have hA : ∀ q : Nat, s.heap.size ≤ q → A q := fun q h => by rw [hAe]; exact Or.inr h
  have hI : WI D A s.heap (wN cI cJ cZ n0 n1 n2 n3 n4 n5 n6 N_postCount N_roadCount N_first N_second N_number_0 N_allowed N_at N_beside) s.heap [] := ⟨hP, by rw [hAe]; exact hD0.self, va_S.rf⟩
  have hl := lv_entry [.ref n0, .int a1] (n := 3) (Nat.le_of_ble_eq_true rfl)
  rw [lg_entry_eq]
  generalize (lg_sl [.ref n0, .int a1] ++ List.replicate (3 - (lg_sl [.ref n0, .int a1]).length) Slot.unset).toArray = ls at hl ⊢
  replace hl : lv_has ls 3 [(0, .ref n0), (1, .int a1)] := hl
  have L6 : ∀ (l1 : Int32), ∀ (v : (Nat → Int32) × Int32) (x : (Nat → Int32)), loopO (X3_colourTwoHeaps_L6 N_roadCount N_first N_second N_at N_beside l1) v = some x → (fun z : (Nat → Int32) => z = out) x → (fun (v : (Nat → Int32) × Int32) => ∀ (H : Heap) (locs : List Loc) (ls : Array Slot), WI D A s.heap (wN cI cJ cZ n0 n1 n2 n3 n4 n5 n6 N_postCount N_roadCount N_first N_second v.1 N_allowed N_at N_beside) H locs → lv_has ls 3 [(0, .ref n0), (1, .int l1), (2, .int v.2)] → GX3_colourTwoHeaps p l e s m below meth c D cI cJ cZ n0 n1 n2 n3 n4 n5 n6 N_postCount N_roadCount N_first N_second N_number_0 N_allowed N_at N_beside a1 out H locs (F0 m 6 ls [])) v := by
    intro l1
    refine loopO_ind (fun (v : (Nat → Int32) × Int32) => ∀ (H : Heap) (locs : List Loc) (ls : Array Slot), WI D A s.heap (wN cI cJ cZ n0 n1 n2 n3 n4 n5 n6 N_postCount N_roadCount N_first N_second v.1 N_allowed N_at N_beside) H locs → lv_has ls 3 [(0, .ref n0), (1, .int l1), (2, .int v.2)] → GX3_colourTwoHeaps p l e s m below meth c D cI cJ cZ n0 n1 n2 n3 n4 n5 n6 N_postCount N_roadCount N_first N_second N_number_0 N_allowed N_at N_beside a1 out H locs (F0 m 6 ls [])) (fun z : (Nat → Int32) => z = out) ?_
    intro v x hf hM H locs ls hI hl
    refine lv_iload_n hx hb dX3_colourTwoHeaps_6 rfl (lv_at hl 2 rfl) ?_
    refine lv_aload_n hx hb dX3_colourTwoHeaps_7 rfl (lv_at hl 0 rfl) ?_
    refine w_get hx hb hg hown hK hI iX3 0 rfl rfl 1 (by decide) wF_RX3_34 rfl dX3_colourTwoHeaps_8 ?_
    refine lv_icmp_ge (tgt := 32) hx hb dX3_colourTwoHeaps_11 (by decide) (fun hc => ?_) (fun hc => ?_)
    · replace hf := ite_t hc hf
      replace hf := Option.some.inj hf
      subst hf
      replace hM : v.1 = out := hM
      subst hM
      exact rt_v (u := ()) hx hb hr hlocks hI hAe trivial dX3_colourTwoHeaps_32
    · replace hf := ite_f hc hf
      refine lv_aload_n hx hb dX3_colourTwoHeaps_14 rfl (lv_at hl 0 rfl) ?_
      refine w_get hx hb hg hown hK hI iX3 0 rfl rfl 4 (by decide) wF_RX3_18 rfl dX3_colourTwoHeaps_15 ?_
      refine lv_iload_n hx hb dX3_colourTwoHeaps_18 rfl (lv_at hl 2 rfl) ?_
      refine lv_aload_n hx hb dX3_colourTwoHeaps_19 rfl (lv_at hl 0 rfl) ?_
      refine lv_iload_n hx hb dX3_colourTwoHeaps_20 rfl (lv_at hl 2 rfl) ?_
      refine lv_iload_n hx hb dX3_colourTwoHeaps_21 rfl (lv_at hl 1 rfl) ?_
      obtain ⟨o2, ho2, hf⟩ := bd_e hf
      refine w_Vi0 (wc := (wN cI cJ cZ n0 n1 n2 n3 n4 n5 n6 N_postCount N_roadCount N_first N_second v.1 N_allowed N_at N_beside)) (wr := []) (rest := [.int v.2, .ref n3]) hx hb hml hg hown hK hA hI (kX3_numberInTwoHeaps l D cI cJ cZ n0 n1 n2 n3 n4 n5 n6 N_postCount N_roadCount N_first N_second v.1 N_allowed N_at N_beside v.2 l1 o2 ho2) kvX3_numberInTwoHeaps wL_RX3_76 ⟨Nat.le_of_ble_eq_true rfl, Nat.le_of_ble_eq_true rfl⟩ rfl rfl [0, 1, 2, 3, 4, 5, 6] [] rfl rfl rfl rfl (by decide) rfl rfl hl.1 (Nat.le_of_ble_eq_true rfl) dX3_colourTwoHeaps_22 ⟨Nat.zero_le _, Nat.zero_le _⟩ ⟨rfl, rfl⟩ (fun r u H locs hp hI => ?_)
      replace hp : r = o2.1 := hp
      rw [hp]
      clear hp
      replace hI : WI D A s.heap (wN cI cJ cZ n0 n1 n2 n3 n4 n5 n6 N_postCount N_roadCount N_first N_second o2.2 N_allowed N_at N_beside) H locs := hI
      obtain ⟨hin, hf⟩ := wr_e hf
      obtain ⟨g3, eg3⟩ : ∃ g : Nat → Int32, g = upd o2.2 (v.2).toNatClampNeg o2.1 := ⟨_, rfl⟩
      replace hf := hf g3 eg3
      refine w_iast (g := g3) (W1 := (wN cI cJ cZ n0 n1 n2 n3 n4 n5 n6 N_postCount N_roadCount N_first N_second g3 N_allowed N_at N_beside)) hx hb hK hI 3 rfl hin eg3 dX3_colourTwoHeaps_25 rfl (fun H locs hI => ?_)
      obtain ⟨x4, ex4⟩ : ∃ y : Int32, y = (v.2 + (1 : Int32)) := ⟨_, rfl⟩
      replace hf := bnd_e hf x4 ex4
      refine lv_iinc (v := x4) (lv' := [(2, .int x4), (0, .ref n0), (1, .int l1)]) hx hb dX3_colourTwoHeaps_26 hl (k := 2) rfl (by rw [ex4]; rfl) (by decide) rfl (fun ls hl => ?_)
      refine lv_goto (tgt := 6) hx hb dX3_colourTwoHeaps_29 (by decide) ?_
      replace hf := Option.some.inj hf
      subst hf
      exact hM _ _ _ hI (lv_sub hl [1, 2, 0] rfl)
  obtain ⟨x, hf, hM⟩ : ∃ x, FX3_colourTwoHeaps N_roadCount N_first N_second N_number_0 N_at N_beside a1 = some x ∧ x = out := ⟨out, hf, rfl⟩
  refine lv_aload_n hx hb dX3_colourTwoHeaps_0 rfl (lv_at hl 0 rfl) ?_
  obtain ⟨o1, ho1, hf⟩ := bd_e hf
  refine w_Vv0 (wc := (wN cI cJ cZ n0 n1 n2 n3 n4 n5 n6 N_postCount N_roadCount N_first N_second N_number_0 N_allowed N_at N_beside)) (wr := []) (rest := []) hx hb hml hg hown hK hA hI (kX3_forgetNumbers l D cI cJ cZ n0 n1 n2 n3 n4 n5 n6 N_postCount N_roadCount N_first N_second N_number_0 N_allowed N_at N_beside  o1 ho1) kvX3_forgetNumbers wL_RX3_73 ⟨Nat.le_of_ble_eq_true rfl, Nat.le_of_ble_eq_true rfl⟩ rfl rfl [0, 1, 2, 3, 4, 5, 6] [] rfl rfl rfl rfl (by decide) rfl rfl hl.1 (Nat.le_of_ble_eq_true rfl) dX3_colourTwoHeaps_1 ⟨Nat.zero_le _, Nat.zero_le _⟩ ⟨rfl, rfl⟩ (fun  u H locs hp hI => ?_)
  replace hI : WI D A s.heap (wN cI cJ cZ n0 n1 n2 n3 n4 n5 n6 N_postCount N_roadCount N_first N_second o1 N_allowed N_at N_beside) H locs := hI
  refine lv_iconst (v := 0) hx hb dX3_colourTwoHeaps_4 (by decide) ?_
  refine lv_istore_n (lv' := [(2, .int (0 : Int32)), (0, .ref n0), (1, .int a1)]) hx hb dX3_colourTwoHeaps_5 rfl hl (by decide) rfl (fun ls hl => ?_)
  exact L6 a1 (o1, (0 : Int32)) _ hf hM _ _ _ hI (lv_sub hl [1, 2, 0] rfl)
