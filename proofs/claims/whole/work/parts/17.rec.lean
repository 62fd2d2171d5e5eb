noncomputable def X4_takeOut_J73 (rec : (Nat → Int32) → (Int32) → (Nat → Int32) → Int32 → Int32 → Int32 → Option ((Nat → Int32))) (P_left : Nat → Int32) (N_roadCount : Int32) (N_beside : Nat → Int32) (l1 : Int32) (l2 : Int32) (l3 : Int32) (l4 : Int32) (l5 : Int32) : Option (((Nat → Int32) × Int32 × Int32) ⊕ ((Nat → Int32))) :=
  (FX7_isIn l4 l5).bind (fun x1 => if x1 = (0 : Int32) then (bnd (l5 + (1 : Int32)) (fun x2 => some (.inl (P_left, l4, x2)))) else (rd N_beside 24 l5 (fun x3 => (rec P_left N_roadCount N_beside (l1 ^^^ ((1 : Int32) <<< (l5 &&& (31 : Int32)))) (l2 &&& ((((1 : Int32) <<< (l5 &&& (31 : Int32))) ||| x3) ^^^ (-1 : Int32))) (l3 + (1 : Int32))).bind (fun o4 => bnd (l5 + (1 : Int32)) (fun x5 => some (.inl (o4, l4, x5)))))))
noncomputable def X4_takeOut_L28 (rec : (Nat → Int32) → (Int32) → (Nat → Int32) → Int32 → Int32 → Int32 → Option ((Nat → Int32))) (N_roadCount : Int32) (N_beside : Nat → Int32) (l1 : Int32) (l2 : Int32) (l3 : Int32) (v : (Nat → Int32) × Int32 × Int32) : Option (((Nat → Int32) × Int32 × Int32) ⊕ ((Nat → Int32))) :=
  if N_roadCount ≤ v.2.2 then (some (.inr v.1)) else (if v.2.1 = (0 : Int32) then ((FX7_isIn l2 v.2.2).bind (fun x6 => if x6 = (0 : Int32) then (X4_takeOut_J73 rec v.1 N_roadCount N_beside l1 l2 l3 v.2.1 v.2.2) else (rd N_beside 24 v.2.2 (fun x7 => bnd ((((1 : Int32) <<< (v.2.2 &&& (31 : Int32))) ||| x7) &&& l2) (fun x8 => X4_takeOut_J73 rec v.1 N_roadCount N_beside l1 l2 l3 x8 v.2.2))))) else (X4_takeOut_J73 rec v.1 N_roadCount N_beside l1 l2 l3 v.2.1 v.2.2))
noncomputable def X4_takeOut_J11 (rec : (Nat → Int32) → (Int32) → (Nat → Int32) → Int32 → Int32 → Int32 → Option ((Nat → Int32))) (P_left : Nat → Int32) (N_roadCount : Int32) (N_beside : Nat → Int32) (l1 : Int32) (l2 : Int32) (l3 : Int32) : Option ((Nat → Int32)) :=
  if l2 = (0 : Int32) then (some P_left) else (if l3 < (12 : Int32) then (loopO (X4_takeOut_L28 rec N_roadCount N_beside l1 l2 l3) (P_left, (0 : Int32), (0 : Int32))) else (some P_left))
noncomputable def BX4_takeOut (rec : (Nat → Int32) → (Int32) → (Nat → Int32) → Int32 → Int32 → Int32 → Option ((Nat → Int32))) (P_left_0 : Nat → Int32) (N_roadCount : Int32) (N_beside : Nat → Int32) (a1 : Int32) (a2 : Int32) (a3 : Int32) : Option ((Nat → Int32)) :=
  if a2 = (0 : Int32) then (wr P_left_0 4096 a1 (vp_nar .boolean (1 : Int32)) (fun g9 => X4_takeOut_J11 rec g9 N_roadCount N_beside a1 a2 a3)) else (X4_takeOut_J11 rec P_left_0 N_roadCount N_beside a1 a2 a3)
noncomputable def FX4_takeOut : Nat → (Nat → Int32) → (Int32) → (Nat → Int32) → Int32 → Int32 → Int32 → Option ((Nat → Int32))
  | 0 => fun _ _ _ _ _ _ => none
  | d + 1 => BX4_takeOut (FX4_takeOut d)
abbrev GX4_takeOut (d : Nat) (p : Program) (l : Launch) (e : Env) (s : State) (m : MethodId) (below : List Frame) (meth : Method) (c : Code) (D : va_G) (cI cJ cZ : ClassId) (p0 p1 p2 p3 n0 n1 n2 n3 n4 n5 n6 : Nat) (P_can : Nat → Int32) (P_picked : Nat → Int32) (P_left_0 : Nat → Int32) (N_postCount : Int32) (N_roadCount : Int32) (N_first : Nat → Int32) (N_second : Nat → Int32) (N_number : Nat → Int32) (N_allowed : Nat → Int32) (N_at : Nat → Int32) (N_beside : Nat → Int32) (a1 : Int32) (a2 : Int32) (a3 : Int32) (out : (Nat → Int32)) (H : Heap) (locs : List Loc) (g : JFrame) : Prop := W p l e (headSpec (Cond.code yX4_takeOut cX4_takeOut 6 none :: GW) { frames := d + 2, cells := 0, slots := 0, locals := 40 * (d + 2) }).room s m ([.ref p0, .int a1, .int a2, .int a3] : List Value).toArray below meth c H locs 0 0 (MQ below (va_Qv (fun (_ : Unit) => True) (BW D (wP cI cJ cZ p0 p1 p2 p3 n0 n1 n2 n3 n4 n5 n6 P_can P_picked P_left_0 N_postCount N_roadCount N_first N_second N_number N_allowed N_at N_beside) s.heap.size (fun _ => (wP cI cJ cZ p0 p1 p2 p3 n0 n1 n2 n3 n4 n5 n6 P_can P_picked out N_postCount N_roadCount N_first N_second N_number N_allowed N_at N_beside))) (va_A (wP cI cJ cZ p0 p1 p2 p3 n0 n1 n2 n3 n4 n5 n6 P_can P_picked P_left_0 N_postCount N_roadCount N_first N_second N_number N_allowed N_at N_beside) s.heap.size)) ([.ref p0, .int a1, .int a2, .int a3] : List Value).toArray s 0 0 (va_A (wP cI cJ cZ p0 p1 p2 p3 n0 n1 n2 n3 n4 n5 n6 P_can P_picked P_left_0 N_postCount N_roadCount N_first N_second N_number N_allowed N_at N_beside) s.heap.size)) g
theorem kvX4_takeOut : CalV RX4 yX4_takeOut cX4_takeOut 6 none 3 := ⟨wC_yX4_takeOut, wM_yX4_takeOut, wS_yX4_takeOut, wI_RX4, by decide +kernel⟩
set_option maxHeartbeats 4000000 in
set_option maxRecDepth 100000 in
theorem bkX4_takeOut (d : Nat) (rec : (Nat → Int32) → (Int32) → (Nat → Int32) → Int32 → Int32 → Int32 → Option ((Nat → Int32))) (l : Launch) (D : va_G) (cI cJ cZ : ClassId) (p0 p1 p2 p3 n0 n1 n2 n3 n4 n5 n6 : Nat) (hrec : ∀ (P_can : Nat → Int32) (P_picked : Nat → Int32) (P_left_0 : Nat → Int32) (N_postCount : Int32) (N_roadCount : Int32) (N_first : Nat → Int32) (N_second : Nat → Int32) (N_number : Nat → Int32) (N_allowed : Nat → Int32) (N_at : Nat → Int32) (N_beside : Nat → Int32) (a1 : Int32) (a2 : Int32) (a3 : Int32) (out : (Nat → Int32)), rec P_left_0 N_roadCount N_beside a1 a2 a3 = some out → MV l yX4_takeOut (Cond.code yX4_takeOut cX4_takeOut 6 none :: GW) { frames := d + 1, cells := 0, slots := 0, locals := 40 * (d + 1) } D cI cJ cZ [.ref p0, .int a1, .int a2, .int a3] (wP cI cJ cZ p0 p1 p2 p3 n0 n1 n2 n3 n4 n5 n6 P_can P_picked P_left_0 N_postCount N_roadCount N_first N_second N_number N_allowed N_at N_beside) (fun (_ : Unit) => True) (fun _ => (wP cI cJ cZ p0 p1 p2 p3 n0 n1 n2 n3 n4 n5 n6 P_can P_picked out N_postCount N_roadCount N_first N_second N_number N_allowed N_at N_beside))) (P_can : Nat → Int32) (P_picked : Nat → Int32) (P_left_0 : Nat → Int32) (N_postCount : Int32) (N_roadCount : Int32) (N_first : Nat → Int32) (N_second : Nat → Int32) (N_number : Nat → Int32) (N_allowed : Nat → Int32) (N_at : Nat → Int32) (N_beside : Nat → Int32) (a1 : Int32) (a2 : Int32) (a3 : Int32) (out : (Nat → Int32)) (hf : BX4_takeOut rec P_left_0 N_roadCount N_beside a1 a2 a3 = some out) : MV l yX4_takeOut (Cond.code yX4_takeOut cX4_takeOut 6 none :: GW) { frames := d + 2, cells := 0, slots := 0, locals := 40 * (d + 2) } D cI cJ cZ [.ref p0, .int a1, .int a2, .int a3] (wP cI cJ cZ p0 p1 p2 p3 n0 n1 n2 n3 n4 n5 n6 P_can P_picked P_left_0 N_postCount N_roadCount N_first N_second N_number N_allowed N_at N_beside) (fun (_ : Unit) => True) (fun _ => (wP cI cJ cZ p0 p1 p2 p3 n0 n1 n2 n3 n4 n5 n6 P_can P_picked out N_postCount N_roadCount N_first N_second N_number N_allowed N_at N_beside)) := by
  intro sz
  refine Met.ofW (cc := cX4_takeOut) (maxL := 6) (ret := none) (by decide +kernel) rfl ?_
  intro p e s m args below meth c s₁ B hml hv
  obtain ⟨rfl, hsz, hP, hK, hD0⟩ := hv
  have hx := B.exec
  have hb := B.bytes
  have hr := B.returns
  have hlocks := B.notSynchronized
  have hg : ∀ w ∈ GW, w.before _ s = true := fun w h => atoms_spec (ws := Cond.code yX4_takeOut cX4_takeOut 6 none :: GW) B.pre w (List.mem_cons_of_mem _ h)
  have hown : s.vm.findClass RX4 = some m.cls := findClass_of_methodNamed B.named
  subst hsz
  obtain ⟨A, hAe⟩ : ∃ A, A = va_A (wP cI cJ cZ p0 p1 p2 p3 n0 n1 n2 n3 n4 n5 n6 P_can P_picked P_left_0 N_postCount N_roadCount N_first N_second N_number N_allowed N_at N_beside) s.heap.size := ⟨_, rfl⟩
  have hA : ∀ q : Nat, s.heap.size ≤ q → A q := fun q h => by rw [hAe]; exact Or.inr h
  have hI : WI D A s.heap (wP cI cJ cZ p0 p1 p2 p3 n0 n1 n2 n3 n4 n5 n6 P_can P_picked P_left_0 N_postCount N_roadCount N_first N_second N_number N_allowed N_at N_beside) s.heap [] := ⟨hP, by rw [hAe]; exact hD0.self, va_S.rf⟩
  have hl := lv_entry [.ref p0, .int a1, .int a2, .int a3] (n := 6) (Nat.le_of_ble_eq_true rfl)
  rw [lg_entry_eq]
  generalize (lg_sl [.ref p0, .int a1, .int a2, .int a3] ++ List.replicate (6 - (lg_sl [.ref p0, .int a1, .int a2, .int a3]).length) Slot.unset).toArray = ls at hl ⊢
  replace hl : lv_has ls 6 [(0, .ref p0), (1, .int a1), (2, .int a2), (3, .int a3)] := hl
  have J73 : ∀ (P_left : Nat → Int32) (l1 : Int32) (l2 : Int32) (l3 : Int32) (l4 : Int32) (l5 : Int32) (x : ((Nat → Int32) × Int32 × Int32) ⊕ ((Nat → Int32))), X4_takeOut_J73 rec P_left N_roadCount N_beside l1 l2 l3 l4 l5 = some x → (fun z => Sum.elim (fun (v1 : (Nat → Int32) × Int32 × Int32) => ∀ (H : Heap) (locs : List Loc) (ls : Array Slot), WI D A s.heap (wP cI cJ cZ p0 p1 p2 p3 n0 n1 n2 n3 n4 n5 n6 P_can P_picked v1.1 N_postCount N_roadCount N_first N_second N_number N_allowed N_at N_beside) H locs → lv_has ls 6 [(0, .ref p0), (1, .int l1), (2, .int l2), (3, .int l3), (4, .int v1.2.1), (5, .int v1.2.2)] → GX4_takeOut d p l e s m below meth c D cI cJ cZ p0 p1 p2 p3 n0 n1 n2 n3 n4 n5 n6 P_can P_picked P_left_0 N_postCount N_roadCount N_first N_second N_number N_allowed N_at N_beside a1 a2 a3 out H locs (F0 m 28 ls [])) (fun z : (Nat → Int32) => z = out) z) x → ∀ (H : Heap) (locs : List Loc) (ls : Array Slot), WI D A s.heap (wP cI cJ cZ p0 p1 p2 p3 n0 n1 n2 n3 n4 n5 n6 P_can P_picked P_left N_postCount N_roadCount N_first N_second N_number N_allowed N_at N_beside) H locs → lv_has ls 6 [(0, .ref p0), (1, .int l1), (2, .int l2), (3, .int l3), (4, .int l4), (5, .int l5)] → GX4_takeOut d p l e s m below meth c D cI cJ cZ p0 p1 p2 p3 n0 n1 n2 n3 n4 n5 n6 P_can P_picked P_left_0 N_postCount N_roadCount N_first N_second N_number N_allowed N_at N_beside a1 a2 a3 out H locs (F0 m 73 ls []) := by
    intro P_left l1 l2 l3 l4 l5 x hf hM H locs ls hI hl
    refine lv_iload hx hb dX4_takeOut_73 (lv_at hl 4 rfl) ?_
    refine lv_iload hx hb dX4_takeOut_75 (lv_at hl 5 rfl) ?_
    obtain ⟨x1, hx1, hf⟩ := bd_e hf
    refine w_N (rest := []) hx hb hml hg hown hK (kX7_isIn l D cI cJ cZ l4 l5 x1 hx1) ksX7_isIn (List.mem_of_getElem? (i := 5) rfl) ⟨by show 0 + 1 ≤ d + 2; omega, by show 8 + (2 + 11) + 0 ≤ 40 * (d + 2); omega⟩ ⟨rfl, rfl⟩ rfl rfl hl.1 (Nat.le_of_ble_eq_true rfl) dX4_takeOut_77 ⟨Nat.zero_le _, Nat.zero_le _⟩ ?_
    refine lv_if_eq (tgt := 115) hx hb dX4_takeOut_80 (by decide) (fun hc => ?_) (fun hc => ?_)
    · replace hf := ite_t hc hf
      obtain ⟨x2, ex2⟩ : ∃ y : Int32, y = (l5 + (1 : Int32)) := ⟨_, rfl⟩
      replace hf := bnd_e hf x2 ex2
      refine lv_iinc (v := x2) (lv' := [(5, .int x2), (0, .ref p0), (1, .int l1), (2, .int l2), (3, .int l3), (4, .int l4)]) hx hb dX4_takeOut_115 hl (k := 5) rfl (by rw [ex2]; rfl) (by decide) rfl (fun ls hl => ?_)
      refine lv_goto (tgt := 28) hx hb dX4_takeOut_118 (by decide) ?_
      replace hf := Option.some.inj hf
      subst hf
      exact hM _ _ _ hI (lv_sub hl [1, 2, 3, 4, 5, 0] rfl)
    · replace hf := ite_f hc hf
      refine lv_aload_n hx hb dX4_takeOut_83 rfl (lv_at hl 0 rfl) ?_
      refine lv_iload_n hx hb dX4_takeOut_84 rfl (lv_at hl 1 rfl) ?_
      refine lv_iconst (v := 1) hx hb dX4_takeOut_85 (by decide) ?_
      refine lv_iload hx hb dX4_takeOut_86 (lv_at hl 5 rfl) ?_
      refine lv_ishl hx hb dX4_takeOut_88 ?_
      refine lv_ixor hx hb dX4_takeOut_89 ?_
      refine lv_iload_n hx hb dX4_takeOut_90 rfl (lv_at hl 2 rfl) ?_
      refine lv_iconst (v := 1) hx hb dX4_takeOut_91 (by decide) ?_
      refine lv_iload hx hb dX4_takeOut_92 (lv_at hl 5 rfl) ?_
      refine lv_ishl hx hb dX4_takeOut_94 ?_
      refine lv_aload_n hx hb dX4_takeOut_95 rfl (lv_at hl 0 rfl) ?_
      refine w_get hx hb hg hown hK hI iX4 0 rfl rfl 0 (by decide) wF_RX4_22 rfl dX4_takeOut_96 ?_
      refine w_get hx hb hg hown hK hI iX3 4 rfl rfl 7 (by decide) wF_RX4_61 rfl dX4_takeOut_99 ?_
      refine lv_iload hx hb dX4_takeOut_102 (lv_at hl 5 rfl) ?_
      obtain ⟨hin, hf⟩ := rd_e hf
      refine w_iald hx hb hK hI 10 rfl hin dX4_takeOut_104 (fun x3 ex3 => ?_)
      replace hf := hf x3 ex3
      refine lv_ior hx hb dX4_takeOut_105 ?_
      refine lv_iconst (v := -1) hx hb dX4_takeOut_106 (by decide) ?_
      refine lv_ixor hx hb dX4_takeOut_107 ?_
      refine lv_iand hx hb dX4_takeOut_108 ?_
      refine lv_iload_n hx hb dX4_takeOut_109 rfl (lv_at hl 3 rfl) ?_
      refine lv_iconst (v := 1) hx hb dX4_takeOut_110 (by decide) ?_
      refine lv_iadd hx hb dX4_takeOut_111 ?_
      obtain ⟨o4, ho4, hf⟩ := bd_e hf
      refine w_Vv0 (wc := (wP cI cJ cZ p0 p1 p2 p3 n0 n1 n2 n3 n4 n5 n6 P_can P_picked P_left N_postCount N_roadCount N_first N_second N_number N_allowed N_at N_beside)) (wr := []) (rest := []) hx hb hml hg hown hK hA hI (hrec P_can P_picked P_left N_postCount N_roadCount N_first N_second N_number N_allowed N_at N_beside (l1 ^^^ ((1 : Int32) <<< (l5 &&& (31 : Int32)))) (l2 &&& ((((1 : Int32) <<< (l5 &&& (31 : Int32))) ||| x3) ^^^ (-1 : Int32))) (l3 + (1 : Int32)) o4 ho4) kvX4_takeOut wL_RX4_100 ⟨by show d + 1 + 1 ≤ d + 2; omega, by show 8 + (6 + 11) + 40 * (d + 1) ≤ 40 * (d + 2); omega⟩ rfl rfl [0, 1, 2, 3, 4, 5, 6, 7, 8, 9, 10] [] rfl rfl rfl rfl (by decide) rfl rfl hl.1 (Nat.le_of_ble_eq_true rfl) dX4_takeOut_112 ⟨Nat.zero_le _, Nat.zero_le _⟩ ⟨rfl, rfl⟩ (fun  u H locs hp hI => ?_)
      replace hI : WI D A s.heap (wP cI cJ cZ p0 p1 p2 p3 n0 n1 n2 n3 n4 n5 n6 P_can P_picked o4 N_postCount N_roadCount N_first N_second N_number N_allowed N_at N_beside) H locs := hI
      obtain ⟨x5, ex5⟩ : ∃ y : Int32, y = (l5 + (1 : Int32)) := ⟨_, rfl⟩
      replace hf := bnd_e hf x5 ex5
      refine lv_iinc (v := x5) (lv' := [(5, .int x5), (0, .ref p0), (1, .int l1), (2, .int l2), (3, .int l3), (4, .int l4)]) hx hb dX4_takeOut_115 hl (k := 5) rfl (by rw [ex5]; rfl) (by decide) rfl (fun ls hl => ?_)
      refine lv_goto (tgt := 28) hx hb dX4_takeOut_118 (by decide) ?_
      replace hf := Option.some.inj hf
      subst hf
      exact hM _ _ _ hI (lv_sub hl [1, 2, 3, 4, 5, 0] rfl)
  have L28 : ∀ (l1 : Int32) (l2 : Int32) (l3 : Int32), ∀ (v : (Nat → Int32) × Int32 × Int32) (x : (Nat → Int32)), loopO (X4_takeOut_L28 rec N_roadCount N_beside l1 l2 l3) v = some x → (fun z : (Nat → Int32) => z = out) x → (fun (v : (Nat → Int32) × Int32 × Int32) => ∀ (H : Heap) (locs : List Loc) (ls : Array Slot), WI D A s.heap (wP cI cJ cZ p0 p1 p2 p3 n0 n1 n2 n3 n4 n5 n6 P_can P_picked v.1 N_postCount N_roadCount N_first N_second N_number N_allowed N_at N_beside) H locs → lv_has ls 6 [(0, .ref p0), (1, .int l1), (2, .int l2), (3, .int l3), (4, .int v.2.1), (5, .int v.2.2)] → GX4_takeOut d p l e s m below meth c D cI cJ cZ p0 p1 p2 p3 n0 n1 n2 n3 n4 n5 n6 P_can P_picked P_left_0 N_postCount N_roadCount N_first N_second N_number N_allowed N_at N_beside a1 a2 a3 out H locs (F0 m 28 ls [])) v := by
    intro l1 l2 l3
    refine loopO_ind (fun (v : (Nat → Int32) × Int32 × Int32) => ∀ (H : Heap) (locs : List Loc) (ls : Array Slot), WI D A s.heap (wP cI cJ cZ p0 p1 p2 p3 n0 n1 n2 n3 n4 n5 n6 P_can P_picked v.1 N_postCount N_roadCount N_first N_second N_number N_allowed N_at N_beside) H locs → lv_has ls 6 [(0, .ref p0), (1, .int l1), (2, .int l2), (3, .int l3), (4, .int v.2.1), (5, .int v.2.2)] → GX4_takeOut d p l e s m below meth c D cI cJ cZ p0 p1 p2 p3 n0 n1 n2 n3 n4 n5 n6 P_can P_picked P_left_0 N_postCount N_roadCount N_first N_second N_number N_allowed N_at N_beside a1 a2 a3 out H locs (F0 m 28 ls [])) (fun z : (Nat → Int32) => z = out) ?_
    intro v x hf hM H locs ls hI hl
    refine lv_iload hx hb dX4_takeOut_28 (lv_at hl 5 rfl) ?_
    refine lv_aload_n hx hb dX4_takeOut_30 rfl (lv_at hl 0 rfl) ?_
    refine w_get hx hb hg hown hK hI iX4 0 rfl rfl 0 (by decide) wF_RX4_22 rfl dX4_takeOut_31 ?_
    refine w_get hx hb hg hown hK hI iX3 4 rfl rfl 1 (by decide) wF_RX4_26 rfl dX4_takeOut_34 ?_
    refine lv_icmp_ge (tgt := 121) hx hb dX4_takeOut_37 (by decide) (fun hc => ?_) (fun hc => ?_)
    · replace hf := ite_t hc hf
      replace hf := Option.some.inj hf
      subst hf
      replace hM : v.1 = out := hM
      subst hM
      exact rt_v (u := ()) hx hb hr hlocks hI hAe trivial dX4_takeOut_121
    · replace hf := ite_f hc hf
      refine lv_iload hx hb dX4_takeOut_40 (lv_at hl 4 rfl) ?_
      refine lv_if_ne (tgt := 73) hx hb dX4_takeOut_42 (by decide) (fun hc => ?_) (fun hc => ?_)
      · replace hf := ite_f hc hf
        exact J73 v.1 l1 l2 l3 v.2.1 v.2.2 _ hf hM _ _ _ hI (lv_sub hl [0, 1, 2, 3, 4, 5] rfl)
      · replace hf := ite_t hc hf
        refine lv_iload_n hx hb dX4_takeOut_45 rfl (lv_at hl 2 rfl) ?_
        refine lv_iload hx hb dX4_takeOut_46 (lv_at hl 5 rfl) ?_
        obtain ⟨x6, hx6, hf⟩ := bd_e hf
        refine w_N (rest := []) hx hb hml hg hown hK (kX7_isIn l D cI cJ cZ l2 v.2.2 x6 hx6) ksX7_isIn (List.mem_of_getElem? (i := 5) rfl) ⟨by show 0 + 1 ≤ d + 2; omega, by show 8 + (2 + 11) + 0 ≤ 40 * (d + 2); omega⟩ ⟨rfl, rfl⟩ rfl rfl hl.1 (Nat.le_of_ble_eq_true rfl) dX4_takeOut_48 ⟨Nat.zero_le _, Nat.zero_le _⟩ ?_
        refine lv_if_eq (tgt := 73) hx hb dX4_takeOut_51 (by decide) (fun hc => ?_) (fun hc => ?_)
        · replace hf := ite_t hc hf
          exact J73 v.1 l1 l2 l3 v.2.1 v.2.2 _ hf hM _ _ _ hI (lv_sub hl [0, 1, 2, 3, 4, 5] rfl)
        · replace hf := ite_f hc hf
          refine lv_iconst (v := 1) hx hb dX4_takeOut_54 (by decide) ?_
          refine lv_iload hx hb dX4_takeOut_55 (lv_at hl 5 rfl) ?_
          refine lv_ishl hx hb dX4_takeOut_57 ?_
          refine lv_aload_n hx hb dX4_takeOut_58 rfl (lv_at hl 0 rfl) ?_
          refine w_get hx hb hg hown hK hI iX4 0 rfl rfl 0 (by decide) wF_RX4_22 rfl dX4_takeOut_59 ?_
          refine w_get hx hb hg hown hK hI iX3 4 rfl rfl 7 (by decide) wF_RX4_61 rfl dX4_takeOut_62 ?_
          refine lv_iload hx hb dX4_takeOut_65 (lv_at hl 5 rfl) ?_
          obtain ⟨hin, hf⟩ := rd_e hf
          refine w_iald hx hb hK hI 10 rfl hin dX4_takeOut_67 (fun x7 ex7 => ?_)
          replace hf := hf x7 ex7
          refine lv_ior hx hb dX4_takeOut_68 ?_
          refine lv_iload_n hx hb dX4_takeOut_69 rfl (lv_at hl 2 rfl) ?_
          refine lv_iand hx hb dX4_takeOut_70 ?_
          refine lv_topi (fun x8 ex8 => ?_)
          replace hf := bnd_e hf x8 ex8
          refine lv_istore (lv' := [(4, .int x8), (0, .ref p0), (1, .int l1), (2, .int l2), (3, .int l3), (5, .int v.2.2)]) hx hb dX4_takeOut_71 hl (by decide) rfl (fun ls hl => ?_)
          exact J73 v.1 l1 l2 l3 x8 v.2.2 _ hf hM _ _ _ hI (lv_sub hl [1, 2, 3, 4, 0, 5] rfl)
  have J11 : ∀ (P_left : Nat → Int32) (l1 : Int32) (l2 : Int32) (l3 : Int32) (x : (Nat → Int32)), X4_takeOut_J11 rec P_left N_roadCount N_beside l1 l2 l3 = some x → (fun z : (Nat → Int32) => z = out) x → ∀ (H : Heap) (locs : List Loc) (ls : Array Slot), WI D A s.heap (wP cI cJ cZ p0 p1 p2 p3 n0 n1 n2 n3 n4 n5 n6 P_can P_picked P_left N_postCount N_roadCount N_first N_second N_number N_allowed N_at N_beside) H locs → lv_has ls 6 [(0, .ref p0), (1, .int l1), (2, .int l2), (3, .int l3)] → GX4_takeOut d p l e s m below meth c D cI cJ cZ p0 p1 p2 p3 n0 n1 n2 n3 n4 n5 n6 P_can P_picked P_left_0 N_postCount N_roadCount N_first N_second N_number N_allowed N_at N_beside a1 a2 a3 out H locs (F0 m 11 ls []) := by
    intro P_left l1 l2 l3 x hf hM H locs ls hI hl
    refine lv_iload_n hx hb dX4_takeOut_11 rfl (lv_at hl 2 rfl) ?_
    refine lv_if_eq (tgt := 21) hx hb dX4_takeOut_12 (by decide) (fun hc => ?_) (fun hc => ?_)
    · replace hf := ite_t hc hf
      replace hf := Option.some.inj hf
      subst hf
      replace hM : P_left = out := hM
      subst hM
      exact rt_v (u := ()) hx hb hr hlocks hI hAe trivial dX4_takeOut_21
    · replace hf := ite_f hc hf
      refine lv_iload_n hx hb dX4_takeOut_15 rfl (lv_at hl 3 rfl) ?_
      refine lv_bipush (v := 12) hx hb dX4_takeOut_16 (by decide) ?_
      refine lv_icmp_lt (tgt := 22) hx hb dX4_takeOut_18 (by decide) (fun hc => ?_) (fun hc => ?_)
      · replace hf := ite_t hc hf
        refine lv_iconst (v := 0) hx hb dX4_takeOut_22 (by decide) ?_
        refine lv_istore (lv' := [(4, .int (0 : Int32)), (0, .ref p0), (1, .int l1), (2, .int l2), (3, .int l3)]) hx hb dX4_takeOut_23 hl (by decide) rfl (fun ls hl => ?_)
        refine lv_iconst (v := 0) hx hb dX4_takeOut_25 (by decide) ?_
        refine lv_istore (lv' := [(5, .int (0 : Int32)), (4, .int (0 : Int32)), (0, .ref p0), (1, .int l1), (2, .int l2), (3, .int l3)]) hx hb dX4_takeOut_26 hl (by decide) rfl (fun ls hl => ?_)
        exact L28 l1 l2 l3 (P_left, (0 : Int32), (0 : Int32)) _ hf hM _ _ _ hI (lv_sub hl [2, 3, 4, 5, 1, 0] rfl)
      · replace hf := ite_f hc hf
        replace hf := Option.some.inj hf
        subst hf
        replace hM : P_left = out := hM
        subst hM
        exact rt_v (u := ()) hx hb hr hlocks hI hAe trivial dX4_takeOut_21
  obtain ⟨x, hf, hM⟩ : ∃ x, BX4_takeOut rec P_left_0 N_roadCount N_beside a1 a2 a3 = some x ∧ x = out := ⟨out, hf, rfl⟩
  refine lv_iload_n hx hb dX4_takeOut_0 rfl (lv_at hl 2 rfl) ?_
  refine lv_if_ne (tgt := 11) hx hb dX4_takeOut_1 (by decide) (fun hc => ?_) (fun hc => ?_)
  · replace hf := ite_f hc hf
    exact J11 P_left_0 a1 a2 a3 _ hf hM _ _ _ hI (lv_sub hl [0, 1, 2, 3] rfl)
  · replace hf := ite_t hc hf
    refine lv_aload_n hx hb dX4_takeOut_4 rfl (lv_at hl 0 rfl) ?_
    refine w_get hx hb hg hown hK hI iX4 0 rfl rfl 3 (by decide) wF_RX4_18 rfl dX4_takeOut_5 ?_
    refine lv_iload_n hx hb dX4_takeOut_8 rfl (lv_at hl 1 rfl) ?_
    refine lv_iconst (v := 1) hx hb dX4_takeOut_9 (by decide) ?_
    obtain ⟨hin, hf⟩ := wr_e hf
    obtain ⟨g9, eg9⟩ : ∃ g : Nat → Int32, g = upd P_left_0 (a1).toNatClampNeg (vp_nar .boolean (1 : Int32)) := ⟨_, rfl⟩
    replace hf := hf g9 eg9
    refine w_zast (g := g9) (W1 := (wP cI cJ cZ p0 p1 p2 p3 n0 n1 n2 n3 n4 n5 n6 P_can P_picked g9 N_postCount N_roadCount N_first N_second N_number N_allowed N_at N_beside)) hx hb hK hI 3 rfl hin eg9 dX4_takeOut_10 rfl (fun H locs hI => ?_)
    exact J11 g9 a1 a2 a3 _ hf hM _ _ _ hI (lv_sub hl [0, 1, 2, 3] rfl)
theorem kX4_takeOut (d : Nat) (l : Launch) (D : va_G) (cI cJ cZ : ClassId) (p0 p1 p2 p3 n0 n1 n2 n3 n4 n5 n6 : Nat) : ∀ (P_can : Nat → Int32) (P_picked : Nat → Int32) (P_left_0 : Nat → Int32) (N_postCount : Int32) (N_roadCount : Int32) (N_first : Nat → Int32) (N_second : Nat → Int32) (N_number : Nat → Int32) (N_allowed : Nat → Int32) (N_at : Nat → Int32) (N_beside : Nat → Int32) (a1 : Int32) (a2 : Int32) (a3 : Int32) (out : (Nat → Int32)), FX4_takeOut d P_left_0 N_roadCount N_beside a1 a2 a3 = some out → MV l yX4_takeOut (Cond.code yX4_takeOut cX4_takeOut 6 none :: GW) { frames := d + 1, cells := 0, slots := 0, locals := 40 * (d + 1) } D cI cJ cZ [.ref p0, .int a1, .int a2, .int a3] (wP cI cJ cZ p0 p1 p2 p3 n0 n1 n2 n3 n4 n5 n6 P_can P_picked P_left_0 N_postCount N_roadCount N_first N_second N_number N_allowed N_at N_beside) (fun (_ : Unit) => True) (fun _ => (wP cI cJ cZ p0 p1 p2 p3 n0 n1 n2 n3 n4 n5 n6 P_can P_picked out N_postCount N_roadCount N_first N_second N_number N_allowed N_at N_beside)) := by
  induction d with
  | zero => intro P_can P_picked P_left_0 N_postCount N_roadCount N_first N_second N_number N_allowed N_at N_beside a1 a2 a3 out hf; cases hf
  | succ d ih => intro P_can P_picked P_left_0 N_postCount N_roadCount N_first N_second N_number N_allowed N_at N_beside a1 a2 a3 out hf; exact bkX4_takeOut d (FX4_takeOut d) l D cI cJ cZ p0 p1 p2 p3 n0 n1 n2 n3 n4 n5 n6 ih P_can P_picked P_left_0 N_postCount N_roadCount N_first N_second N_number N_allowed N_at N_beside a1 a2 a3 out hf
noncomputable def X4_giveNumber_J55 (P_left : Nat → Int32) (N_roadCount : Int32) (N_beside : Nat → Int32) (l1 : Int32) (l2 : Int32) (l3 : Int32) (l4 : Int32) (l5 : Int32) : Option (((Nat → Int32) × Int32 × Int32) ⊕ ((Nat → Int32))) :=
  bnd ((l4 - l1) &&& l1) (fun x4 => bnd (l5 + (1 : Int32)) (fun x5 => some (.inl (P_left, x4, x5))))
noncomputable def X4_giveNumber_L13 (N_roadCount : Int32) (N_beside : Nat → Int32) (l1 : Int32) (l2 : Int32) (l3 : Int32) (v : (Nat → Int32) × Int32 × Int32) : Option (((Nat → Int32) × Int32 × Int32) ⊕ ((Nat → Int32))) :=
  if l3 ≤ v.2.2 then (some (.inr v.1)) else (rd v.1 4096 v.2.1 (fun x3 => if x3 = (0 : Int32) then (X4_giveNumber_J55 v.1 N_roadCount N_beside l1 l2 l3 v.2.1 v.2.2) else (if (v.2.1 &&& l2) = (0 : Int32) then (X4_giveNumber_J55 v.1 N_roadCount N_beside l1 l2 l3 v.2.1 v.2.2) else (wr v.1 4096 v.2.1 (vp_nar .boolean (0 : Int32)) (fun g6 => (FX4_takeOut 14 g6 N_roadCount N_beside v.2.1 (v.2.1 &&& l2) (0 : Int32)).bind (fun o7 => X4_giveNumber_J55 o7 N_roadCount N_beside l1 l2 l3 v.2.1 v.2.2))))))
noncomputable def FX4_giveNumber (P_left_0 : Nat → Int32) (N_roadCount : Int32) (N_beside : Nat → Int32) (a1 : Int32) (a2 : Int32) : Option ((Nat → Int32)) :=
  (FJ6_bitCount_0f7a4 a1).bind (fun x1 => bnd ((1 : Int32) <<< (x1 &&& (31 : Int32))) (fun x2 => loopO (X4_giveNumber_L13 N_roadCount N_beside a1 a2 x2) (P_left_0, (0 : Int32), (0 : Int32))))
abbrev GX4_giveNumber (p : Program) (l : Launch) (e : Env) (s : State) (m : MethodId) (below : List Frame) (meth : Method) (c : Code) (D : va_G) (cI cJ cZ : ClassId) (p0 p1 p2 p3 n0 n1 n2 n3 n4 n5 n6 : Nat) (P_can : Nat → Int32) (P_picked : Nat → Int32) (P_left_0 : Nat → Int32) (N_postCount : Int32) (N_roadCount : Int32) (N_first : Nat → Int32) (N_second : Nat → Int32) (N_number : Nat → Int32) (N_allowed : Nat → Int32) (N_at : Nat → Int32) (N_beside : Nat → Int32) (a1 : Int32) (a2 : Int32) (out : (Nat → Int32)) (H : Heap) (locs : List Loc) (g : JFrame) : Prop := W p l e (headSpec (Cond.code yX4_giveNumber cX4_giveNumber 6 none :: GW) { frames := 16, cells := 0, slots := 0, locals := 640 }).room s m ([.ref p0, .int a1, .int a2] : List Value).toArray below meth c H locs 0 0 (MQ below (va_Qv (fun (_ : Unit) => True) (BW D (wP cI cJ cZ p0 p1 p2 p3 n0 n1 n2 n3 n4 n5 n6 P_can P_picked P_left_0 N_postCount N_roadCount N_first N_second N_number N_allowed N_at N_beside) s.heap.size (fun _ => (wP cI cJ cZ p0 p1 p2 p3 n0 n1 n2 n3 n4 n5 n6 P_can P_picked out N_postCount N_roadCount N_first N_second N_number N_allowed N_at N_beside))) (va_A (wP cI cJ cZ p0 p1 p2 p3 n0 n1 n2 n3 n4 n5 n6 P_can P_picked P_left_0 N_postCount N_roadCount N_first N_second N_number N_allowed N_at N_beside) s.heap.size)) ([.ref p0, .int a1, .int a2] : List Value).toArray s 0 0 (va_A (wP cI cJ cZ p0 p1 p2 p3 n0 n1 n2 n3 n4 n5 n6 P_can P_picked P_left_0 N_postCount N_roadCount N_first N_second N_number N_allowed N_at N_beside) s.heap.size)) g
theorem kvX4_giveNumber : CalV RX4 yX4_giveNumber cX4_giveNumber 6 none 2 := ⟨wC_yX4_giveNumber, wM_yX4_giveNumber, wS_yX4_giveNumber, wI_RX4, by decide +kernel⟩
set_option maxHeartbeats 4000000 in
set_option maxRecDepth 100000 in
theorem kX4_giveNumber (l : Launch) (D : va_G) (cI cJ cZ : ClassId) (p0 p1 p2 p3 n0 n1 n2 n3 n4 n5 n6 : Nat) (P_can : Nat → Int32) (P_picked : Nat → Int32) (P_left_0 : Nat → Int32) (N_postCount : Int32) (N_roadCount : Int32) (N_first : Nat → Int32) (N_second : Nat → Int32) (N_number : Nat → Int32) (N_allowed : Nat → Int32) (N_at : Nat → Int32) (N_beside : Nat → Int32) (a1 : Int32) (a2 : Int32) (out : (Nat → Int32)) (hf : FX4_giveNumber P_left_0 N_roadCount N_beside a1 a2 = some out) : MV l yX4_giveNumber (Cond.code yX4_giveNumber cX4_giveNumber 6 none :: GW) { frames := 16, cells := 0, slots := 0, locals := 640 } D cI cJ cZ [.ref p0, .int a1, .int a2] (wP cI cJ cZ p0 p1 p2 p3 n0 n1 n2 n3 n4 n5 n6 P_can P_picked P_left_0 N_postCount N_roadCount N_first N_second N_number N_allowed N_at N_beside) (fun (_ : Unit) => True) (fun _ => (wP cI cJ cZ p0 p1 p2 p3 n0 n1 n2 n3 n4 n5 n6 P_can P_picked out N_postCount N_roadCount N_first N_second N_number N_allowed N_at N_beside)) := by
  intro sz
  refine Met.ofW (cc := cX4_giveNumber) (maxL := 6) (ret := none) (by decide +kernel) rfl ?_
  intro p e s m args below meth c s₁ B hml hv
  obtain ⟨rfl, hsz, hP, hK, hD0⟩ := hv
  have hx := B.exec
  have hb := B.bytes
  have hr := B.returns
  have hlocks := B.notSynchronized
  have hg : ∀ w ∈ GW, w.before _ s = true := fun w h => atoms_spec (ws := Cond.code yX4_giveNumber cX4_giveNumber 6 none :: GW) B.pre w (List.mem_cons_of_mem _ h)
  have hown : s.vm.findClass RX4 = some m.cls := findClass_of_methodNamed B.named
  subst hsz
  obtain ⟨A, hAe⟩ : ∃ A, A = va_A (wP cI cJ cZ p0 p1 p2 p3 n0 n1 n2 n3 n4 n5 n6 P_can P_picked P_left_0 N_postCount N_roadCount N_first N_second N_number N_allowed N_at N_beside) s.heap.size := ⟨_, rfl⟩
  have hA : ∀ q : Nat, s.heap.size ≤ q → A q := fun q h => by rw [hAe]; exact Or.inr h
  have hI : WI D A s.heap (wP cI cJ cZ p0 p1 p2 p3 n0 n1 n2 n3 n4 n5 n6 P_can P_picked P_left_0 N_postCount N_roadCount N_first N_second N_number N_allowed N_at N_beside) s.heap [] := ⟨hP, by rw [hAe]; exact hD0.self, va_S.rf⟩
  have hl := lv_entry [.ref p0, .int a1, .int a2] (n := 6) (Nat.le_of_ble_eq_true rfl)
  rw [lg_entry_eq]
  generalize (lg_sl [.ref p0, .int a1, .int a2] ++ List.replicate (6 - (lg_sl [.ref p0, .int a1, .int a2]).length) Slot.unset).toArray = ls at hl ⊢
  replace hl : lv_has ls 6 [(0, .ref p0), (1, .int a1), (2, .int a2)] := hl
  have J55 : ∀ (P_left : Nat → Int32) (l1 : Int32) (l2 : Int32) (l3 : Int32) (l4 : Int32) (l5 : Int32) (x : ((Nat → Int32) × Int32 × Int32) ⊕ ((Nat → Int32))), X4_giveNumber_J55 P_left N_roadCount N_beside l1 l2 l3 l4 l5 = some x → (fun z => Sum.elim (fun (v1 : (Nat → Int32) × Int32 × Int32) => ∀ (H : Heap) (locs : List Loc) (ls : Array Slot), WI D A s.heap (wP cI cJ cZ p0 p1 p2 p3 n0 n1 n2 n3 n4 n5 n6 P_can P_picked v1.1 N_postCount N_roadCount N_first N_second N_number N_allowed N_at N_beside) H locs → lv_has ls 6 [(0, .ref p0), (1, .int l1), (2, .int l2), (3, .int l3), (4, .int v1.2.1), (5, .int v1.2.2)] → GX4_giveNumber p l e s m below meth c D cI cJ cZ p0 p1 p2 p3 n0 n1 n2 n3 n4 n5 n6 P_can P_picked P_left_0 N_postCount N_roadCount N_first N_second N_number N_allowed N_at N_beside a1 a2 out H locs (F0 m 13 ls [])) (fun z : (Nat → Int32) => z = out) z) x → ∀ (H : Heap) (locs : List Loc) (ls : Array Slot), WI D A s.heap (wP cI cJ cZ p0 p1 p2 p3 n0 n1 n2 n3 n4 n5 n6 P_can P_picked P_left N_postCount N_roadCount N_first N_second N_number N_allowed N_at N_beside) H locs → lv_has ls 6 [(0, .ref p0), (1, .int l1), (2, .int l2), (3, .int l3), (4, .int l4), (5, .int l5)] → GX4_giveNumber p l e s m below meth c D cI cJ cZ p0 p1 p2 p3 n0 n1 n2 n3 n4 n5 n6 P_can P_picked P_left_0 N_postCount N_roadCount N_first N_second N_number N_allowed N_at N_beside a1 a2 out H locs (F0 m 55 ls []) := by
    intro P_left l1 l2 l3 l4 l5 x hf hM H locs ls hI hl
    refine lv_iload hx hb dX4_giveNumber_55 (lv_at hl 4 rfl) ?_
    refine lv_iload_n hx hb dX4_giveNumber_57 rfl (lv_at hl 1 rfl) ?_
    refine lv_isub hx hb dX4_giveNumber_58 ?_
    refine lv_iload_n hx hb dX4_giveNumber_59 rfl (lv_at hl 1 rfl) ?_
    refine lv_iand hx hb dX4_giveNumber_60 ?_
    refine lv_topi (fun x4 ex4 => ?_)
    replace hf := bnd_e hf x4 ex4
    refine lv_istore (lv' := [(4, .int x4), (0, .ref p0), (1, .int l1), (2, .int l2), (3, .int l3), (5, .int l5)]) hx hb dX4_giveNumber_61 hl (by decide) rfl (fun ls hl => ?_)
    obtain ⟨x5, ex5⟩ : ∃ y : Int32, y = (l5 + (1 : Int32)) := ⟨_, rfl⟩
    replace hf := bnd_e hf x5 ex5
    refine lv_iinc (v := x5) (lv' := [(5, .int x5), (4, .int x4), (0, .ref p0), (1, .int l1), (2, .int l2), (3, .int l3)]) hx hb dX4_giveNumber_63 hl (k := 5) rfl (by rw [ex5]; rfl) (by decide) rfl (fun ls hl => ?_)
    refine lv_goto (tgt := 13) hx hb dX4_giveNumber_66 (by decide) ?_
    replace hf := Option.some.inj hf
    subst hf
    exact hM _ _ _ hI (lv_sub hl [2, 3, 4, 5, 1, 0] rfl)
  have L13 : ∀ (l1 : Int32) (l2 : Int32) (l3 : Int32), ∀ (v : (Nat → Int32) × Int32 × Int32) (x : (Nat → Int32)), loopO (X4_giveNumber_L13 N_roadCount N_beside l1 l2 l3) v = some x → (fun z : (Nat → Int32) => z = out) x → (fun (v : (Nat → Int32) × Int32 × Int32) => ∀ (H : Heap) (locs : List Loc) (ls : Array Slot), WI D A s.heap (wP cI cJ cZ p0 p1 p2 p3 n0 n1 n2 n3 n4 n5 n6 P_can P_picked v.1 N_postCount N_roadCount N_first N_second N_number N_allowed N_at N_beside) H locs → lv_has ls 6 [(0, .ref p0), (1, .int l1), (2, .int l2), (3, .int l3), (4, .int v.2.1), (5, .int v.2.2)] → GX4_giveNumber p l e s m below meth c D cI cJ cZ p0 p1 p2 p3 n0 n1 n2 n3 n4 n5 n6 P_can P_picked P_left_0 N_postCount N_roadCount N_first N_second N_number N_allowed N_at N_beside a1 a2 out H locs (F0 m 13 ls [])) v := by
    intro l1 l2 l3
    refine loopO_ind (fun (v : (Nat → Int32) × Int32 × Int32) => ∀ (H : Heap) (locs : List Loc) (ls : Array Slot), WI D A s.heap (wP cI cJ cZ p0 p1 p2 p3 n0 n1 n2 n3 n4 n5 n6 P_can P_picked v.1 N_postCount N_roadCount N_first N_second N_number N_allowed N_at N_beside) H locs → lv_has ls 6 [(0, .ref p0), (1, .int l1), (2, .int l2), (3, .int l3), (4, .int v.2.1), (5, .int v.2.2)] → GX4_giveNumber p l e s m below meth c D cI cJ cZ p0 p1 p2 p3 n0 n1 n2 n3 n4 n5 n6 P_can P_picked P_left_0 N_postCount N_roadCount N_first N_second N_number N_allowed N_at N_beside a1 a2 out H locs (F0 m 13 ls [])) (fun z : (Nat → Int32) => z = out) ?_
    intro v x hf hM H locs ls hI hl
    refine lv_iload hx hb dX4_giveNumber_13 (lv_at hl 5 rfl) ?_
    refine lv_iload_n hx hb dX4_giveNumber_15 rfl (lv_at hl 3 rfl) ?_
    refine lv_icmp_ge (tgt := 69) hx hb dX4_giveNumber_16 (by decide) (fun hc => ?_) (fun hc => ?_)
    · replace hf := ite_t hc hf
      replace hf := Option.some.inj hf
      subst hf
      replace hM : v.1 = out := hM
      subst hM
      exact rt_v (u := ()) hx hb hr hlocks hI hAe trivial dX4_giveNumber_69
    · replace hf := ite_f hc hf
      refine lv_aload_n hx hb dX4_giveNumber_19 rfl (lv_at hl 0 rfl) ?_
      refine w_get hx hb hg hown hK hI iX4 0 rfl rfl 3 (by decide) wF_RX4_18 rfl dX4_giveNumber_20 ?_
      refine lv_iload hx hb dX4_giveNumber_23 (lv_at hl 4 rfl) ?_
      obtain ⟨hin, hf⟩ := rd_e hf
      refine w_zald hx hb hK hI 3 rfl hin dX4_giveNumber_25 (fun x3 ex3 => ?_)
      replace hf := hf x3 ex3
      refine lv_if_eq (tgt := 55) hx hb dX4_giveNumber_26 (by decide) (fun hc => ?_) (fun hc => ?_)
      · replace hf := ite_t hc hf
        exact J55 v.1 l1 l2 l3 v.2.1 v.2.2 _ hf hM _ _ _ hI (lv_sub hl [0, 1, 2, 3, 4, 5] rfl)
      · replace hf := ite_f hc hf
        refine lv_iload hx hb dX4_giveNumber_29 (lv_at hl 4 rfl) ?_
        refine lv_iload_n hx hb dX4_giveNumber_31 rfl (lv_at hl 2 rfl) ?_
        refine lv_iand hx hb dX4_giveNumber_32 ?_
        refine lv_if_eq (tgt := 55) hx hb dX4_giveNumber_33 (by decide) (fun hc => ?_) (fun hc => ?_)
        · replace hf := ite_t hc hf
          exact J55 v.1 l1 l2 l3 v.2.1 v.2.2 _ hf hM _ _ _ hI (lv_sub hl [0, 1, 2, 3, 4, 5] rfl)
        · replace hf := ite_f hc hf
          refine lv_aload_n hx hb dX4_giveNumber_36 rfl (lv_at hl 0 rfl) ?_
          refine w_get hx hb hg hown hK hI iX4 0 rfl rfl 3 (by decide) wF_RX4_18 rfl dX4_giveNumber_37 ?_
          refine lv_iload hx hb dX4_giveNumber_40 (lv_at hl 4 rfl) ?_
          refine lv_iconst (v := 0) hx hb dX4_giveNumber_42 (by decide) ?_
          obtain ⟨hin, hf⟩ := wr_e hf
          obtain ⟨g6, eg6⟩ : ∃ g : Nat → Int32, g = upd v.1 (v.2.1).toNatClampNeg (vp_nar .boolean (0 : Int32)) := ⟨_, rfl⟩
          replace hf := hf g6 eg6
          refine w_zast (g := g6) (W1 := (wP cI cJ cZ p0 p1 p2 p3 n0 n1 n2 n3 n4 n5 n6 P_can P_picked g6 N_postCount N_roadCount N_first N_second N_number N_allowed N_at N_beside)) hx hb hK hI 3 rfl hin eg6 dX4_giveNumber_43 rfl (fun H locs hI => ?_)
          refine lv_aload_n hx hb dX4_giveNumber_44 rfl (lv_at hl 0 rfl) ?_
          refine lv_iload hx hb dX4_giveNumber_45 (lv_at hl 4 rfl) ?_
          refine lv_iload hx hb dX4_giveNumber_47 (lv_at hl 4 rfl) ?_
          refine lv_iload_n hx hb dX4_giveNumber_49 rfl (lv_at hl 2 rfl) ?_
          refine lv_iand hx hb dX4_giveNumber_50 ?_
          refine lv_iconst (v := 0) hx hb dX4_giveNumber_51 (by decide) ?_
          obtain ⟨o7, ho7, hf⟩ := bd_e hf
          refine w_Vv0 (wc := (wP cI cJ cZ p0 p1 p2 p3 n0 n1 n2 n3 n4 n5 n6 P_can P_picked g6 N_postCount N_roadCount N_first N_second N_number N_allowed N_at N_beside)) (wr := []) (rest := []) hx hb hml hg hown hK hA hI (kX4_takeOut 14 l D cI cJ cZ p0 p1 p2 p3 n0 n1 n2 n3 n4 n5 n6 P_can P_picked g6 N_postCount N_roadCount N_first N_second N_number N_allowed N_at N_beside v.2.1 (v.2.1 &&& l2) (0 : Int32) o7 ho7) kvX4_takeOut wL_RX4_100 ⟨Nat.le_of_ble_eq_true rfl, Nat.le_of_ble_eq_true rfl⟩ rfl rfl [0, 1, 2, 3, 4, 5, 6, 7, 8, 9, 10] [] rfl rfl rfl rfl (by decide) rfl rfl hl.1 (Nat.le_of_ble_eq_true rfl) dX4_giveNumber_52 ⟨Nat.zero_le _, Nat.zero_le _⟩ ⟨rfl, rfl⟩ (fun  u H locs hp hI => ?_)
          replace hI : WI D A s.heap (wP cI cJ cZ p0 p1 p2 p3 n0 n1 n2 n3 n4 n5 n6 P_can P_picked o7 N_postCount N_roadCount N_first N_second N_number N_allowed N_at N_beside) H locs := hI
          exact J55 o7 l1 l2 l3 v.2.1 v.2.2 _ hf hM _ _ _ hI (lv_sub hl [0, 1, 2, 3, 4, 5] rfl)
  obtain ⟨x, hf, hM⟩ : ∃ x, FX4_giveNumber P_left_0 N_roadCount N_beside a1 a2 = some x ∧ x = out := ⟨out, hf, rfl⟩
  refine lv_iconst (v := 1) hx hb dX4_giveNumber_0 (by decide) ?_
  refine lv_iload_n hx hb dX4_giveNumber_1 rfl (lv_at hl 1 rfl) ?_
  obtain ⟨x1, hx1, hf⟩ := bd_e hf
  refine w_S (rest := [.int (1 : Int32)]) hx hb hml hg hown hK (kJ6_bitCount_0f7a4 l D cI cJ cZ a1 x1 hx1) ksJ6_bitCount_0f7a4 wL_RX4_81 ⟨Nat.le_of_ble_eq_true rfl, Nat.le_of_ble_eq_true rfl⟩ ⟨rfl, rfl⟩ rfl rfl hl.1 (Nat.le_of_ble_eq_true rfl) dX4_giveNumber_2 ⟨Nat.zero_le _, Nat.zero_le _⟩ ?_
  refine lv_ishl hx hb dX4_giveNumber_5 ?_
  refine lv_topi (fun x2 ex2 => ?_)
  replace hf := bnd_e hf x2 ex2
  refine lv_istore_n (lv' := [(3, .int x2), (0, .ref p0), (1, .int a1), (2, .int a2)]) hx hb dX4_giveNumber_6 rfl hl (by decide) rfl (fun ls hl => ?_)
  refine lv_iconst (v := 0) hx hb dX4_giveNumber_7 (by decide) ?_
  refine lv_istore (lv' := [(4, .int (0 : Int32)), (3, .int x2), (0, .ref p0), (1, .int a1), (2, .int a2)]) hx hb dX4_giveNumber_8 hl (by decide) rfl (fun ls hl => ?_)
  refine lv_iconst (v := 0) hx hb dX4_giveNumber_10 (by decide) ?_
  refine lv_istore (lv' := [(5, .int (0 : Int32)), (4, .int (0 : Int32)), (3, .int x2), (0, .ref p0), (1, .int a1), (2, .int a2)]) hx hb dX4_giveNumber_11 hl (by decide) rfl (fun ls hl => ?_)
  exact L13 a1 a2 x2 (P_left_0, (0 : Int32), (0 : Int32)) _ hf hM _ _ _ hI (lv_sub hl [3, 4, 5, 2, 1, 0] rfl)
noncomputable def X4_isPossible_L50 (P_can : Nat → Int32) (N_roadCount : Int32) (N_beside : Nat → Int32) (l2 : Int32) (v : (Nat → Int32) × Int32) : Option (((Nat → Int32) × Int32) ⊕ (Int32 × (Nat → Int32))) :=
  if (16 : Int32) ≤ v.2 then (rd v.1 4096 (0 : Int32) (fun x7 => if x7 = (0 : Int32) ∨ x7 = (1 : Int32) then (some (.inr (x7, v.1))) else none)) else (rd v.1 4096 (0 : Int32) (fun x8 => if x8 = (0 : Int32) then ((FX4_roadsThatCan P_can N_roadCount l2 v.2).bind (fun o10 => (FX4_giveNumber v.1 N_roadCount N_beside l2 o10).bind (fun o11 => bnd (v.2 + (1 : Int32)) (fun x12 => some (.inl (o11, x12)))))) else (rd v.1 4096 (0 : Int32) (fun x9 => if x9 = (0 : Int32) ∨ x9 = (1 : Int32) then (some (.inr (x9, v.1))) else none))))
noncomputable def FX4_isPossible (P_can : Nat → Int32) (P_left_0 : Nat → Int32) (N_roadCount : Int32) (N_first : Nat → Int32) (N_second : Nat → Int32) (N_beside : Nat → Int32) (a1 : Int32) : Option (Int32 × (Nat → Int32)) :=
  (FX4_hasEmptyHanded P_can N_roadCount a1).bind (fun o1 => if o1 = (0 : Int32) then ((FX4_hardOnes P_can N_roadCount N_beside a1).bind (fun o2 => if o2 = (0 : Int32) then (some ((1 : Int32), P_left_0)) else ((FX4_mostGiven P_can N_roadCount N_first N_second o2).bind (fun o3 => (FJ6_bitCount_0f7a4 o2).bind (fun x4 => if x4 ≤ o3 then ((FX4_clearLeft P_left_0 o2).bind (fun o5 => wr o5 4096 o2 (vp_nar .boolean (1 : Int32)) (fun g6 => loopO (X4_isPossible_L50 P_can N_roadCount N_beside o2) (g6, (0 : Int32))))) else (some ((0 : Int32), P_left_0))))))) else (some ((0 : Int32), P_left_0)))
abbrev GX4_isPossible (p : Program) (l : Launch) (e : Env) (s : State) (m : MethodId) (below : List Frame) (meth : Method) (c : Code) (D : va_G) (cI cJ cZ : ClassId) (p0 p1 p2 p3 n0 n1 n2 n3 n4 n5 n6 : Nat) (P_can : Nat → Int32) (P_picked : Nat → Int32) (P_left_0 : Nat → Int32) (N_postCount : Int32) (N_roadCount : Int32) (N_first : Nat → Int32) (N_second : Nat → Int32) (N_number : Nat → Int32) (N_allowed : Nat → Int32) (N_at : Nat → Int32) (N_beside : Nat → Int32) (a1 : Int32) (out : Int32 × (Nat → Int32)) (H : Heap) (locs : List Loc) (g : JFrame) : Prop := W p l e (headSpec (Cond.code yX4_isPossible cX4_isPossible 4 (some .boolean) :: GW) { frames := 17, cells := 0, slots := 0, locals := 665 }).room s m ([.ref p0, .int a1] : List Value).toArray below meth c H locs 0 0 (MQ below (va_Qi (fun r (_ : Unit) => r = out.1) (BW D (wP cI cJ cZ p0 p1 p2 p3 n0 n1 n2 n3 n4 n5 n6 P_can P_picked P_left_0 N_postCount N_roadCount N_first N_second N_number N_allowed N_at N_beside) s.heap.size (fun _ => (wP cI cJ cZ p0 p1 p2 p3 n0 n1 n2 n3 n4 n5 n6 P_can P_picked out.2 N_postCount N_roadCount N_first N_second N_number N_allowed N_at N_beside))) (va_A (wP cI cJ cZ p0 p1 p2 p3 n0 n1 n2 n3 n4 n5 n6 P_can P_picked P_left_0 N_postCount N_roadCount N_first N_second N_number N_allowed N_at N_beside) s.heap.size)) ([.ref p0, .int a1] : List Value).toArray s 0 0 (va_A (wP cI cJ cZ p0 p1 p2 p3 n0 n1 n2 n3 n4 n5 n6 P_can P_picked P_left_0 N_postCount N_roadCount N_first N_second N_number N_allowed N_at N_beside) s.heap.size)) g
theorem kvX4_isPossible : CalV RX4 yX4_isPossible cX4_isPossible 4 (some .boolean) 1 := ⟨wC_yX4_isPossible, wM_yX4_isPossible, wS_yX4_isPossible, wI_RX4, by decide +kernel⟩
set_option maxHeartbeats 4000000 in
set_option maxRecDepth 100000 in
theorem kX4_isPossible (l : Launch) (D : va_G) (cI cJ cZ : ClassId) (p0 p1 p2 p3 n0 n1 n2 n3 n4 n5 n6 : Nat) (P_can : Nat → Int32) (P_picked : Nat → Int32) (P_left_0 : Nat → Int32) (N_postCount : Int32) (N_roadCount : Int32) (N_first : Nat → Int32) (N_second : Nat → Int32) (N_number : Nat → Int32) (N_allowed : Nat → Int32) (N_at : Nat → Int32) (N_beside : Nat → Int32) (a1 : Int32) (out : Int32 × (Nat → Int32)) (hf : FX4_isPossible P_can P_left_0 N_roadCount N_first N_second N_beside a1 = some out) : MI l yX4_isPossible (Cond.code yX4_isPossible cX4_isPossible 4 (some .boolean) :: GW) { frames := 17, cells := 0, slots := 0, locals := 665 } D cI cJ cZ [.ref p0, .int a1] (wP cI cJ cZ p0 p1 p2 p3 n0 n1 n2 n3 n4 n5 n6 P_can P_picked P_left_0 N_postCount N_roadCount N_first N_second N_number N_allowed N_at N_beside) (fun r (_ : Unit) => r = out.1) (fun _ => (wP cI cJ cZ p0 p1 p2 p3 n0 n1 n2 n3 n4 n5 n6 P_can P_picked out.2 N_postCount N_roadCount N_first N_second N_number N_allowed N_at N_beside)) := by
  intro sz
  refine Met.ofW (cc := cX4_isPossible) (maxL := 4) (ret := (some .boolean)) (by decide +kernel) rfl ?_
  intro p e s m args below meth c s₁ B hml hv
  obtain ⟨rfl, hsz, hP, hK, hD0⟩ := hv
  have hx := B.exec
  have hb := B.bytes
  have hr := B.returns
  have hlocks := B.notSynchronized
  have hg : ∀ w ∈ GW, w.before _ s = true := fun w h => atoms_spec (ws := Cond.code yX4_isPossible cX4_isPossible 4 (some .boolean) :: GW) B.pre w (List.mem_cons_of_mem _ h)
  have hown : s.vm.findClass RX4 = some m.cls := findClass_of_methodNamed B.named
  subst hsz
  obtain ⟨A, hAe⟩ : ∃ A, A = va_A (wP cI cJ cZ p0 p1 p2 p3 n0 n1 n2 n3 n4 n5 n6 P_can P_picked P_left_0 N_postCount N_roadCount N_first N_second N_number N_allowed N_at N_beside) s.heap.size := ⟨_, rfl⟩
  have hA : ∀ q : Nat, s.heap.size ≤ q → A q := fun q h => by rw [hAe]; exact Or.inr h
  have hI : WI D A s.heap (wP cI cJ cZ p0 p1 p2 p3 n0 n1 n2 n3 n4 n5 n6 P_can P_picked P_left_0 N_postCount N_roadCount N_first N_second N_number N_allowed N_at N_beside) s.heap [] := ⟨hP, by rw [hAe]; exact hD0.self, va_S.rf⟩
  have hl := lv_entry [.ref p0, .int a1] (n := 4) (Nat.le_of_ble_eq_true rfl)
  rw [lg_entry_eq]
  generalize (lg_sl [.ref p0, .int a1] ++ List.replicate (4 - (lg_sl [.ref p0, .int a1]).length) Slot.unset).toArray = ls at hl ⊢
  replace hl : lv_has ls 4 [(0, .ref p0), (1, .int a1)] := hl
  have L50 : ∀ (l2 : Int32), ∀ (v : (Nat → Int32) × Int32) (x : Int32 × (Nat → Int32)), loopO (X4_isPossible_L50 P_can N_roadCount N_beside l2) v = some x → (fun z : Int32 × (Nat → Int32) => z = out) x → (fun (v : (Nat → Int32) × Int32) => ∀ (H : Heap) (locs : List Loc) (ls : Array Slot), WI D A s.heap (wP cI cJ cZ p0 p1 p2 p3 n0 n1 n2 n3 n4 n5 n6 P_can P_picked v.1 N_postCount N_roadCount N_first N_second N_number N_allowed N_at N_beside) H locs → lv_has ls 4 [(0, .ref p0), (2, .int l2), (3, .int v.2)] → GX4_isPossible p l e s m below meth c D cI cJ cZ p0 p1 p2 p3 n0 n1 n2 n3 n4 n5 n6 P_can P_picked P_left_0 N_postCount N_roadCount N_first N_second N_number N_allowed N_at N_beside a1 out H locs (F0 m 50 ls [])) v := by
    intro l2
    refine loopO_ind (fun (v : (Nat → Int32) × Int32) => ∀ (H : Heap) (locs : List Loc) (ls : Array Slot), WI D A s.heap (wP cI cJ cZ p0 p1 p2 p3 n0 n1 n2 n3 n4 n5 n6 P_can P_picked v.1 N_postCount N_roadCount N_first N_second N_number N_allowed N_at N_beside) H locs → lv_has ls 4 [(0, .ref p0), (2, .int l2), (3, .int v.2)] → GX4_isPossible p l e s m below meth c D cI cJ cZ p0 p1 p2 p3 n0 n1 n2 n3 n4 n5 n6 P_can P_picked P_left_0 N_postCount N_roadCount N_first N_second N_number N_allowed N_at N_beside a1 out H locs (F0 m 50 ls [])) (fun z : Int32 × (Nat → Int32) => z = out) ?_
    intro v x hf hM H locs ls hI hl
    refine lv_iload_n hx hb dX4_isPossible_50 rfl (lv_at hl 2 rfl) ?_
    refine lv_bipush (v := 16) hx hb dX4_isPossible_51 (by decide) ?_
    refine lv_icmp_ge (tgt := 82) hx hb dX4_isPossible_53 (by decide) (fun hc => ?_) (fun hc => ?_)
    · replace hf := ite_t hc hf
      refine lv_aload_n hx hb dX4_isPossible_82 rfl (lv_at hl 0 rfl) ?_
      refine w_get hx hb hg hown hK hI iX4 0 rfl rfl 3 (by decide) wF_RX4_18 rfl dX4_isPossible_83 ?_
      refine lv_iconst (v := 0) hx hb dX4_isPossible_86 (by decide) ?_
      obtain ⟨hin, hf⟩ := rd_e hf
      refine w_zald hx hb hK hI 3 rfl hin dX4_isPossible_87 (fun x7 ex7 => ?_)
      replace hf := hf x7 ex7
      obtain ⟨hz, hf⟩ := zb_e hf
      replace hf := Option.some.inj hf
      subst hf
      replace hM : (x7, v.1) = out := hM
      subst hM
      exact rt_i (u := ()) hx hb hr hlocks (zb_n hz) hI hAe rfl dX4_isPossible_88
    · replace hf := ite_f hc hf
      refine lv_aload_n hx hb dX4_isPossible_56 rfl (lv_at hl 0 rfl) ?_
      refine w_get hx hb hg hown hK hI iX4 0 rfl rfl 3 (by decide) wF_RX4_18 rfl dX4_isPossible_57 ?_
      refine lv_iconst (v := 0) hx hb dX4_isPossible_60 (by decide) ?_
      obtain ⟨hin, hf⟩ := rd_e hf
      refine w_zald hx hb hK hI 3 rfl hin dX4_isPossible_61 (fun x8 ex8 => ?_)
      replace hf := hf x8 ex8
      refine lv_if_ne (tgt := 82) hx hb dX4_isPossible_62 (by decide) (fun hc => ?_) (fun hc => ?_)
      · replace hf := ite_f hc hf
        refine lv_aload_n hx hb dX4_isPossible_82 rfl (lv_at hl 0 rfl) ?_
        refine w_get hx hb hg hown hK hI iX4 0 rfl rfl 3 (by decide) wF_RX4_18 rfl dX4_isPossible_83 ?_
        refine lv_iconst (v := 0) hx hb dX4_isPossible_86 (by decide) ?_
        obtain ⟨hin, hf⟩ := rd_e hf
        refine w_zald hx hb hK hI 3 rfl hin dX4_isPossible_87 (fun x9 ex9 => ?_)
        replace hf := hf x9 ex9
        obtain ⟨hz, hf⟩ := zb_e hf
        replace hf := Option.some.inj hf
        subst hf
        replace hM : (x9, v.1) = out := hM
        subst hM
        exact rt_i (u := ()) hx hb hr hlocks (zb_n hz) hI hAe rfl dX4_isPossible_88
      · replace hf := ite_t hc hf
        refine lv_aload_n hx hb dX4_isPossible_65 rfl (lv_at hl 0 rfl) ?_
        refine lv_iload_n hx hb dX4_isPossible_66 rfl (lv_at hl 1 rfl) ?_
        refine lv_aload_n hx hb dX4_isPossible_67 rfl (lv_at hl 0 rfl) ?_
        refine lv_iload_n hx hb dX4_isPossible_68 rfl (lv_at hl 1 rfl) ?_
        refine lv_iload_n hx hb dX4_isPossible_69 rfl (lv_at hl 2 rfl) ?_
        obtain ⟨o10, ho10, hf⟩ := bd_e hf
        refine w_Vi0 (wc := (wP cI cJ cZ p0 p1 p2 p3 n0 n1 n2 n3 n4 n5 n6 P_can P_picked v.1 N_postCount N_roadCount N_first N_second N_number N_allowed N_at N_beside)) (wr := []) (rest := [.int l2, .ref p0]) hx hb hml hg hown hK hA hI (kX4_roadsThatCan l D cI cJ cZ p0 p1 p2 p3 n0 n1 n2 n3 n4 n5 n6 P_can P_picked v.1 N_postCount N_roadCount N_first N_second N_number N_allowed N_at N_beside l2 v.2 o10 ho10) kvX4_roadsThatCan wL_RX4_64 ⟨Nat.le_of_ble_eq_true rfl, Nat.le_of_ble_eq_true rfl⟩ rfl rfl [0, 1, 2, 3, 4, 5, 6, 7, 8, 9, 10] [] rfl rfl rfl rfl (by decide) rfl rfl hl.1 (Nat.le_of_ble_eq_true rfl) dX4_isPossible_70 ⟨Nat.zero_le _, Nat.zero_le _⟩ ⟨rfl, rfl⟩ (fun r u H locs hp hI => ?_)
        replace hp : r = o10 := hp
        rw [hp]
        clear hp
        replace hI : WI D A s.heap (wP cI cJ cZ p0 p1 p2 p3 n0 n1 n2 n3 n4 n5 n6 P_can P_picked v.1 N_postCount N_roadCount N_first N_second N_number N_allowed N_at N_beside) H locs := hI
        obtain ⟨o11, ho11, hf⟩ := bd_e hf
        refine w_Vv0 (wc := (wP cI cJ cZ p0 p1 p2 p3 n0 n1 n2 n3 n4 n5 n6 P_can P_picked v.1 N_postCount N_roadCount N_first N_second N_number N_allowed N_at N_beside)) (wr := []) (rest := []) hx hb hml hg hown hK hA hI (kX4_giveNumber l D cI cJ cZ p0 p1 p2 p3 n0 n1 n2 n3 n4 n5 n6 P_can P_picked v.1 N_postCount N_roadCount N_first N_second N_number N_allowed N_at N_beside l2 o10 o11 ho11) kvX4_giveNumber wL_RX4_89 ⟨Nat.le_of_ble_eq_true rfl, Nat.le_of_ble_eq_true rfl⟩ rfl rfl [0, 1, 2, 3, 4, 5, 6, 7, 8, 9, 10] [] rfl rfl rfl rfl (by decide) rfl rfl hl.1 (Nat.le_of_ble_eq_true rfl) dX4_isPossible_73 ⟨Nat.zero_le _, Nat.zero_le _⟩ ⟨rfl, rfl⟩ (fun  u H locs hp hI => ?_)
        replace hI : WI D A s.heap (wP cI cJ cZ p0 p1 p2 p3 n0 n1 n2 n3 n4 n5 n6 P_can P_picked o11 N_postCount N_roadCount N_first N_second N_number N_allowed N_at N_beside) H locs := hI
        obtain ⟨x12, ex12⟩ : ∃ y : Int32, y = (v.2 + (1 : Int32)) := ⟨_, rfl⟩
        replace hf := bnd_e hf x12 ex12
        refine lv_iinc (v := x12) (lv' := [(3, .int x12), (0, .ref p0), (2, .int l2)]) hx hb dX4_isPossible_76 hl (k := 2) rfl (by rw [ex12]; rfl) (by decide) rfl (fun ls hl => ?_)
        refine lv_goto (tgt := 50) hx hb dX4_isPossible_79 (by decide) ?_
        replace hf := Option.some.inj hf
        subst hf
        exact hM _ _ _ hI (lv_sub hl [1, 2, 0] rfl)
  obtain ⟨x, hf, hM⟩ : ∃ x, FX4_isPossible P_can P_left_0 N_roadCount N_first N_second N_beside a1 = some x ∧ x = out := ⟨out, hf, rfl⟩
  refine lv_aload_n hx hb dX4_isPossible_0 rfl (lv_at hl 0 rfl) ?_
  refine lv_iload_n hx hb dX4_isPossible_1 rfl (lv_at hl 1 rfl) ?_
  obtain ⟨o1, ho1, hf⟩ := bd_e hf
  refine w_Vi0 (wc := (wP cI cJ cZ p0 p1 p2 p3 n0 n1 n2 n3 n4 n5 n6 P_can P_picked P_left_0 N_postCount N_roadCount N_first N_second N_number N_allowed N_at N_beside)) (wr := []) (rest := []) hx hb hml hg hown hK hA hI (kX4_hasEmptyHanded l D cI cJ cZ p0 p1 p2 p3 n0 n1 n2 n3 n4 n5 n6 P_can P_picked P_left_0 N_postCount N_roadCount N_first N_second N_number N_allowed N_at N_beside a1 o1 ho1) kvX4_hasEmptyHanded wL_RX4_72 ⟨Nat.le_of_ble_eq_true rfl, Nat.le_of_ble_eq_true rfl⟩ rfl rfl [0, 1, 2, 3, 4, 5, 6, 7, 8, 9, 10] [] rfl rfl rfl rfl (by decide) rfl rfl hl.1 (Nat.le_of_ble_eq_true rfl) dX4_isPossible_2 ⟨Nat.zero_le _, Nat.zero_le _⟩ ⟨rfl, rfl⟩ (fun r u H locs hp hI => ?_)
  replace hp : r = o1 := hp
  rw [hp]
  clear hp
  replace hI : WI D A s.heap (wP cI cJ cZ p0 p1 p2 p3 n0 n1 n2 n3 n4 n5 n6 P_can P_picked P_left_0 N_postCount N_roadCount N_first N_second N_number N_allowed N_at N_beside) H locs := hI
  refine lv_if_eq (tgt := 10) hx hb dX4_isPossible_5 (by decide) (fun hc => ?_) (fun hc => ?_)
  · replace hf := ite_t hc hf
    refine lv_aload_n hx hb dX4_isPossible_10 rfl (lv_at hl 0 rfl) ?_
    refine lv_iload_n hx hb dX4_isPossible_11 rfl (lv_at hl 1 rfl) ?_
    obtain ⟨o2, ho2, hf⟩ := bd_e hf
    refine w_Vi0 (wc := (wP cI cJ cZ p0 p1 p2 p3 n0 n1 n2 n3 n4 n5 n6 P_can P_picked P_left_0 N_postCount N_roadCount N_first N_second N_number N_allowed N_at N_beside)) (wr := []) (rest := []) hx hb hml hg hown hK hA hI (kX4_hardOnes l D cI cJ cZ p0 p1 p2 p3 n0 n1 n2 n3 n4 n5 n6 P_can P_picked P_left_0 N_postCount N_roadCount N_first N_second N_number N_allowed N_at N_beside a1 o2 ho2) kvX4_hardOnes wL_RX4_75 ⟨Nat.le_of_ble_eq_true rfl, Nat.le_of_ble_eq_true rfl⟩ rfl rfl [0, 1, 2, 3, 4, 5, 6, 7, 8, 9, 10] [] rfl rfl rfl rfl (by decide) rfl rfl hl.1 (Nat.le_of_ble_eq_true rfl) dX4_isPossible_12 ⟨Nat.zero_le _, Nat.zero_le _⟩ ⟨rfl, rfl⟩ (fun r u H locs hp hI => ?_)
    replace hp : r = o2 := hp
    rw [hp]
    clear hp
    replace hI : WI D A s.heap (wP cI cJ cZ p0 p1 p2 p3 n0 n1 n2 n3 n4 n5 n6 P_can P_picked P_left_0 N_postCount N_roadCount N_first N_second N_number N_allowed N_at N_beside) H locs := hI
    refine lv_istore_n (lv' := [(2, .int o2), (0, .ref p0), (1, .int a1)]) hx hb dX4_isPossible_15 rfl hl (by decide) rfl (fun ls hl => ?_)
    refine lv_iload_n hx hb dX4_isPossible_16 rfl (lv_at hl 0 rfl) ?_
    refine lv_if_ne (tgt := 22) hx hb dX4_isPossible_17 (by decide) (fun hc => ?_) (fun hc => ?_)
    · replace hf := ite_f hc hf
      refine lv_aload_n hx hb dX4_isPossible_22 rfl (lv_at hl 1 rfl) ?_
      refine lv_iload_n hx hb dX4_isPossible_23 rfl (lv_at hl 0 rfl) ?_
      obtain ⟨o3, ho3, hf⟩ := bd_e hf
      refine w_Vi0 (wc := (wP cI cJ cZ p0 p1 p2 p3 n0 n1 n2 n3 n4 n5 n6 P_can P_picked P_left_0 N_postCount N_roadCount N_first N_second N_number N_allowed N_at N_beside)) (wr := []) (rest := []) hx hb hml hg hown hK hA hI (kX4_mostGiven l D cI cJ cZ p0 p1 p2 p3 n0 n1 n2 n3 n4 n5 n6 P_can P_picked P_left_0 N_postCount N_roadCount N_first N_second N_number N_allowed N_at N_beside o2 o3 ho3) kvX4_mostGiven wL_RX4_78 ⟨Nat.le_of_ble_eq_true rfl, Nat.le_of_ble_eq_true rfl⟩ rfl rfl [0, 1, 2, 3, 4, 5, 6, 7, 8, 9, 10] [] rfl rfl rfl rfl (by decide) rfl rfl hl.1 (Nat.le_of_ble_eq_true rfl) dX4_isPossible_24 ⟨Nat.zero_le _, Nat.zero_le _⟩ ⟨rfl, rfl⟩ (fun r u H locs hp hI => ?_)
      replace hp : r = o3 := hp
      rw [hp]
      clear hp
      replace hI : WI D A s.heap (wP cI cJ cZ p0 p1 p2 p3 n0 n1 n2 n3 n4 n5 n6 P_can P_picked P_left_0 N_postCount N_roadCount N_first N_second N_number N_allowed N_at N_beside) H locs := hI
      refine lv_iload_n hx hb dX4_isPossible_27 rfl (lv_at hl 0 rfl) ?_
      obtain ⟨x4, hx4, hf⟩ := bd_e hf
      refine w_S (rest := [.int o3]) hx hb hml hg hown hK (kJ6_bitCount_0f7a4 l D cI cJ cZ o2 x4 hx4) ksJ6_bitCount_0f7a4 wL_RX4_81 ⟨Nat.le_of_ble_eq_true rfl, Nat.le_of_ble_eq_true rfl⟩ ⟨rfl, rfl⟩ rfl rfl hl.1 (Nat.le_of_ble_eq_true rfl) dX4_isPossible_28 ⟨Nat.zero_le _, Nat.zero_le _⟩ ?_
      refine lv_icmp_ge (tgt := 36) hx hb dX4_isPossible_31 (by decide) (fun hc => ?_) (fun hc => ?_)
      · replace hf := ite_t hc hf
        refine lv_aload_n hx hb dX4_isPossible_36 rfl (lv_at hl 1 rfl) ?_
        refine lv_iload_n hx hb dX4_isPossible_37 rfl (lv_at hl 0 rfl) ?_
        obtain ⟨o5, ho5, hf⟩ := bd_e hf
        refine w_Vv0 (wc := (wP cI cJ cZ p0 p1 p2 p3 n0 n1 n2 n3 n4 n5 n6 P_can P_picked P_left_0 N_postCount N_roadCount N_first N_second N_number N_allowed N_at N_beside)) (wr := []) (rest := []) hx hb hml hg hown hK hA hI (kX4_clearLeft l D cI cJ cZ p0 p1 p2 p3 n0 n1 n2 n3 n4 n5 n6 P_can P_picked P_left_0 N_postCount N_roadCount N_first N_second N_number N_allowed N_at N_beside o2 o5 ho5) kvX4_clearLeft wL_RX4_86 ⟨Nat.le_of_ble_eq_true rfl, Nat.le_of_ble_eq_true rfl⟩ rfl rfl [0, 1, 2, 3, 4, 5, 6, 7, 8, 9, 10] [] rfl rfl rfl rfl (by decide) rfl rfl hl.1 (Nat.le_of_ble_eq_true rfl) dX4_isPossible_38 ⟨Nat.zero_le _, Nat.zero_le _⟩ ⟨rfl, rfl⟩ (fun  u H locs hp hI => ?_)
        replace hI : WI D A s.heap (wP cI cJ cZ p0 p1 p2 p3 n0 n1 n2 n3 n4 n5 n6 P_can P_picked o5 N_postCount N_roadCount N_first N_second N_number N_allowed N_at N_beside) H locs := hI
        refine lv_aload_n hx hb dX4_isPossible_41 rfl (lv_at hl 1 rfl) ?_
        refine w_get hx hb hg hown hK hI iX4 0 rfl rfl 3 (by decide) wF_RX4_18 rfl dX4_isPossible_42 ?_
        refine lv_iload_n hx hb dX4_isPossible_45 rfl (lv_at hl 0 rfl) ?_
        refine lv_iconst (v := 1) hx hb dX4_isPossible_46 (by decide) ?_
        obtain ⟨hin, hf⟩ := wr_e hf
        obtain ⟨g6, eg6⟩ : ∃ g : Nat → Int32, g = upd o5 (o2).toNatClampNeg (vp_nar .boolean (1 : Int32)) := ⟨_, rfl⟩
        replace hf := hf g6 eg6
        refine w_zast (g := g6) (W1 := (wP cI cJ cZ p0 p1 p2 p3 n0 n1 n2 n3 n4 n5 n6 P_can P_picked g6 N_postCount N_roadCount N_first N_second N_number N_allowed N_at N_beside)) hx hb hK hI 3 rfl hin eg6 dX4_isPossible_47 rfl (fun H locs hI => ?_)
        refine lv_iconst (v := 0) hx hb dX4_isPossible_48 (by decide) ?_
        refine lv_istore_n (lv' := [(3, .int (0 : Int32)), (2, .int o2), (0, .ref p0), (1, .int a1)]) hx hb dX4_isPossible_49 rfl hl (by decide) rfl (fun ls hl => ?_)
        exact L50 o2 (g6, (0 : Int32)) _ hf hM _ _ _ hI (lv_sub hl [2, 1, 0] rfl)
      · replace hf := ite_f hc hf
        refine lv_iconst (v := 0) hx hb dX4_isPossible_34 (by decide) ?_
        replace hf := Option.some.inj hf
        subst hf
        replace hM : ((0 : Int32), P_left_0) = out := hM
        subst hM
        exact rt_i (u := ()) hx hb hr hlocks (by decide) hI hAe rfl dX4_isPossible_35
    · replace hf := ite_t hc hf
      refine lv_iconst (v := 1) hx hb dX4_isPossible_20 (by decide) ?_
      replace hf := Option.some.inj hf
      subst hf
      replace hM : ((1 : Int32), P_left_0) = out := hM
      subst hM
      exact rt_i (u := ()) hx hb hr hlocks (by decide) hI hAe rfl dX4_isPossible_21
  · replace hf := ite_f hc hf
    refine lv_iconst (v := 0) hx hb dX4_isPossible_8 (by decide) ?_
    replace hf := Option.some.inj hf
    subst hf
    replace hM : ((0 : Int32), P_left_0) = out := hM
    subst hM
    exact rt_i (u := ()) hx hb hr hlocks (by decide) hI hAe rfl dX4_isPossible_9
noncomputable def X4_fewestNumbers_L8 (N_roadCount : Int32) (N_first : Nat → Int32) (N_second : Nat → Int32) (N_beside : Nat → Int32) (v : (Nat → Int32) × (Nat → Int32) × Int32) : Option (((Nat → Int32) × (Nat → Int32) × Int32) ⊕ (Int32 × (Nat → Int32) × (Nat → Int32))) :=
  if N_roadCount ≤ v.2.2 then (some (.inr (N_roadCount, v.1, v.2.1))) else ((FX4_allowBelow v.1 N_roadCount v.2.2).bind (fun o2 => (FX3_allRoads N_roadCount).bind (fun o3 => (FX4_isPossible o2 v.2.1 N_roadCount N_first N_second N_beside o3).bind (fun o4 => if o4.1 = (0 : Int32) then (bnd (v.2.2 + (1 : Int32)) (fun x5 => some (.inl (o2, o4.2, x5)))) else (some (.inr (v.2.2, o2, o4.2)))))))
noncomputable def FX4_fewestNumbers (P_can_0 : Nat → Int32) (P_left_0 : Nat → Int32) (N_postCount : Int32) (N_roadCount : Int32) (N_first : Nat → Int32) (N_second : Nat → Int32) (N_at : Nat → Int32) (N_beside : Nat → Int32)  : Option (Int32 × (Nat → Int32) × (Nat → Int32)) :=
  (FX3_fullest N_postCount N_at).bind (fun o1 => loopO (X4_fewestNumbers_L8 N_roadCount N_first N_second N_beside) (P_can_0, P_left_0, o1))
abbrev GX4_fewestNumbers (p : Program) (l : Launch) (e : Env) (s : State) (m : MethodId) (below : List Frame) (meth : Method) (c : Code) (D : va_G) (cI cJ cZ : ClassId) (p0 p1 p2 p3 n0 n1 n2 n3 n4 n5 n6 : Nat) (P_can_0 : Nat → Int32) (P_picked : Nat → Int32) (P_left_0 : Nat → Int32) (N_postCount : Int32) (N_roadCount : Int32) (N_first : Nat → Int32) (N_second : Nat → Int32) (N_number : Nat → Int32) (N_allowed : Nat → Int32) (N_at : Nat → Int32) (N_beside : Nat → Int32)  (out : Int32 × (Nat → Int32) × (Nat → Int32)) (H : Heap) (locs : List Loc) (g : JFrame) : Prop := W p l e (headSpec (Cond.code yX4_fewestNumbers cX4_fewestNumbers 2 (some .int) :: GW) { frames := 18, cells := 0, slots := 0, locals := 688 }).room s m ([.ref p0] : List Value).toArray below meth c H locs 0 0 (MQ below (va_Qi (fun r (_ : Unit) => r = out.1) (BW D (wP cI cJ cZ p0 p1 p2 p3 n0 n1 n2 n3 n4 n5 n6 P_can_0 P_picked P_left_0 N_postCount N_roadCount N_first N_second N_number N_allowed N_at N_beside) s.heap.size (fun _ => (wP cI cJ cZ p0 p1 p2 p3 n0 n1 n2 n3 n4 n5 n6 out.2.1 P_picked out.2.2 N_postCount N_roadCount N_first N_second N_number N_allowed N_at N_beside))) (va_A (wP cI cJ cZ p0 p1 p2 p3 n0 n1 n2 n3 n4 n5 n6 P_can_0 P_picked P_left_0 N_postCount N_roadCount N_first N_second N_number N_allowed N_at N_beside) s.heap.size)) ([.ref p0] : List Value).toArray s 0 0 (va_A (wP cI cJ cZ p0 p1 p2 p3 n0 n1 n2 n3 n4 n5 n6 P_can_0 P_picked P_left_0 N_postCount N_roadCount N_first N_second N_number N_allowed N_at N_beside) s.heap.size)) g
theorem kvX4_fewestNumbers : CalV RX4 yX4_fewestNumbers cX4_fewestNumbers 2 (some .int) 0 := ⟨wC_yX4_fewestNumbers, wM_yX4_fewestNumbers, wS_yX4_fewestNumbers, wI_RX4, by decide +kernel⟩
set_option maxHeartbeats 4000000 in
set_option maxRecDepth 100000 in
theorem kX4_fewestNumbers (l : Launch) (D : va_G) (cI cJ cZ : ClassId) (p0 p1 p2 p3 n0 n1 n2 n3 n4 n5 n6 : Nat) (P_can_0 : Nat → Int32) (P_picked : Nat → Int32) (P_left_0 : Nat → Int32) (N_postCount : Int32) (N_roadCount : Int32) (N_first : Nat → Int32) (N_second : Nat → Int32) (N_number : Nat → Int32) (N_allowed : Nat → Int32) (N_at : Nat → Int32) (N_beside : Nat → Int32)  (out : Int32 × (Nat → Int32) × (Nat → Int32)) (hf : FX4_fewestNumbers P_can_0 P_left_0 N_postCount N_roadCount N_first N_second N_at N_beside = some out) : MI l yX4_fewestNumbers (Cond.code yX4_fewestNumbers cX4_fewestNumbers 2 (some .int) :: GW) { frames := 18, cells := 0, slots := 0, locals := 688 } D cI cJ cZ [.ref p0] (wP cI cJ cZ p0 p1 p2 p3 n0 n1 n2 n3 n4 n5 n6 P_can_0 P_picked P_left_0 N_postCount N_roadCount N_first N_second N_number N_allowed N_at N_beside) (fun r (_ : Unit) => r = out.1) (fun _ => (wP cI cJ cZ p0 p1 p2 p3 n0 n1 n2 n3 n4 n5 n6 out.2.1 P_picked out.2.2 N_postCount N_roadCount N_first N_second N_number N_allowed N_at N_beside)) := by
  intro sz
  refine Met.ofW (cc := cX4_fewestNumbers) (maxL := 2) (ret := (some .int)) (by decide +kernel) rfl ?_
  intro p e s m args below meth c s₁ B hml hv
  obtain ⟨rfl, hsz, hP, hK, hD0⟩ := hv
  have hx := B.exec
  have hb := B.bytes
  have hr := B.returns
  have hlocks := B.notSynchronized
  have hg : ∀ w ∈ GW, w.before _ s = true := fun w h => atoms_spec (ws := Cond.code yX4_fewestNumbers cX4_fewestNumbers 2 (some .int) :: GW) B.pre w (List.mem_cons_of_mem _ h)
  have hown : s.vm.findClass RX4 = some m.cls := findClass_of_methodNamed B.named
  subst hsz
  obtain ⟨A, hAe⟩ : ∃ A, A = va_A (wP cI cJ cZ p0 p1 p2 p3 n0 n1 n2 n3 n4 n5 n6 P_can_0 P_picked P_left_0 N_postCount N_roadCount N_first N_second N_number N_allowed N_at N_beside) s.heap.size := ⟨_, rfl⟩
  have hA : ∀ q : Nat, s.heap.size ≤ q → A q := fun q h => by rw [hAe]; exact Or.inr h
  have hI : WI D A s.heap (wP cI cJ cZ p0 p1 p2 p3 n0 n1 n2 n3 n4 n5 n6 P_can_0 P_picked P_left_0 N_postCount N_roadCount N_first N_second N_number N_allowed N_at N_beside) s.heap [] := ⟨hP, by rw [hAe]; exact hD0.self, va_S.rf⟩
  have hl := lv_entry [.ref p0] (n := 2) (Nat.le_of_ble_eq_true rfl)
  rw [lg_entry_eq]
  generalize (lg_sl [.ref p0] ++ List.replicate (2 - (lg_sl [.ref p0]).length) Slot.unset).toArray = ls at hl ⊢
  replace hl : lv_has ls 2 [(0, .ref p0)] := hl
  have L8 : ∀ (v : (Nat → Int32) × (Nat → Int32) × Int32) (x : Int32 × (Nat → Int32) × (Nat → Int32)), loopO (X4_fewestNumbers_L8 N_roadCount N_first N_second N_beside) v = some x → (fun z : Int32 × (Nat → Int32) × (Nat → Int32) => z = out) x → (fun (v : (Nat → Int32) × (Nat → Int32) × Int32) => ∀ (H : Heap) (locs : List Loc) (ls : Array Slot), WI D A s.heap (wP cI cJ cZ p0 p1 p2 p3 n0 n1 n2 n3 n4 n5 n6 v.1 P_picked v.2.1 N_postCount N_roadCount N_first N_second N_number N_allowed N_at N_beside) H locs → lv_has ls 2 [(0, .ref p0), (1, .int v.2.2)] → GX4_fewestNumbers p l e s m below meth c D cI cJ cZ p0 p1 p2 p3 n0 n1 n2 n3 n4 n5 n6 P_can_0 P_picked P_left_0 N_postCount N_roadCount N_first N_second N_number N_allowed N_at N_beside  out H locs (F0 m 8 ls [])) v := by
    refine loopO_ind (fun (v : (Nat → Int32) × (Nat → Int32) × Int32) => ∀ (H : Heap) (locs : List Loc) (ls : Array Slot), WI D A s.heap (wP cI cJ cZ p0 p1 p2 p3 n0 n1 n2 n3 n4 n5 n6 v.1 P_picked v.2.1 N_postCount N_roadCount N_first N_second N_number N_allowed N_at N_beside) H locs → lv_has ls 2 [(0, .ref p0), (1, .int v.2.2)] → GX4_fewestNumbers p l e s m below meth c D cI cJ cZ p0 p1 p2 p3 n0 n1 n2 n3 n4 n5 n6 P_can_0 P_picked P_left_0 N_postCount N_roadCount N_first N_second N_number N_allowed N_at N_beside  out H locs (F0 m 8 ls [])) (fun z : Int32 × (Nat → Int32) × (Nat → Int32) => z = out) ?_
    intro v x hf hM H locs ls hI hl
    refine lv_iload_n hx hb dX4_fewestNumbers_8 rfl (lv_at hl 1 rfl) ?_
    refine lv_aload_n hx hb dX4_fewestNumbers_9 rfl (lv_at hl 0 rfl) ?_
    refine w_get hx hb hg hown hK hI iX4 0 rfl rfl 0 (by decide) wF_RX4_22 rfl dX4_fewestNumbers_10 ?_
    refine w_get hx hb hg hown hK hI iX3 4 rfl rfl 1 (by decide) wF_RX4_26 rfl dX4_fewestNumbers_13 ?_
    refine lv_icmp_ge (tgt := 46) hx hb dX4_fewestNumbers_16 (by decide) (fun hc => ?_) (fun hc => ?_)
    · replace hf := ite_t hc hf
      refine lv_aload_n hx hb dX4_fewestNumbers_46 rfl (lv_at hl 0 rfl) ?_
      refine w_get hx hb hg hown hK hI iX4 0 rfl rfl 0 (by decide) wF_RX4_22 rfl dX4_fewestNumbers_47 ?_
      refine w_get hx hb hg hown hK hI iX3 4 rfl rfl 1 (by decide) wF_RX4_26 rfl dX4_fewestNumbers_50 ?_
      replace hf := Option.some.inj hf
      subst hf
      replace hM : (N_roadCount, v.1, v.2.1) = out := hM
      subst hM
      exact rt_i (u := ()) hx hb hr hlocks rfl hI hAe rfl dX4_fewestNumbers_53
    · replace hf := ite_f hc hf
      refine lv_aload_n hx hb dX4_fewestNumbers_19 rfl (lv_at hl 0 rfl) ?_
      refine lv_iload_n hx hb dX4_fewestNumbers_20 rfl (lv_at hl 1 rfl) ?_
      obtain ⟨o2, ho2, hf⟩ := bd_e hf
      refine w_Vv0 (wc := (wP cI cJ cZ p0 p1 p2 p3 n0 n1 n2 n3 n4 n5 n6 v.1 P_picked v.2.1 N_postCount N_roadCount N_first N_second N_number N_allowed N_at N_beside)) (wr := []) (rest := []) hx hb hml hg hown hK hA hI (kX4_allowBelow l D cI cJ cZ p0 p1 p2 p3 n0 n1 n2 n3 n4 n5 n6 v.1 P_picked v.2.1 N_postCount N_roadCount N_first N_second N_number N_allowed N_at N_beside v.2.2 o2 ho2) kvX4_allowBelow wL_RX4_39 ⟨Nat.le_of_ble_eq_true rfl, Nat.le_of_ble_eq_true rfl⟩ rfl rfl [0, 1, 2, 3, 4, 5, 6, 7, 8, 9, 10] [] rfl rfl rfl rfl (by decide) rfl rfl hl.1 (Nat.le_of_ble_eq_true rfl) dX4_fewestNumbers_21 ⟨Nat.zero_le _, Nat.zero_le _⟩ ⟨rfl, rfl⟩ (fun  u H locs hp hI => ?_)
      replace hI : WI D A s.heap (wP cI cJ cZ p0 p1 p2 p3 n0 n1 n2 n3 n4 n5 n6 o2 P_picked v.2.1 N_postCount N_roadCount N_first N_second N_number N_allowed N_at N_beside) H locs := hI
      refine lv_aload_n hx hb dX4_fewestNumbers_24 rfl (lv_at hl 0 rfl) ?_
      refine lv_aload_n hx hb dX4_fewestNumbers_25 rfl (lv_at hl 0 rfl) ?_
      refine w_get hx hb hg hown hK hI iX4 0 rfl rfl 0 (by decide) wF_RX4_22 rfl dX4_fewestNumbers_26 ?_
      obtain ⟨o3, ho3, hf⟩ := bd_e hf
      refine w_Vi0 (wc := (wN cI cJ cZ n0 n1 n2 n3 n4 n5 n6 N_postCount N_roadCount N_first N_second N_number N_allowed N_at N_beside)) (wr := [(p0, .inr (4, [.ref n0, .ref p1, .ref p2, .ref p3])), (p1, .inl (cI, 12, .inl o2)), (p2, .inl (cI, 12, .inl P_picked)), (p3, .inl (cZ, 4096, .inl v.2.1))]) (rest := [.ref p0]) hx hb hml hg hown hK hA hI (kX3_allRoads l D cI cJ cZ n0 n1 n2 n3 n4 n5 n6 N_postCount N_roadCount N_first N_second N_number N_allowed N_at N_beside  o3 ho3) kvX3_allRoads wL_RX4_43 ⟨Nat.le_of_ble_eq_true rfl, Nat.le_of_ble_eq_true rfl⟩ rfl rfl [4, 5, 6, 7, 8, 9, 10] [0, 1, 2, 3] rfl rfl rfl rfl (by decide) rfl rfl hl.1 (Nat.le_of_ble_eq_true rfl) dX4_fewestNumbers_29 ⟨Nat.zero_le _, Nat.zero_le _⟩ ⟨rfl, rfl⟩ (fun r u H locs hp hI => ?_)
      replace hp : r = o3 := hp
      rw [hp]
      clear hp
      replace hI : WI D A s.heap (wP cI cJ cZ p0 p1 p2 p3 n0 n1 n2 n3 n4 n5 n6 o2 P_picked v.2.1 N_postCount N_roadCount N_first N_second N_number N_allowed N_at N_beside) H locs := hI
      obtain ⟨o4, ho4, hf⟩ := bd_e hf
      refine w_Vi0 (wc := (wP cI cJ cZ p0 p1 p2 p3 n0 n1 n2 n3 n4 n5 n6 o2 P_picked v.2.1 N_postCount N_roadCount N_first N_second N_number N_allowed N_at N_beside)) (wr := []) (rest := []) hx hb hml hg hown hK hA hI (kX4_isPossible l D cI cJ cZ p0 p1 p2 p3 n0 n1 n2 n3 n4 n5 n6 o2 P_picked v.2.1 N_postCount N_roadCount N_first N_second N_number N_allowed N_at N_beside o3 o4 ho4) kvX4_isPossible wL_RX4_46 ⟨Nat.le_of_ble_eq_true rfl, Nat.le_of_ble_eq_true rfl⟩ rfl rfl [0, 1, 2, 3, 4, 5, 6, 7, 8, 9, 10] [] rfl rfl rfl rfl (by decide) rfl rfl hl.1 (Nat.le_of_ble_eq_true rfl) dX4_fewestNumbers_32 ⟨Nat.zero_le _, Nat.zero_le _⟩ ⟨rfl, rfl⟩ (fun r u H locs hp hI => ?_)
      replace hp : r = o4.1 := hp
      rw [hp]
      clear hp
      replace hI : WI D A s.heap (wP cI cJ cZ p0 p1 p2 p3 n0 n1 n2 n3 n4 n5 n6 o2 P_picked o4.2 N_postCount N_roadCount N_first N_second N_number N_allowed N_at N_beside) H locs := hI
      refine lv_if_eq (tgt := 40) hx hb dX4_fewestNumbers_35 (by decide) (fun hc => ?_) (fun hc => ?_)
      · replace hf := ite_t hc hf
        obtain ⟨x5, ex5⟩ : ∃ y : Int32, y = (v.2.2 + (1 : Int32)) := ⟨_, rfl⟩
        replace hf := bnd_e hf x5 ex5
        refine lv_iinc (v := x5) (lv' := [(1, .int x5), (0, .ref p0)]) hx hb dX4_fewestNumbers_40 hl (k := 1) rfl (by rw [ex5]; rfl) (by decide) rfl (fun ls hl => ?_)
        refine lv_goto (tgt := 8) hx hb dX4_fewestNumbers_43 (by decide) ?_
        replace hf := Option.some.inj hf
        subst hf
        exact hM _ _ _ hI (lv_sub hl [1, 0] rfl)
      · replace hf := ite_f hc hf
        refine lv_iload_n hx hb dX4_fewestNumbers_38 rfl (lv_at hl 1 rfl) ?_
        replace hf := Option.some.inj hf
        subst hf
        replace hM : (v.2.2, o2, o4.2) = out := hM
        subst hM
        exact rt_i (u := ()) hx hb hr hlocks rfl hI hAe rfl dX4_fewestNumbers_39
  obtain ⟨x, hf, hM⟩ : ∃ x, FX4_fewestNumbers P_can_0 P_left_0 N_postCount N_roadCount N_first N_second N_at N_beside = some x ∧ x = out := ⟨out, hf, rfl⟩
  refine lv_aload_n hx hb dX4_fewestNumbers_0 rfl (lv_at hl 0 rfl) ?_
  refine w_get hx hb hg hown hK hI iX4 0 rfl rfl 0 (by decide) wF_RX4_22 rfl dX4_fewestNumbers_1 ?_
  obtain ⟨o1, ho1, hf⟩ := bd_e hf
  refine w_Vi0 (wc := (wN cI cJ cZ n0 n1 n2 n3 n4 n5 n6 N_postCount N_roadCount N_first N_second N_number N_allowed N_at N_beside)) (wr := [(p0, .inr (4, [.ref n0, .ref p1, .ref p2, .ref p3])), (p1, .inl (cI, 12, .inl P_can_0)), (p2, .inl (cI, 12, .inl P_picked)), (p3, .inl (cZ, 4096, .inl P_left_0))]) (rest := []) hx hb hml hg hown hK hA hI (kX3_fullest l D cI cJ cZ n0 n1 n2 n3 n4 n5 n6 N_postCount N_roadCount N_first N_second N_number N_allowed N_at N_beside  o1 ho1) kvX3_fullest wL_RX4_35 ⟨Nat.le_of_ble_eq_true rfl, Nat.le_of_ble_eq_true rfl⟩ rfl rfl [4, 5, 6, 7, 8, 9, 10] [0, 1, 2, 3] rfl rfl rfl rfl (by decide) rfl rfl hl.1 (Nat.le_of_ble_eq_true rfl) dX4_fewestNumbers_4 ⟨Nat.zero_le _, Nat.zero_le _⟩ ⟨rfl, rfl⟩ (fun r u H locs hp hI => ?_)
  replace hp : r = o1 := hp
  rw [hp]
  clear hp
  replace hI : WI D A s.heap (wP cI cJ cZ p0 p1 p2 p3 n0 n1 n2 n3 n4 n5 n6 P_can_0 P_picked P_left_0 N_postCount N_roadCount N_first N_second N_number N_allowed N_at N_beside) H locs := hI
  refine lv_istore_n (lv' := [(1, .int o1), (0, .ref p0)]) hx hb dX4_fewestNumbers_7 rfl hl (by decide) rfl (fun ls hl => ?_)
  exact L8  (P_can_0, P_left_0, o1) _ hf hM _ _ _ hI (lv_sub hl [1, 0] rfl)
noncomputable def X4_isCritical_L29 (P_can : Nat → Int32) (N_roadCount : Int32) (N_first : Nat → Int32) (N_second : Nat → Int32) (N_beside : Nat → Int32) (v : (Nat → Int32) × Int32) : Option (((Nat → Int32) × Int32) ⊕ (Int32 × (Nat → Int32) × (Nat → Int32))) :=
  if N_roadCount ≤ v.2 then (some (.inr ((1 : Int32), P_can, v.1))) else ((FX3_allRoads N_roadCount).bind (fun o5 => (FX4_isPossible P_can v.1 N_roadCount N_first N_second N_beside (o5 ^^^ ((1 : Int32) <<< (v.2 &&& (31 : Int32))))).bind (fun o6 => if o6.1 = (0 : Int32) then (some (.inr ((0 : Int32), P_can, o6.2))) else (bnd (v.2 + (1 : Int32)) (fun x7 => some (.inl (o6.2, x7)))))))
noncomputable def FX4_isCritical (P_can_0 : Nat → Int32) (P_left_0 : Nat → Int32) (N_postCount : Int32) (N_roadCount : Int32) (N_first : Nat → Int32) (N_second : Nat → Int32) (N_at : Nat → Int32) (N_beside : Nat → Int32)  : Option (Int32 × (Nat → Int32) × (Nat → Int32)) :=
  (FX3_fullest N_postCount N_at).bind (fun o1 => (FX4_allowBelow P_can_0 N_roadCount o1).bind (fun o2 => (FX3_allRoads N_roadCount).bind (fun o3 => (FX4_isPossible o2 P_left_0 N_roadCount N_first N_second N_beside o3).bind (fun o4 => if o4.1 = (0 : Int32) then (loopO (X4_isCritical_L29 o2 N_roadCount N_first N_second N_beside) (o4.2, (0 : Int32))) else (some ((0 : Int32), o2, o4.2))))))
abbrev GX4_isCritical (p : Program) (l : Launch) (e : Env) (s : State) (m : MethodId) (below : List Frame) (meth : Method) (c : Code) (D : va_G) (cI cJ cZ : ClassId) (p0 p1 p2 p3 n0 n1 n2 n3 n4 n5 n6 : Nat) (P_can_0 : Nat → Int32) (P_picked : Nat → Int32) (P_left_0 : Nat → Int32) (N_postCount : Int32) (N_roadCount : Int32) (N_first : Nat → Int32) (N_second : Nat → Int32) (N_number : Nat → Int32) (N_allowed : Nat → Int32) (N_at : Nat → Int32) (N_beside : Nat → Int32)  (out : Int32 × (Nat → Int32) × (Nat → Int32)) (H : Heap) (locs : List Loc) (g : JFrame) : Prop := W p l e (headSpec (Cond.code yX4_isCritical cX4_isCritical 2 (some .boolean) :: GW) { frames := 18, cells := 0, slots := 0, locals := 688 }).room s m ([.ref p0] : List Value).toArray below meth c H locs 0 0 (MQ below (va_Qi (fun r (_ : Unit) => r = out.1) (BW D (wP cI cJ cZ p0 p1 p2 p3 n0 n1 n2 n3 n4 n5 n6 P_can_0 P_picked P_left_0 N_postCount N_roadCount N_first N_second N_number N_allowed N_at N_beside) s.heap.size (fun _ => (wP cI cJ cZ p0 p1 p2 p3 n0 n1 n2 n3 n4 n5 n6 out.2.1 P_picked out.2.2 N_postCount N_roadCount N_first N_second N_number N_allowed N_at N_beside))) (va_A (wP cI cJ cZ p0 p1 p2 p3 n0 n1 n2 n3 n4 n5 n6 P_can_0 P_picked P_left_0 N_postCount N_roadCount N_first N_second N_number N_allowed N_at N_beside) s.heap.size)) ([.ref p0] : List Value).toArray s 0 0 (va_A (wP cI cJ cZ p0 p1 p2 p3 n0 n1 n2 n3 n4 n5 n6 P_can_0 P_picked P_left_0 N_postCount N_roadCount N_first N_second N_number N_allowed N_at N_beside) s.heap.size)) g
theorem kvX4_isCritical : CalV RX4 yX4_isCritical cX4_isCritical 2 (some .boolean) 0 := ⟨wC_yX4_isCritical, wM_yX4_isCritical, wS_yX4_isCritical, wI_RX4, by decide +kernel⟩
set_option maxHeartbeats 4000000 in
set_option maxRecDepth 100000 in
theorem kX4_isCritical (l : Launch) (D : va_G) (cI cJ cZ : ClassId) (p0 p1 p2 p3 n0 n1 n2 n3 n4 n5 n6 : Nat) (P_can_0 : Nat → Int32) (P_picked : Nat → Int32) (P_left_0 : Nat → Int32) (N_postCount : Int32) (N_roadCount : Int32) (N_first : Nat → Int32) (N_second : Nat → Int32) (N_number : Nat → Int32) (N_allowed : Nat → Int32) (N_at : Nat → Int32) (N_beside : Nat → Int32)  (out : Int32 × (Nat → Int32) × (Nat → Int32)) (hf : FX4_isCritical P_can_0 P_left_0 N_postCount N_roadCount N_first N_second N_at N_beside = some out) : MI l yX4_isCritical (Cond.code yX4_isCritical cX4_isCritical 2 (some .boolean) :: GW) { frames := 18, cells := 0, slots := 0, locals := 688 } D cI cJ cZ [.ref p0] (wP cI cJ cZ p0 p1 p2 p3 n0 n1 n2 n3 n4 n5 n6 P_can_0 P_picked P_left_0 N_postCount N_roadCount N_first N_second N_number N_allowed N_at N_beside) (fun r (_ : Unit) => r = out.1) (fun _ => (wP cI cJ cZ p0 p1 p2 p3 n0 n1 n2 n3 n4 n5 n6 out.2.1 P_picked out.2.2 N_postCount N_roadCount N_first N_second N_number N_allowed N_at N_beside)) := by
  intro sz
  refine Met.ofW (cc := cX4_isCritical) (maxL := 2) (ret := (some .boolean)) (by decide +kernel) rfl ?_
  intro p e s m args below meth c s₁ B hml hv
  obtain ⟨rfl, hsz, hP, hK, hD0⟩ := hv
  have hx := B.exec
  have hb := B.bytes
  have hr := B.returns
  have hlocks := B.notSynchronized
  have hg : ∀ w ∈ GW, w.before _ s = true := fun w h => atoms_spec (ws := Cond.code yX4_isCritical cX4_isCritical 2 (some .boolean) :: GW) B.pre w (List.mem_cons_of_mem _ h)
  have hown : s.vm.findClass RX4 = some m.cls := findClass_of_methodNamed B.named
  subst hsz
  obtain ⟨A, hAe⟩ : ∃ A, A = va_A (wP cI cJ cZ p0 p1 p2 p3 n0 n1 n2 n3 n4 n5 n6 P_can_0 P_picked P_left_0 N_postCount N_roadCount N_first N_second N_number N_allowed N_at N_beside) s.heap.size := ⟨_, rfl⟩
  have hA : ∀ q : Nat, s.heap.size ≤ q → A q := fun q h => by rw [hAe]; exact Or.inr h
  have hI : WI D A s.heap (wP cI cJ cZ p0 p1 p2 p3 n0 n1 n2 n3 n4 n5 n6 P_can_0 P_picked P_left_0 N_postCount N_roadCount N_first N_second N_number N_allowed N_at N_beside) s.heap [] := ⟨hP, by rw [hAe]; exact hD0.self, va_S.rf⟩
  have hl := lv_entry [.ref p0] (n := 2) (Nat.le_of_ble_eq_true rfl)
  rw [lg_entry_eq]
  generalize (lg_sl [.ref p0] ++ List.replicate (2 - (lg_sl [.ref p0]).length) Slot.unset).toArray = ls at hl ⊢
  replace hl : lv_has ls 2 [(0, .ref p0)] := hl
  have L29 : ∀ (P_can : Nat → Int32), ∀ (v : (Nat → Int32) × Int32) (x : Int32 × (Nat → Int32) × (Nat → Int32)), loopO (X4_isCritical_L29 P_can N_roadCount N_first N_second N_beside) v = some x → (fun z : Int32 × (Nat → Int32) × (Nat → Int32) => z = out) x → (fun (v : (Nat → Int32) × Int32) => ∀ (H : Heap) (locs : List Loc) (ls : Array Slot), WI D A s.heap (wP cI cJ cZ p0 p1 p2 p3 n0 n1 n2 n3 n4 n5 n6 P_can P_picked v.1 N_postCount N_roadCount N_first N_second N_number N_allowed N_at N_beside) H locs → lv_has ls 2 [(0, .ref p0), (1, .int v.2)] → GX4_isCritical p l e s m below meth c D cI cJ cZ p0 p1 p2 p3 n0 n1 n2 n3 n4 n5 n6 P_can_0 P_picked P_left_0 N_postCount N_roadCount N_first N_second N_number N_allowed N_at N_beside  out H locs (F0 m 29 ls [])) v := by
    intro P_can
    refine loopO_ind (fun (v : (Nat → Int32) × Int32) => ∀ (H : Heap) (locs : List Loc) (ls : Array Slot), WI D A s.heap (wP cI cJ cZ p0 p1 p2 p3 n0 n1 n2 n3 n4 n5 n6 P_can P_picked v.1 N_postCount N_roadCount N_first N_second N_number N_allowed N_at N_beside) H locs → lv_has ls 2 [(0, .ref p0), (1, .int v.2)] → GX4_isCritical p l e s m below meth c D cI cJ cZ p0 p1 p2 p3 n0 n1 n2 n3 n4 n5 n6 P_can_0 P_picked P_left_0 N_postCount N_roadCount N_first N_second N_number N_allowed N_at N_beside  out H locs (F0 m 29 ls [])) (fun z : Int32 × (Nat → Int32) × (Nat → Int32) => z = out) ?_
    intro v x hf hM H locs ls hI hl
    refine lv_iload_n hx hb dX4_isCritical_29 rfl (lv_at hl 1 rfl) ?_
    refine lv_aload_n hx hb dX4_isCritical_30 rfl (lv_at hl 0 rfl) ?_
    refine w_get hx hb hg hown hK hI iX4 0 rfl rfl 0 (by decide) wF_RX4_22 rfl dX4_isCritical_31 ?_
    refine w_get hx hb hg hown hK hI iX3 4 rfl rfl 1 (by decide) wF_RX4_26 rfl dX4_isCritical_34 ?_
    refine lv_icmp_ge (tgt := 66) hx hb dX4_isCritical_37 (by decide) (fun hc => ?_) (fun hc => ?_)
    · replace hf := ite_t hc hf
      refine lv_iconst (v := 1) hx hb dX4_isCritical_66 (by decide) ?_
      replace hf := Option.some.inj hf
      subst hf
      replace hM : ((1 : Int32), P_can, v.1) = out := hM
      subst hM
      exact rt_i (u := ()) hx hb hr hlocks (by decide) hI hAe rfl dX4_isCritical_67
    · replace hf := ite_f hc hf
      refine lv_aload_n hx hb dX4_isCritical_40 rfl (lv_at hl 0 rfl) ?_
      refine lv_aload_n hx hb dX4_isCritical_41 rfl (lv_at hl 0 rfl) ?_
      refine w_get hx hb hg hown hK hI iX4 0 rfl rfl 0 (by decide) wF_RX4_22 rfl dX4_isCritical_42 ?_
      obtain ⟨o5, ho5, hf⟩ := bd_e hf
      refine w_Vi0 (wc := (wN cI cJ cZ n0 n1 n2 n3 n4 n5 n6 N_postCount N_roadCount N_first N_second N_number N_allowed N_at N_beside)) (wr := [(p0, .inr (4, [.ref n0, .ref p1, .ref p2, .ref p3])), (p1, .inl (cI, 12, .inl P_can)), (p2, .inl (cI, 12, .inl P_picked)), (p3, .inl (cZ, 4096, .inl v.1))]) (rest := [.ref p0]) hx hb hml hg hown hK hA hI (kX3_allRoads l D cI cJ cZ n0 n1 n2 n3 n4 n5 n6 N_postCount N_roadCount N_first N_second N_number N_allowed N_at N_beside  o5 ho5) kvX3_allRoads wL_RX4_43 ⟨Nat.le_of_ble_eq_true rfl, Nat.le_of_ble_eq_true rfl⟩ rfl rfl [4, 5, 6, 7, 8, 9, 10] [0, 1, 2, 3] rfl rfl rfl rfl (by decide) rfl rfl hl.1 (Nat.le_of_ble_eq_true rfl) dX4_isCritical_45 ⟨Nat.zero_le _, Nat.zero_le _⟩ ⟨rfl, rfl⟩ (fun r u H locs hp hI => ?_)
      replace hp : r = o5 := hp
      rw [hp]
      clear hp
      replace hI : WI D A s.heap (wP cI cJ cZ p0 p1 p2 p3 n0 n1 n2 n3 n4 n5 n6 P_can P_picked v.1 N_postCount N_roadCount N_first N_second N_number N_allowed N_at N_beside) H locs := hI
      refine lv_iconst (v := 1) hx hb dX4_isCritical_48 (by decide) ?_
      refine lv_iload_n hx hb dX4_isCritical_49 rfl (lv_at hl 1 rfl) ?_
      refine lv_ishl hx hb dX4_isCritical_50 ?_
      refine lv_ixor hx hb dX4_isCritical_51 ?_
      obtain ⟨o6, ho6, hf⟩ := bd_e hf
      refine w_Vi0 (wc := (wP cI cJ cZ p0 p1 p2 p3 n0 n1 n2 n3 n4 n5 n6 P_can P_picked v.1 N_postCount N_roadCount N_first N_second N_number N_allowed N_at N_beside)) (wr := []) (rest := []) hx hb hml hg hown hK hA hI (kX4_isPossible l D cI cJ cZ p0 p1 p2 p3 n0 n1 n2 n3 n4 n5 n6 P_can P_picked v.1 N_postCount N_roadCount N_first N_second N_number N_allowed N_at N_beside (o5 ^^^ ((1 : Int32) <<< (v.2 &&& (31 : Int32)))) o6 ho6) kvX4_isPossible wL_RX4_46 ⟨Nat.le_of_ble_eq_true rfl, Nat.le_of_ble_eq_true rfl⟩ rfl rfl [0, 1, 2, 3, 4, 5, 6, 7, 8, 9, 10] [] rfl rfl rfl rfl (by decide) rfl rfl hl.1 (Nat.le_of_ble_eq_true rfl) dX4_isCritical_52 ⟨Nat.zero_le _, Nat.zero_le _⟩ ⟨rfl, rfl⟩ (fun r u H locs hp hI => ?_)
      replace hp : r = o6.1 := hp
      rw [hp]
      clear hp
      replace hI : WI D A s.heap (wP cI cJ cZ p0 p1 p2 p3 n0 n1 n2 n3 n4 n5 n6 P_can P_picked o6.2 N_postCount N_roadCount N_first N_second N_number N_allowed N_at N_beside) H locs := hI
      refine lv_if_ne (tgt := 60) hx hb dX4_isCritical_55 (by decide) (fun hc => ?_) (fun hc => ?_)
      · replace hf := ite_f hc hf
        obtain ⟨x7, ex7⟩ : ∃ y : Int32, y = (v.2 + (1 : Int32)) := ⟨_, rfl⟩
        replace hf := bnd_e hf x7 ex7
        refine lv_iinc (v := x7) (lv' := [(1, .int x7), (0, .ref p0)]) hx hb dX4_isCritical_60 hl (k := 1) rfl (by rw [ex7]; rfl) (by decide) rfl (fun ls hl => ?_)
        refine lv_goto (tgt := 29) hx hb dX4_isCritical_63 (by decide) ?_
        replace hf := Option.some.inj hf
        subst hf
        exact hM _ _ _ hI (lv_sub hl [1, 0] rfl)
      · replace hf := ite_t hc hf
        refine lv_iconst (v := 0) hx hb dX4_isCritical_58 (by decide) ?_
        replace hf := Option.some.inj hf
        subst hf
        replace hM : ((0 : Int32), P_can, o6.2) = out := hM
        subst hM
        exact rt_i (u := ()) hx hb hr hlocks (by decide) hI hAe rfl dX4_isCritical_59
  obtain ⟨x, hf, hM⟩ : ∃ x, FX4_isCritical P_can_0 P_left_0 N_postCount N_roadCount N_first N_second N_at N_beside = some x ∧ x = out := ⟨out, hf, rfl⟩
  refine lv_aload_n hx hb dX4_isCritical_0 rfl (lv_at hl 0 rfl) ?_
  refine lv_aload_n hx hb dX4_isCritical_1 rfl (lv_at hl 0 rfl) ?_
  refine w_get hx hb hg hown hK hI iX4 0 rfl rfl 0 (by decide) wF_RX4_22 rfl dX4_isCritical_2 ?_
  obtain ⟨o1, ho1, hf⟩ := bd_e hf
  refine w_Vi0 (wc := (wN cI cJ cZ n0 n1 n2 n3 n4 n5 n6 N_postCount N_roadCount N_first N_second N_number N_allowed N_at N_beside)) (wr := [(p0, .inr (4, [.ref n0, .ref p1, .ref p2, .ref p3])), (p1, .inl (cI, 12, .inl P_can_0)), (p2, .inl (cI, 12, .inl P_picked)), (p3, .inl (cZ, 4096, .inl P_left_0))]) (rest := [.ref p0]) hx hb hml hg hown hK hA hI (kX3_fullest l D cI cJ cZ n0 n1 n2 n3 n4 n5 n6 N_postCount N_roadCount N_first N_second N_number N_allowed N_at N_beside  o1 ho1) kvX3_fullest wL_RX4_35 ⟨Nat.le_of_ble_eq_true rfl, Nat.le_of_ble_eq_true rfl⟩ rfl rfl [4, 5, 6, 7, 8, 9, 10] [0, 1, 2, 3] rfl rfl rfl rfl (by decide) rfl rfl hl.1 (Nat.le_of_ble_eq_true rfl) dX4_isCritical_5 ⟨Nat.zero_le _, Nat.zero_le _⟩ ⟨rfl, rfl⟩ (fun r u H locs hp hI => ?_)
  replace hp : r = o1 := hp
  rw [hp]
  clear hp
  replace hI : WI D A s.heap (wP cI cJ cZ p0 p1 p2 p3 n0 n1 n2 n3 n4 n5 n6 P_can_0 P_picked P_left_0 N_postCount N_roadCount N_first N_second N_number N_allowed N_at N_beside) H locs := hI
  obtain ⟨o2, ho2, hf⟩ := bd_e hf
  refine w_Vv0 (wc := (wP cI cJ cZ p0 p1 p2 p3 n0 n1 n2 n3 n4 n5 n6 P_can_0 P_picked P_left_0 N_postCount N_roadCount N_first N_second N_number N_allowed N_at N_beside)) (wr := []) (rest := []) hx hb hml hg hown hK hA hI (kX4_allowBelow l D cI cJ cZ p0 p1 p2 p3 n0 n1 n2 n3 n4 n5 n6 P_can_0 P_picked P_left_0 N_postCount N_roadCount N_first N_second N_number N_allowed N_at N_beside o1 o2 ho2) kvX4_allowBelow wL_RX4_39 ⟨Nat.le_of_ble_eq_true rfl, Nat.le_of_ble_eq_true rfl⟩ rfl rfl [0, 1, 2, 3, 4, 5, 6, 7, 8, 9, 10] [] rfl rfl rfl rfl (by decide) rfl rfl hl.1 (Nat.le_of_ble_eq_true rfl) dX4_isCritical_8 ⟨Nat.zero_le _, Nat.zero_le _⟩ ⟨rfl, rfl⟩ (fun  u H locs hp hI => ?_)
  replace hI : WI D A s.heap (wP cI cJ cZ p0 p1 p2 p3 n0 n1 n2 n3 n4 n5 n6 o2 P_picked P_left_0 N_postCount N_roadCount N_first N_second N_number N_allowed N_at N_beside) H locs := hI
  refine lv_aload_n hx hb dX4_isCritical_11 rfl (lv_at hl 0 rfl) ?_
  refine lv_aload_n hx hb dX4_isCritical_12 rfl (lv_at hl 0 rfl) ?_
  refine w_get hx hb hg hown hK hI iX4 0 rfl rfl 0 (by decide) wF_RX4_22 rfl dX4_isCritical_13 ?_
  obtain ⟨o3, ho3, hf⟩ := bd_e hf
  refine w_Vi0 (wc := (wN cI cJ cZ n0 n1 n2 n3 n4 n5 n6 N_postCount N_roadCount N_first N_second N_number N_allowed N_at N_beside)) (wr := [(p0, .inr (4, [.ref n0, .ref p1, .ref p2, .ref p3])), (p1, .inl (cI, 12, .inl o2)), (p2, .inl (cI, 12, .inl P_picked)), (p3, .inl (cZ, 4096, .inl P_left_0))]) (rest := [.ref p0]) hx hb hml hg hown hK hA hI (kX3_allRoads l D cI cJ cZ n0 n1 n2 n3 n4 n5 n6 N_postCount N_roadCount N_first N_second N_number N_allowed N_at N_beside  o3 ho3) kvX3_allRoads wL_RX4_43 ⟨Nat.le_of_ble_eq_true rfl, Nat.le_of_ble_eq_true rfl⟩ rfl rfl [4, 5, 6, 7, 8, 9, 10] [0, 1, 2, 3] rfl rfl rfl rfl (by decide) rfl rfl hl.1 (Nat.le_of_ble_eq_true rfl) dX4_isCritical_16 ⟨Nat.zero_le _, Nat.zero_le _⟩ ⟨rfl, rfl⟩ (fun r u H locs hp hI => ?_)
  replace hp : r = o3 := hp
  rw [hp]
  clear hp
  replace hI : WI D A s.heap (wP cI cJ cZ p0 p1 p2 p3 n0 n1 n2 n3 n4 n5 n6 o2 P_picked P_left_0 N_postCount N_roadCount N_first N_second N_number N_allowed N_at N_beside) H locs := hI
  obtain ⟨o4, ho4, hf⟩ := bd_e hf
  refine w_Vi0 (wc := (wP cI cJ cZ p0 p1 p2 p3 n0 n1 n2 n3 n4 n5 n6 o2 P_picked P_left_0 N_postCount N_roadCount N_first N_second N_number N_allowed N_at N_beside)) (wr := []) (rest := []) hx hb hml hg hown hK hA hI (kX4_isPossible l D cI cJ cZ p0 p1 p2 p3 n0 n1 n2 n3 n4 n5 n6 o2 P_picked P_left_0 N_postCount N_roadCount N_first N_second N_number N_allowed N_at N_beside o3 o4 ho4) kvX4_isPossible wL_RX4_46 ⟨Nat.le_of_ble_eq_true rfl, Nat.le_of_ble_eq_true rfl⟩ rfl rfl [0, 1, 2, 3, 4, 5, 6, 7, 8, 9, 10] [] rfl rfl rfl rfl (by decide) rfl rfl hl.1 (Nat.le_of_ble_eq_true rfl) dX4_isCritical_19 ⟨Nat.zero_le _, Nat.zero_le _⟩ ⟨rfl, rfl⟩ (fun r u H locs hp hI => ?_)
  replace hp : r = o4.1 := hp
  rw [hp]
  clear hp
  replace hI : WI D A s.heap (wP cI cJ cZ p0 p1 p2 p3 n0 n1 n2 n3 n4 n5 n6 o2 P_picked o4.2 N_postCount N_roadCount N_first N_second N_number N_allowed N_at N_beside) H locs := hI
  refine lv_if_eq (tgt := 27) hx hb dX4_isCritical_22 (by decide) (fun hc => ?_) (fun hc => ?_)
  · replace hf := ite_t hc hf
    refine lv_iconst (v := 0) hx hb dX4_isCritical_27 (by decide) ?_
    refine lv_istore_n (lv' := [(1, .int (0 : Int32)), (0, .ref p0)]) hx hb dX4_isCritical_28 rfl hl (by decide) rfl (fun ls hl => ?_)
    exact L29 o2 (o4.2, (0 : Int32)) _ hf hM _ _ _ hI (lv_sub hl [1, 0] rfl)
  · replace hf := ite_f hc hf
    refine lv_iconst (v := 0) hx hb dX4_isCritical_25 (by decide) ?_
    replace hf := Option.some.inj hf
    subst hf
    replace hM : ((0 : Int32), o2, o4.2) = out := hM
    subst hM
    exact rt_i (u := ()) hx hb hr hlocks (by decide) hI hAe rfl dX4_isCritical_26
noncomputable def X4_pickLeast_L15 (N_roadCount : Int32) (N_first : Nat → Int32) (N_second : Nat → Int32) (N_beside : Nat → Int32) (l1 : Int32) (l2 : Int32) (v : (Nat → Int32) × (Nat → Int32) × Int32) : Option (((Nat → Int32) × (Nat → Int32) × Int32) ⊕ (Int32 × (Nat → Int32) × (Nat → Int32))) :=
  if (16 : Int32) ≤ v.2.2 then (some (.inr ((-1 : Int32), v.1, v.2.1))) else (rd v.1 12 l1 (fun x3 => (FX7_isIn x3 v.2.2).bind (fun x4 => if x4 = (0 : Int32) then (bnd (v.2.2 + (1 : Int32)) (fun x5 => some (.inl (v.1, v.2.1, x5)))) else (rd N_beside 24 l1 (fun x6 => (FX4_roadsThatCan v.1 N_roadCount (x6 &&& l2) v.2.2).bind (fun o7 => (FX4_strike v.1 N_roadCount o7 v.2.2).bind (fun o8 => (FX4_isPossible o8 v.2.1 N_roadCount N_first N_second N_beside l2).bind (fun o9 => if o9.1 = (0 : Int32) then ((FX4_strike o8 N_roadCount o7 v.2.2).bind (fun o10 => bnd (v.2.2 + (1 : Int32)) (fun x11 => some (.inl (o10, o9.2, x11))))) else (some (.inr (v.2.2, o8, o9.2)))))))))))
noncomputable def FX4_pickLeast (P_can_0 : Nat → Int32) (P_left_0 : Nat → Int32) (N_roadCount : Int32) (N_first : Nat → Int32) (N_second : Nat → Int32) (N_beside : Nat → Int32) (a1 : Int32) : Option (Int32 × (Nat → Int32) × (Nat → Int32)) :=
  (FX3_allRoads N_roadCount).bind (fun o1 => bnd (o1 &&& (-((2 : Int32) <<< (a1 &&& (31 : Int32))))) (fun x2 => loopO (X4_pickLeast_L15 N_roadCount N_first N_second N_beside a1 x2) (P_can_0, P_left_0, (0 : Int32))))
abbrev GX4_pickLeast (p : Program) (l : Launch) (e : Env) (s : State) (m : MethodId) (below : List Frame) (meth : Method) (c : Code) (D : va_G) (cI cJ cZ : ClassId) (p0 p1 p2 p3 n0 n1 n2 n3 n4 n5 n6 : Nat) (P_can_0 : Nat → Int32) (P_picked : Nat → Int32) (P_left_0 : Nat → Int32) (N_postCount : Int32) (N_roadCount : Int32) (N_first : Nat → Int32) (N_second : Nat → Int32) (N_number : Nat → Int32) (N_allowed : Nat → Int32) (N_at : Nat → Int32) (N_beside : Nat → Int32) (a1 : Int32) (out : Int32 × (Nat → Int32) × (Nat → Int32)) (H : Heap) (locs : List Loc) (g : JFrame) : Prop := W p l e (headSpec (Cond.code yX4_pickLeast cX4_pickLeast 5 (some .int) :: GW) { frames := 18, cells := 0, slots := 0, locals := 688 }).room s m ([.ref p0, .int a1] : List Value).toArray below meth c H locs 0 0 (MQ below (va_Qi (fun r (_ : Unit) => r = out.1) (BW D (wP cI cJ cZ p0 p1 p2 p3 n0 n1 n2 n3 n4 n5 n6 P_can_0 P_picked P_left_0 N_postCount N_roadCount N_first N_second N_number N_allowed N_at N_beside) s.heap.size (fun _ => (wP cI cJ cZ p0 p1 p2 p3 n0 n1 n2 n3 n4 n5 n6 out.2.1 P_picked out.2.2 N_postCount N_roadCount N_first N_second N_number N_allowed N_at N_beside))) (va_A (wP cI cJ cZ p0 p1 p2 p3 n0 n1 n2 n3 n4 n5 n6 P_can_0 P_picked P_left_0 N_postCount N_roadCount N_first N_second N_number N_allowed N_at N_beside) s.heap.size)) ([.ref p0, .int a1] : List Value).toArray s 0 0 (va_A (wP cI cJ cZ p0 p1 p2 p3 n0 n1 n2 n3 n4 n5 n6 P_can_0 P_picked P_left_0 N_postCount N_roadCount N_first N_second N_number N_allowed N_at N_beside) s.heap.size)) g
theorem kvX4_pickLeast : CalV RX4 yX4_pickLeast cX4_pickLeast 5 (some .int) 1 := ⟨wC_yX4_pickLeast, wM_yX4_pickLeast, wS_yX4_pickLeast, wI_RX4, by decide +kernel⟩
set_option maxHeartbeats 4000000 in
set_option maxRecDepth 100000 in
theorem kX4_pickLeast (l : Launch) (D : va_G) (cI cJ cZ : ClassId) (p0 p1 p2 p3 n0 n1 n2 n3 n4 n5 n6 : Nat) (P_can_0 : Nat → Int32) (P_picked : Nat → Int32) (P_left_0 : Nat → Int32) (N_postCount : Int32) (N_roadCount : Int32) (N_first : Nat → Int32) (N_second : Nat → Int32) (N_number : Nat → Int32) (N_allowed : Nat → Int32) (N_at : Nat → Int32) (N_beside : Nat → Int32) (a1 : Int32) (out : Int32 × (Nat → Int32) × (Nat → Int32)) (hf : FX4_pickLeast P_can_0 P_left_0 N_roadCount N_first N_second N_beside a1 = some out) : MI l yX4_pickLeast (Cond.code yX4_pickLeast cX4_pickLeast 5 (some .int) :: GW) { frames := 18, cells := 0, slots := 0, locals := 688 } D cI cJ cZ [.ref p0, .int a1] (wP cI cJ cZ p0 p1 p2 p3 n0 n1 n2 n3 n4 n5 n6 P_can_0 P_picked P_left_0 N_postCount N_roadCount N_first N_second N_number N_allowed N_at N_beside) (fun r (_ : Unit) => r = out.1) (fun _ => (wP cI cJ cZ p0 p1 p2 p3 n0 n1 n2 n3 n4 n5 n6 out.2.1 P_picked out.2.2 N_postCount N_roadCount N_first N_second N_number N_allowed N_at N_beside)) := by
  intro sz
  refine Met.ofW (cc := cX4_pickLeast) (maxL := 5) (ret := (some .int)) (by decide +kernel) rfl ?_
  intro p e s m args below meth c s₁ B hml hv
  obtain ⟨rfl, hsz, hP, hK, hD0⟩ := hv
  have hx := B.exec
  have hb := B.bytes
  have hr := B.returns
  have hlocks := B.notSynchronized
  have hg : ∀ w ∈ GW, w.before _ s = true := fun w h => atoms_spec (ws := Cond.code yX4_pickLeast cX4_pickLeast 5 (some .int) :: GW) B.pre w (List.mem_cons_of_mem _ h)
  have hown : s.vm.findClass RX4 = some m.cls := findClass_of_methodNamed B.named
  subst hsz
  obtain ⟨A, hAe⟩ : ∃ A, A = va_A (wP cI cJ cZ p0 p1 p2 p3 n0 n1 n2 n3 n4 n5 n6 P_can_0 P_picked P_left_0 N_postCount N_roadCount N_first N_second N_number N_allowed N_at N_beside) s.heap.size := ⟨_, rfl⟩
  have hA : ∀ q : Nat, s.heap.size ≤ q → A q := fun q h => by rw [hAe]; exact Or.inr h
  have hI : WI D A s.heap (wP cI cJ cZ p0 p1 p2 p3 n0 n1 n2 n3 n4 n5 n6 P_can_0 P_picked P_left_0 N_postCount N_roadCount N_first N_second N_number N_allowed N_at N_beside) s.heap [] := ⟨hP, by rw [hAe]; exact hD0.self, va_S.rf⟩
  have hl := lv_entry [.ref p0, .int a1] (n := 5) (Nat.le_of_ble_eq_true rfl)
  rw [lg_entry_eq]
  generalize (lg_sl [.ref p0, .int a1] ++ List.replicate (5 - (lg_sl [.ref p0, .int a1]).length) Slot.unset).toArray = ls at hl ⊢
  replace hl : lv_has ls 5 [(0, .ref p0), (1, .int a1)] := hl
  have L15 : ∀ (l1 : Int32) (l2 : Int32), ∀ (v : (Nat → Int32) × (Nat → Int32) × Int32) (x : Int32 × (Nat → Int32) × (Nat → Int32)), loopO (X4_pickLeast_L15 N_roadCount N_first N_second N_beside l1 l2) v = some x → (fun z : Int32 × (Nat → Int32) × (Nat → Int32) => z = out) x → (fun (v : (Nat → Int32) × (Nat → Int32) × Int32) => ∀ (H : Heap) (locs : List Loc) (ls : Array Slot), WI D A s.heap (wP cI cJ cZ p0 p1 p2 p3 n0 n1 n2 n3 n4 n5 n6 v.1 P_picked v.2.1 N_postCount N_roadCount N_first N_second N_number N_allowed N_at N_beside) H locs → lv_has ls 5 [(0, .ref p0), (1, .int l1), (2, .int l2), (3, .int v.2.2)] → GX4_pickLeast p l e s m below meth c D cI cJ cZ p0 p1 p2 p3 n0 n1 n2 n3 n4 n5 n6 P_can_0 P_picked P_left_0 N_postCount N_roadCount N_first N_second N_number N_allowed N_at N_beside a1 out H locs (F0 m 15 ls [])) v := by
    intro l1 l2
    refine loopO_ind (fun (v : (Nat → Int32) × (Nat → Int32) × Int32) => ∀ (H : Heap) (locs : List Loc) (ls : Array Slot), WI D A s.heap (wP cI cJ cZ p0 p1 p2 p3 n0 n1 n2 n3 n4 n5 n6 v.1 P_picked v.2.1 N_postCount N_roadCount N_first N_second N_number N_allowed N_at N_beside) H locs → lv_has ls 5 [(0, .ref p0), (1, .int l1), (2, .int l2), (3, .int v.2.2)] → GX4_pickLeast p l e s m below meth c D cI cJ cZ p0 p1 p2 p3 n0 n1 n2 n3 n4 n5 n6 P_can_0 P_picked P_left_0 N_postCount N_roadCount N_first N_second N_number N_allowed N_at N_beside a1 out H locs (F0 m 15 ls [])) (fun z : Int32 × (Nat → Int32) × (Nat → Int32) => z = out) ?_
    intro v x hf hM H locs ls hI hl
    refine lv_iload_n hx hb dX4_pickLeast_15 rfl (lv_at hl 3 rfl) ?_
    refine lv_bipush (v := 16) hx hb dX4_pickLeast_16 (by decide) ?_
    refine lv_icmp_ge (tgt := 82) hx hb dX4_pickLeast_18 (by decide) (fun hc => ?_) (fun hc => ?_)
    · replace hf := ite_t hc hf
      refine lv_iconst (v := -1) hx hb dX4_pickLeast_82 (by decide) ?_
      replace hf := Option.some.inj hf
      subst hf
      replace hM : ((-1 : Int32), v.1, v.2.1) = out := hM
      subst hM
      exact rt_i (u := ()) hx hb hr hlocks rfl hI hAe rfl dX4_pickLeast_83
    · replace hf := ite_f hc hf
      refine lv_aload_n hx hb dX4_pickLeast_21 rfl (lv_at hl 0 rfl) ?_
      refine w_get hx hb hg hown hK hI iX4 0 rfl rfl 1 (by decide) wF_RX4_9 rfl dX4_pickLeast_22 ?_
      refine lv_iload_n hx hb dX4_pickLeast_25 rfl (lv_at hl 1 rfl) ?_
      obtain ⟨hin, hf⟩ := rd_e hf
      refine w_iald hx hb hK hI 1 rfl hin dX4_pickLeast_26 (fun x3 ex3 => ?_)
      replace hf := hf x3 ex3
      refine lv_iload_n hx hb dX4_pickLeast_27 rfl (lv_at hl 3 rfl) ?_
      obtain ⟨x4, hx4, hf⟩ := bd_e hf
      refine w_N (rest := []) hx hb hml hg hown hK (kX7_isIn l D cI cJ cZ x3 v.2.2 x4 hx4) ksX7_isIn (List.mem_of_getElem? (i := 5) rfl) ⟨Nat.le_of_ble_eq_true rfl, Nat.le_of_ble_eq_true rfl⟩ ⟨rfl, rfl⟩ rfl rfl hl.1 (Nat.le_of_ble_eq_true rfl) dX4_pickLeast_28 ⟨Nat.zero_le _, Nat.zero_le _⟩ ?_
      refine lv_if_eq (tgt := 76) hx hb dX4_pickLeast_31 (by decide) (fun hc => ?_) (fun hc => ?_)
      · replace hf := ite_t hc hf
        obtain ⟨x5, ex5⟩ : ∃ y : Int32, y = (v.2.2 + (1 : Int32)) := ⟨_, rfl⟩
        replace hf := bnd_e hf x5 ex5
        refine lv_iinc (v := x5) (lv' := [(3, .int x5), (0, .ref p0), (1, .int l1), (2, .int l2)]) hx hb dX4_pickLeast_76 hl (k := 3) rfl (by rw [ex5]; rfl) (by decide) rfl (fun ls hl => ?_)
        refine lv_goto (tgt := 15) hx hb dX4_pickLeast_79 (by decide) ?_
        replace hf := Option.some.inj hf
        subst hf
        exact hM _ _ _ hI (lv_sub hl [1, 2, 3, 0] rfl)
      · replace hf := ite_f hc hf
        refine lv_aload_n hx hb dX4_pickLeast_34 rfl (lv_at hl 0 rfl) ?_
        refine lv_aload_n hx hb dX4_pickLeast_35 rfl (lv_at hl 0 rfl) ?_
        refine w_get hx hb hg hown hK hI iX4 0 rfl rfl 0 (by decide) wF_RX4_22 rfl dX4_pickLeast_36 ?_
        refine w_get hx hb hg hown hK hI iX3 4 rfl rfl 7 (by decide) wF_RX4_61 rfl dX4_pickLeast_39 ?_
        refine lv_iload_n hx hb dX4_pickLeast_42 rfl (lv_at hl 1 rfl) ?_
        obtain ⟨hin, hf⟩ := rd_e hf
        refine w_iald hx hb hK hI 10 rfl hin dX4_pickLeast_43 (fun x6 ex6 => ?_)
        replace hf := hf x6 ex6
        refine lv_iload_n hx hb dX4_pickLeast_44 rfl (lv_at hl 2 rfl) ?_
        refine lv_iand hx hb dX4_pickLeast_45 ?_
        refine lv_iload_n hx hb dX4_pickLeast_46 rfl (lv_at hl 3 rfl) ?_
        obtain ⟨o7, ho7, hf⟩ := bd_e hf
        refine w_Vi0 (wc := (wP cI cJ cZ p0 p1 p2 p3 n0 n1 n2 n3 n4 n5 n6 v.1 P_picked v.2.1 N_postCount N_roadCount N_first N_second N_number N_allowed N_at N_beside)) (wr := []) (rest := []) hx hb hml hg hown hK hA hI (kX4_roadsThatCan l D cI cJ cZ p0 p1 p2 p3 n0 n1 n2 n3 n4 n5 n6 v.1 P_picked v.2.1 N_postCount N_roadCount N_first N_second N_number N_allowed N_at N_beside (x6 &&& l2) v.2.2 o7 ho7) kvX4_roadsThatCan wL_RX4_64 ⟨Nat.le_of_ble_eq_true rfl, Nat.le_of_ble_eq_true rfl⟩ rfl rfl [0, 1, 2, 3, 4, 5, 6, 7, 8, 9, 10] [] rfl rfl rfl rfl (by decide) rfl rfl hl.1 (Nat.le_of_ble_eq_true rfl) dX4_pickLeast_47 ⟨Nat.zero_le _, Nat.zero_le _⟩ ⟨rfl, rfl⟩ (fun r u H locs hp hI => ?_)
        replace hp : r = o7 := hp
        rw [hp]
        clear hp
        replace hI : WI D A s.heap (wP cI cJ cZ p0 p1 p2 p3 n0 n1 n2 n3 n4 n5 n6 v.1 P_picked v.2.1 N_postCount N_roadCount N_first N_second N_number N_allowed N_at N_beside) H locs := hI
        refine lv_istore (lv' := [(4, .int o7), (0, .ref p0), (1, .int l1), (2, .int l2), (3, .int v.2.2)]) hx hb dX4_pickLeast_50 hl (by decide) rfl (fun ls hl => ?_)
        refine lv_aload_n hx hb dX4_pickLeast_52 rfl (lv_at hl 1 rfl) ?_
        refine lv_iload hx hb dX4_pickLeast_53 (lv_at hl 0 rfl) ?_
        refine lv_iload_n hx hb dX4_pickLeast_55 rfl (lv_at hl 4 rfl) ?_
        obtain ⟨o8, ho8, hf⟩ := bd_e hf
        refine w_Vv0 (wc := (wP cI cJ cZ p0 p1 p2 p3 n0 n1 n2 n3 n4 n5 n6 v.1 P_picked v.2.1 N_postCount N_roadCount N_first N_second N_number N_allowed N_at N_beside)) (wr := []) (rest := []) hx hb hml hg hown hK hA hI (kX4_strike l D cI cJ cZ p0 p1 p2 p3 n0 n1 n2 n3 n4 n5 n6 v.1 P_picked v.2.1 N_postCount N_roadCount N_first N_second N_number N_allowed N_at N_beside o7 v.2.2 o8 ho8) kvX4_strike wL_RX4_68 ⟨Nat.le_of_ble_eq_true rfl, Nat.le_of_ble_eq_true rfl⟩ rfl rfl [0, 1, 2, 3, 4, 5, 6, 7, 8, 9, 10] [] rfl rfl rfl rfl (by decide) rfl rfl hl.1 (Nat.le_of_ble_eq_true rfl) dX4_pickLeast_56 ⟨Nat.zero_le _, Nat.zero_le _⟩ ⟨rfl, rfl⟩ (fun  u H locs hp hI => ?_)
        replace hI : WI D A s.heap (wP cI cJ cZ p0 p1 p2 p3 n0 n1 n2 n3 n4 n5 n6 o8 P_picked v.2.1 N_postCount N_roadCount N_first N_second N_number N_allowed N_at N_beside) H locs := hI
        refine lv_aload_n hx hb dX4_pickLeast_59 rfl (lv_at hl 1 rfl) ?_
        refine lv_iload_n hx hb dX4_pickLeast_60 rfl (lv_at hl 3 rfl) ?_
        obtain ⟨o9, ho9, hf⟩ := bd_e hf
        refine w_Vi0 (wc := (wP cI cJ cZ p0 p1 p2 p3 n0 n1 n2 n3 n4 n5 n6 o8 P_picked v.2.1 N_postCount N_roadCount N_first N_second N_number N_allowed N_at N_beside)) (wr := []) (rest := []) hx hb hml hg hown hK hA hI (kX4_isPossible l D cI cJ cZ p0 p1 p2 p3 n0 n1 n2 n3 n4 n5 n6 o8 P_picked v.2.1 N_postCount N_roadCount N_first N_second N_number N_allowed N_at N_beside l2 o9 ho9) kvX4_isPossible wL_RX4_46 ⟨Nat.le_of_ble_eq_true rfl, Nat.le_of_ble_eq_true rfl⟩ rfl rfl [0, 1, 2, 3, 4, 5, 6, 7, 8, 9, 10] [] rfl rfl rfl rfl (by decide) rfl rfl hl.1 (Nat.le_of_ble_eq_true rfl) dX4_pickLeast_61 ⟨Nat.zero_le _, Nat.zero_le _⟩ ⟨rfl, rfl⟩ (fun r u H locs hp hI => ?_)
        replace hp : r = o9.1 := hp
        rw [hp]
        clear hp
        replace hI : WI D A s.heap (wP cI cJ cZ p0 p1 p2 p3 n0 n1 n2 n3 n4 n5 n6 o8 P_picked o9.2 N_postCount N_roadCount N_first N_second N_number N_allowed N_at N_beside) H locs := hI
        refine lv_if_eq (tgt := 69) hx hb dX4_pickLeast_64 (by decide) (fun hc => ?_) (fun hc => ?_)
        · replace hf := ite_t hc hf
          refine lv_aload_n hx hb dX4_pickLeast_69 rfl (lv_at hl 1 rfl) ?_
          refine lv_iload hx hb dX4_pickLeast_70 (lv_at hl 0 rfl) ?_
          refine lv_iload_n hx hb dX4_pickLeast_72 rfl (lv_at hl 4 rfl) ?_
          obtain ⟨o10, ho10, hf⟩ := bd_e hf
          refine w_Vv0 (wc := (wP cI cJ cZ p0 p1 p2 p3 n0 n1 n2 n3 n4 n5 n6 o8 P_picked o9.2 N_postCount N_roadCount N_first N_second N_number N_allowed N_at N_beside)) (wr := []) (rest := []) hx hb hml hg hown hK hA hI (kX4_strike l D cI cJ cZ p0 p1 p2 p3 n0 n1 n2 n3 n4 n5 n6 o8 P_picked o9.2 N_postCount N_roadCount N_first N_second N_number N_allowed N_at N_beside o7 v.2.2 o10 ho10) kvX4_strike wL_RX4_68 ⟨Nat.le_of_ble_eq_true rfl, Nat.le_of_ble_eq_true rfl⟩ rfl rfl [0, 1, 2, 3, 4, 5, 6, 7, 8, 9, 10] [] rfl rfl rfl rfl (by decide) rfl rfl hl.1 (Nat.le_of_ble_eq_true rfl) dX4_pickLeast_73 ⟨Nat.zero_le _, Nat.zero_le _⟩ ⟨rfl, rfl⟩ (fun  u H locs hp hI => ?_)
          replace hI : WI D A s.heap (wP cI cJ cZ p0 p1 p2 p3 n0 n1 n2 n3 n4 n5 n6 o10 P_picked o9.2 N_postCount N_roadCount N_first N_second N_number N_allowed N_at N_beside) H locs := hI
          obtain ⟨x11, ex11⟩ : ∃ y : Int32, y = (v.2.2 + (1 : Int32)) := ⟨_, rfl⟩
          replace hf := bnd_e hf x11 ex11
          refine lv_iinc (v := x11) (lv' := [(3, .int x11), (4, .int o7), (0, .ref p0), (1, .int l1), (2, .int l2)]) hx hb dX4_pickLeast_76 hl (k := 4) rfl (by rw [ex11]; rfl) (by decide) rfl (fun ls hl => ?_)
          refine lv_goto (tgt := 15) hx hb dX4_pickLeast_79 (by decide) ?_
          replace hf := Option.some.inj hf
          subst hf
          exact hM _ _ _ hI (lv_sub hl [2, 3, 4, 0] rfl)
        · replace hf := ite_f hc hf
          refine lv_iload_n hx hb dX4_pickLeast_67 rfl (lv_at hl 4 rfl) ?_
          replace hf := Option.some.inj hf
          subst hf
          replace hM : (v.2.2, o8, o9.2) = out := hM
          subst hM
          exact rt_i (u := ()) hx hb hr hlocks rfl hI hAe rfl dX4_pickLeast_68
  obtain ⟨x, hf, hM⟩ : ∃ x, FX4_pickLeast P_can_0 P_left_0 N_roadCount N_first N_second N_beside a1 = some x ∧ x = out := ⟨out, hf, rfl⟩
  refine lv_aload_n hx hb dX4_pickLeast_0 rfl (lv_at hl 0 rfl) ?_
  refine w_get hx hb hg hown hK hI iX4 0 rfl rfl 0 (by decide) wF_RX4_22 rfl dX4_pickLeast_1 ?_
  obtain ⟨o1, ho1, hf⟩ := bd_e hf
  refine w_Vi0 (wc := (wN cI cJ cZ n0 n1 n2 n3 n4 n5 n6 N_postCount N_roadCount N_first N_second N_number N_allowed N_at N_beside)) (wr := [(p0, .inr (4, [.ref n0, .ref p1, .ref p2, .ref p3])), (p1, .inl (cI, 12, .inl P_can_0)), (p2, .inl (cI, 12, .inl P_picked)), (p3, .inl (cZ, 4096, .inl P_left_0))]) (rest := []) hx hb hml hg hown hK hA hI (kX3_allRoads l D cI cJ cZ n0 n1 n2 n3 n4 n5 n6 N_postCount N_roadCount N_first N_second N_number N_allowed N_at N_beside  o1 ho1) kvX3_allRoads wL_RX4_43 ⟨Nat.le_of_ble_eq_true rfl, Nat.le_of_ble_eq_true rfl⟩ rfl rfl [4, 5, 6, 7, 8, 9, 10] [0, 1, 2, 3] rfl rfl rfl rfl (by decide) rfl rfl hl.1 (Nat.le_of_ble_eq_true rfl) dX4_pickLeast_4 ⟨Nat.zero_le _, Nat.zero_le _⟩ ⟨rfl, rfl⟩ (fun r u H locs hp hI => ?_)
  replace hp : r = o1 := hp
  rw [hp]
  clear hp
  replace hI : WI D A s.heap (wP cI cJ cZ p0 p1 p2 p3 n0 n1 n2 n3 n4 n5 n6 P_can_0 P_picked P_left_0 N_postCount N_roadCount N_first N_second N_number N_allowed N_at N_beside) H locs := hI
  refine lv_iconst (v := 2) hx hb dX4_pickLeast_7 (by decide) ?_
  refine lv_iload_n hx hb dX4_pickLeast_8 rfl (lv_at hl 1 rfl) ?_
  refine lv_ishl hx hb dX4_pickLeast_9 ?_
  refine lv_ineg hx hb dX4_pickLeast_10 ?_
  refine lv_iand hx hb dX4_pickLeast_11 ?_
  refine lv_topi (fun x2 ex2 => ?_)
  replace hf := bnd_e hf x2 ex2
  refine lv_istore_n (lv' := [(2, .int x2), (0, .ref p0), (1, .int a1)]) hx hb dX4_pickLeast_12 rfl hl (by decide) rfl (fun ls hl => ?_)
  refine lv_iconst (v := 0) hx hb dX4_pickLeast_13 (by decide) ?_
  refine lv_istore_n (lv' := [(3, .int (0 : Int32)), (2, .int x2), (0, .ref p0), (1, .int a1)]) hx hb dX4_pickLeast_14 rfl hl (by decide) rfl (fun ls hl => ?_)
  exact L15 a1 x2 (P_can_0, P_left_0, (0 : Int32)) _ hf hM _ _ _ hI (lv_sub hl [2, 3, 1, 0] rfl)
noncomputable def X4_pickFirst_L48 (P_can : Nat → Int32) (P_picked : Nat → Int32) (P_left : Nat → Int32) (N_roadCount : Int32) (v : (Nat → Int32) × Int32) : Option (((Nat → Int32) × Int32) ⊕ (Int32 × (Nat → Int32) × (Nat → Int32) × (Nat → Int32) × (Nat → Int32))) :=
  if N_roadCount ≤ v.2 then (some (.inr ((1 : Int32), P_can, P_picked, P_left, v.1))) else (rd P_picked 12 v.2 (fun x3 => wr v.1 24 v.2 x3 (fun g4 => bnd (v.2 + (1 : Int32)) (fun x5 => some (.inl (g4, x5))))))
noncomputable def X4_pickFirst_L18 (N_roadCount : Int32) (N_first : Nat → Int32) (N_second : Nat → Int32) (N_number : Nat → Int32) (N_beside : Nat → Int32) (v : (Nat → Int32) × (Nat → Int32) × (Nat → Int32) × Int32) : Option (((Nat → Int32) × (Nat → Int32) × (Nat → Int32) × Int32) ⊕ (Int32 × (Nat → Int32) × (Nat → Int32) × (Nat → Int32) × (Nat → Int32))) :=
  if N_roadCount ≤ v.2.2.2 then ((loopO (X4_pickFirst_L48 v.1 v.2.1 v.2.2.1 N_roadCount) (N_number, (0 : Int32))).map (fun z => (.inr z))) else ((FX4_pickLeast v.1 v.2.2.1 N_roadCount N_first N_second N_beside v.2.2.2).bind (fun o6 => wr v.2.1 12 v.2.2.2 o6.1 (fun g7 => bnd (v.2.2.2 + (1 : Int32)) (fun x8 => some (.inl (o6.2.1, g7, o6.2.2, x8))))))
noncomputable def FX4_pickFirst (P_can_0 : Nat → Int32) (P_picked_0 : Nat → Int32) (P_left_0 : Nat → Int32) (N_roadCount : Int32) (N_first : Nat → Int32) (N_second : Nat → Int32) (N_number_0 : Nat → Int32) (N_beside : Nat → Int32)  : Option (Int32 × (Nat → Int32) × (Nat → Int32) × (Nat → Int32) × (Nat → Int32)) :=
  (FX3_allRoads N_roadCount).bind (fun o1 => (FX4_isPossible P_can_0 P_left_0 N_roadCount N_first N_second N_beside o1).bind (fun o2 => if o2.1 = (0 : Int32) then (some ((0 : Int32), P_can_0, P_picked_0, o2.2, N_number_0)) else (loopO (X4_pickFirst_L18 N_roadCount N_first N_second N_number_0 N_beside) (P_can_0, P_picked_0, o2.2, (0 : Int32)))))
abbrev GX4_pickFirst (p : Program) (l : Launch) (e : Env) (s : State) (m : MethodId) (below : List Frame) (meth : Method) (c : Code) (D : va_G) (cI cJ cZ : ClassId) (p0 p1 p2 p3 n0 n1 n2 n3 n4 n5 n6 : Nat) (P_can_0 : Nat → Int32) (P_picked_0 : Nat → Int32) (P_left_0 : Nat → Int32) (N_postCount : Int32) (N_roadCount : Int32) (N_first : Nat → Int32) (N_second : Nat → Int32) (N_number_0 : Nat → Int32) (N_allowed : Nat → Int32) (N_at : Nat → Int32) (N_beside : Nat → Int32)  (out : Int32 × (Nat → Int32) × (Nat → Int32) × (Nat → Int32) × (Nat → Int32)) (H : Heap) (locs : List Loc) (g : JFrame) : Prop := W p l e (headSpec (Cond.code yX4_pickFirst cX4_pickFirst 2 (some .boolean) :: GW) { frames := 19, cells := 0, slots := 0, locals := 712 }).room s m ([.ref p0] : List Value).toArray below meth c H locs 0 0 (MQ below (va_Qi (fun r (_ : Unit) => r = out.1) (BW D (wP cI cJ cZ p0 p1 p2 p3 n0 n1 n2 n3 n4 n5 n6 P_can_0 P_picked_0 P_left_0 N_postCount N_roadCount N_first N_second N_number_0 N_allowed N_at N_beside) s.heap.size (fun _ => (wP cI cJ cZ p0 p1 p2 p3 n0 n1 n2 n3 n4 n5 n6 out.2.1 out.2.2.1 out.2.2.2.1 N_postCount N_roadCount N_first N_second out.2.2.2.2 N_allowed N_at N_beside))) (va_A (wP cI cJ cZ p0 p1 p2 p3 n0 n1 n2 n3 n4 n5 n6 P_can_0 P_picked_0 P_left_0 N_postCount N_roadCount N_first N_second N_number_0 N_allowed N_at N_beside) s.heap.size)) ([.ref p0] : List Value).toArray s 0 0 (va_A (wP cI cJ cZ p0 p1 p2 p3 n0 n1 n2 n3 n4 n5 n6 P_can_0 P_picked_0 P_left_0 N_postCount N_roadCount N_first N_second N_number_0 N_allowed N_at N_beside) s.heap.size)) g
theorem kvX4_pickFirst : CalV RX4 yX4_pickFirst cX4_pickFirst 2 (some .boolean) 0 := ⟨wC_yX4_pickFirst, wM_yX4_pickFirst, wS_yX4_pickFirst, wI_RX4, by decide +kernel⟩
set_option maxHeartbeats 4000000 in
set_option maxRecDepth 100000 in
theorem kX4_pickFirst (l : Launch) (D : va_G) (cI cJ cZ : ClassId) (p0 p1 p2 p3 n0 n1 n2 n3 n4 n5 n6 : Nat) (P_can_0 : Nat → Int32) (P_picked_0 : Nat → Int32) (P_left_0 : Nat → Int32) (N_postCount : Int32) (N_roadCount : Int32) (N_first : Nat → Int32) (N_second : Nat → Int32) (N_number_0 : Nat → Int32) (N_allowed : Nat → Int32) (N_at : Nat → Int32) (N_beside : Nat → Int32)  (out : Int32 × (Nat → Int32) × (Nat → Int32) × (Nat → Int32) × (Nat → Int32)) (hf : FX4_pickFirst P_can_0 P_picked_0 P_left_0 N_roadCount N_first N_second N_number_0 N_beside = some out) : MI l yX4_pickFirst (Cond.code yX4_pickFirst cX4_pickFirst 2 (some .boolean) :: GW) { frames := 19, cells := 0, slots := 0, locals := 712 } D cI cJ cZ [.ref p0] (wP cI cJ cZ p0 p1 p2 p3 n0 n1 n2 n3 n4 n5 n6 P_can_0 P_picked_0 P_left_0 N_postCount N_roadCount N_first N_second N_number_0 N_allowed N_at N_beside) (fun r (_ : Unit) => r = out.1) (fun _ => (wP cI cJ cZ p0 p1 p2 p3 n0 n1 n2 n3 n4 n5 n6 out.2.1 out.2.2.1 out.2.2.2.1 N_postCount N_roadCount N_first N_second out.2.2.2.2 N_allowed N_at N_beside)) := by
  intro sz
  refine Met.ofW (cc := cX4_pickFirst) (maxL := 2) (ret := (some .boolean)) (by decide +kernel) rfl ?_
  intro p e s m args below meth c s₁ B hml hv
  obtain ⟨rfl, hsz, hP, hK, hD0⟩ := hv
  have hx := B.exec
  have hb := B.bytes
  have hr := B.returns
  have hlocks := B.notSynchronized
  have hg : ∀ w ∈ GW, w.before _ s = true := fun w h => atoms_spec (ws := Cond.code yX4_pickFirst cX4_pickFirst 2 (some .boolean) :: GW) B.pre w (List.mem_cons_of_mem _ h)
  have hown : s.vm.findClass RX4 = some m.cls := findClass_of_methodNamed B.named
  subst hsz
  obtain ⟨A, hAe⟩ : ∃ A, A = va_A (wP cI cJ cZ p0 p1 p2 p3 n0 n1 n2 n3 n4 n5 n6 P_can_0 P_picked_0 P_left_0 N_postCount N_roadCount N_first N_second N_number_0 N_allowed N_at N_beside) s.heap.size := ⟨_, rfl⟩
  have hA : ∀ q : Nat, s.heap.size ≤ q → A q := fun q h => by rw [hAe]; exact Or.inr h
  have hI : WI D A s.heap (wP cI cJ cZ p0 p1 p2 p3 n0 n1 n2 n3 n4 n5 n6 P_can_0 P_picked_0 P_left_0 N_postCount N_roadCount N_first N_second N_number_0 N_allowed N_at N_beside) s.heap [] := ⟨hP, by rw [hAe]; exact hD0.self, va_S.rf⟩
  have hl := lv_entry [.ref p0] (n := 2) (Nat.le_of_ble_eq_true rfl)
  rw [lg_entry_eq]
  generalize (lg_sl [.ref p0] ++ List.replicate (2 - (lg_sl [.ref p0]).length) Slot.unset).toArray = ls at hl ⊢
  replace hl : lv_has ls 2 [(0, .ref p0)] := hl
  have L48 : ∀ (P_can : Nat → Int32) (P_picked : Nat → Int32) (P_left : Nat → Int32), ∀ (v : (Nat → Int32) × Int32) (x : Int32 × (Nat → Int32) × (Nat → Int32) × (Nat → Int32) × (Nat → Int32)), loopO (X4_pickFirst_L48 P_can P_picked P_left N_roadCount) v = some x → (fun z : Int32 × (Nat → Int32) × (Nat → Int32) × (Nat → Int32) × (Nat → Int32) => z = out) x → (fun (v : (Nat → Int32) × Int32) => ∀ (H : Heap) (locs : List Loc) (ls : Array Slot), WI D A s.heap (wP cI cJ cZ p0 p1 p2 p3 n0 n1 n2 n3 n4 n5 n6 P_can P_picked P_left N_postCount N_roadCount N_first N_second v.1 N_allowed N_at N_beside) H locs → lv_has ls 2 [(0, .ref p0), (1, .int v.2)] → GX4_pickFirst p l e s m below meth c D cI cJ cZ p0 p1 p2 p3 n0 n1 n2 n3 n4 n5 n6 P_can_0 P_picked_0 P_left_0 N_postCount N_roadCount N_first N_second N_number_0 N_allowed N_at N_beside  out H locs (F0 m 48 ls [])) v := by
    intro P_can P_picked P_left
    refine loopO_ind (fun (v : (Nat → Int32) × Int32) => ∀ (H : Heap) (locs : List Loc) (ls : Array Slot), WI D A s.heap (wP cI cJ cZ p0 p1 p2 p3 n0 n1 n2 n3 n4 n5 n6 P_can P_picked P_left N_postCount N_roadCount N_first N_second v.1 N_allowed N_at N_beside) H locs → lv_has ls 2 [(0, .ref p0), (1, .int v.2)] → GX4_pickFirst p l e s m below meth c D cI cJ cZ p0 p1 p2 p3 n0 n1 n2 n3 n4 n5 n6 P_can_0 P_picked_0 P_left_0 N_postCount N_roadCount N_first N_second N_number_0 N_allowed N_at N_beside  out H locs (F0 m 48 ls [])) (fun z : Int32 × (Nat → Int32) × (Nat → Int32) × (Nat → Int32) × (Nat → Int32) => z = out) ?_
    intro v x hf hM H locs ls hI hl
    refine lv_iload_n hx hb dX4_pickFirst_48 rfl (lv_at hl 1 rfl) ?_
    refine lv_aload_n hx hb dX4_pickFirst_49 rfl (lv_at hl 0 rfl) ?_
    refine w_get hx hb hg hown hK hI iX4 0 rfl rfl 0 (by decide) wF_RX4_22 rfl dX4_pickFirst_50 ?_
    refine w_get hx hb hg hown hK hI iX3 4 rfl rfl 1 (by decide) wF_RX4_26 rfl dX4_pickFirst_53 ?_
    refine lv_icmp_ge (tgt := 80) hx hb dX4_pickFirst_56 (by decide) (fun hc => ?_) (fun hc => ?_)
    · replace hf := ite_t hc hf
      refine lv_iconst (v := 1) hx hb dX4_pickFirst_80 (by decide) ?_
      replace hf := Option.some.inj hf
      subst hf
      replace hM : ((1 : Int32), P_can, P_picked, P_left, v.1) = out := hM
      subst hM
      exact rt_i (u := ()) hx hb hr hlocks (by decide) hI hAe rfl dX4_pickFirst_81
    · replace hf := ite_f hc hf
      refine lv_aload_n hx hb dX4_pickFirst_59 rfl (lv_at hl 0 rfl) ?_
      refine w_get hx hb hg hown hK hI iX4 0 rfl rfl 0 (by decide) wF_RX4_22 rfl dX4_pickFirst_60 ?_
      refine w_get hx hb hg hown hK hI iX3 4 rfl rfl 4 (by decide) wF_RX4_54 rfl dX4_pickFirst_63 ?_
      refine lv_iload_n hx hb dX4_pickFirst_66 rfl (lv_at hl 1 rfl) ?_
      refine lv_aload_n hx hb dX4_pickFirst_67 rfl (lv_at hl 0 rfl) ?_
      refine w_get hx hb hg hown hK hI iX4 0 rfl rfl 2 (by decide) wF_RX4_15 rfl dX4_pickFirst_68 ?_
      refine lv_iload_n hx hb dX4_pickFirst_71 rfl (lv_at hl 1 rfl) ?_
      obtain ⟨hin, hf⟩ := rd_e hf
      refine w_iald hx hb hK hI 2 rfl hin dX4_pickFirst_72 (fun x3 ex3 => ?_)
      replace hf := hf x3 ex3
      obtain ⟨hin, hf⟩ := wr_e hf
      obtain ⟨g4, eg4⟩ : ∃ g : Nat → Int32, g = upd v.1 (v.2).toNatClampNeg x3 := ⟨_, rfl⟩
      replace hf := hf g4 eg4
      refine w_iast (g := g4) (W1 := (wP cI cJ cZ p0 p1 p2 p3 n0 n1 n2 n3 n4 n5 n6 P_can P_picked P_left N_postCount N_roadCount N_first N_second g4 N_allowed N_at N_beside)) hx hb hK hI 7 rfl hin eg4 dX4_pickFirst_73 rfl (fun H locs hI => ?_)
      obtain ⟨x5, ex5⟩ : ∃ y : Int32, y = (v.2 + (1 : Int32)) := ⟨_, rfl⟩
      replace hf := bnd_e hf x5 ex5
      refine lv_iinc (v := x5) (lv' := [(1, .int x5), (0, .ref p0)]) hx hb dX4_pickFirst_74 hl (k := 1) rfl (by rw [ex5]; rfl) (by decide) rfl (fun ls hl => ?_)
      refine lv_goto (tgt := 48) hx hb dX4_pickFirst_77 (by decide) ?_
      replace hf := Option.some.inj hf
      subst hf
      exact hM _ _ _ hI (lv_sub hl [1, 0] rfl)
  have L18 : ∀ (N_number : Nat → Int32), ∀ (v : (Nat → Int32) × (Nat → Int32) × (Nat → Int32) × Int32) (x : Int32 × (Nat → Int32) × (Nat → Int32) × (Nat → Int32) × (Nat → Int32)), loopO (X4_pickFirst_L18 N_roadCount N_first N_second N_number N_beside) v = some x → (fun z : Int32 × (Nat → Int32) × (Nat → Int32) × (Nat → Int32) × (Nat → Int32) => z = out) x → (fun (v : (Nat → Int32) × (Nat → Int32) × (Nat → Int32) × Int32) => ∀ (H : Heap) (locs : List Loc) (ls : Array Slot), WI D A s.heap (wP cI cJ cZ p0 p1 p2 p3 n0 n1 n2 n3 n4 n5 n6 v.1 v.2.1 v.2.2.1 N_postCount N_roadCount N_first N_second N_number N_allowed N_at N_beside) H locs → lv_has ls 2 [(0, .ref p0), (1, .int v.2.2.2)] → GX4_pickFirst p l e s m below meth c D cI cJ cZ p0 p1 p2 p3 n0 n1 n2 n3 n4 n5 n6 P_can_0 P_picked_0 P_left_0 N_postCount N_roadCount N_first N_second N_number_0 N_allowed N_at N_beside  out H locs (F0 m 18 ls [])) v := by
    intro N_number
    refine loopO_ind (fun (v : (Nat → Int32) × (Nat → Int32) × (Nat → Int32) × Int32) => ∀ (H : Heap) (locs : List Loc) (ls : Array Slot), WI D A s.heap (wP cI cJ cZ p0 p1 p2 p3 n0 n1 n2 n3 n4 n5 n6 v.1 v.2.1 v.2.2.1 N_postCount N_roadCount N_first N_second N_number N_allowed N_at N_beside) H locs → lv_has ls 2 [(0, .ref p0), (1, .int v.2.2.2)] → GX4_pickFirst p l e s m below meth c D cI cJ cZ p0 p1 p2 p3 n0 n1 n2 n3 n4 n5 n6 P_can_0 P_picked_0 P_left_0 N_postCount N_roadCount N_first N_second N_number_0 N_allowed N_at N_beside  out H locs (F0 m 18 ls [])) (fun z : Int32 × (Nat → Int32) × (Nat → Int32) × (Nat → Int32) × (Nat → Int32) => z = out) ?_
    intro v x hf hM H locs ls hI hl
    refine lv_iload_n hx hb dX4_pickFirst_18 rfl (lv_at hl 1 rfl) ?_
    refine lv_aload_n hx hb dX4_pickFirst_19 rfl (lv_at hl 0 rfl) ?_
    refine w_get hx hb hg hown hK hI iX4 0 rfl rfl 0 (by decide) wF_RX4_22 rfl dX4_pickFirst_20 ?_
    refine w_get hx hb hg hown hK hI iX3 4 rfl rfl 1 (by decide) wF_RX4_26 rfl dX4_pickFirst_23 ?_
    refine lv_icmp_ge (tgt := 46) hx hb dX4_pickFirst_26 (by decide) (fun hc => ?_) (fun hc => ?_)
    · replace hf := ite_t hc hf
      refine lv_iconst (v := 0) hx hb dX4_pickFirst_46 (by decide) ?_
      refine lv_istore_n (lv' := [(1, .int (0 : Int32)), (0, .ref p0)]) hx hb dX4_pickFirst_47 rfl hl (by decide) rfl (fun ls hl => ?_)
      obtain ⟨z, hf2, ez⟩ := mp_e hf
      clear hf
      subst ez
      exact L48 v.1 v.2.1 v.2.2.1 (N_number, (0 : Int32)) _ hf2 hM _ _ _ hI (lv_sub hl [1, 0] rfl)
    · replace hf := ite_f hc hf
      refine lv_aload_n hx hb dX4_pickFirst_29 rfl (lv_at hl 0 rfl) ?_
      refine w_get hx hb hg hown hK hI iX4 0 rfl rfl 2 (by decide) wF_RX4_15 rfl dX4_pickFirst_30 ?_
      refine lv_iload_n hx hb dX4_pickFirst_33 rfl (lv_at hl 1 rfl) ?_
      refine lv_aload_n hx hb dX4_pickFirst_34 rfl (lv_at hl 0 rfl) ?_
      refine lv_iload_n hx hb dX4_pickFirst_35 rfl (lv_at hl 1 rfl) ?_
      obtain ⟨o6, ho6, hf⟩ := bd_e hf
      refine w_Vi0 (wc := (wP cI cJ cZ p0 p1 p2 p3 n0 n1 n2 n3 n4 n5 n6 v.1 v.2.1 v.2.2.1 N_postCount N_roadCount N_first N_second N_number N_allowed N_at N_beside)) (wr := []) (rest := [.int v.2.2.2, .ref p2]) hx hb hml hg hown hK hA hI (kX4_pickLeast l D cI cJ cZ p0 p1 p2 p3 n0 n1 n2 n3 n4 n5 n6 v.1 v.2.1 v.2.2.1 N_postCount N_roadCount N_first N_second N_number N_allowed N_at N_beside v.2.2.2 o6 ho6) kvX4_pickLeast wL_RX4_50 ⟨Nat.le_of_ble_eq_true rfl, Nat.le_of_ble_eq_true rfl⟩ rfl rfl [0, 1, 2, 3, 4, 5, 6, 7, 8, 9, 10] [] rfl rfl rfl rfl (by decide) rfl rfl hl.1 (Nat.le_of_ble_eq_true rfl) dX4_pickFirst_36 ⟨Nat.zero_le _, Nat.zero_le _⟩ ⟨rfl, rfl⟩ (fun r u H locs hp hI => ?_)
      replace hp : r = o6.1 := hp
      rw [hp]
      clear hp
      replace hI : WI D A s.heap (wP cI cJ cZ p0 p1 p2 p3 n0 n1 n2 n3 n4 n5 n6 o6.2.1 v.2.1 o6.2.2 N_postCount N_roadCount N_first N_second N_number N_allowed N_at N_beside) H locs := hI
      obtain ⟨hin, hf⟩ := wr_e hf
      obtain ⟨g7, eg7⟩ : ∃ g : Nat → Int32, g = upd v.2.1 (v.2.2.2).toNatClampNeg o6.1 := ⟨_, rfl⟩
      replace hf := hf g7 eg7
      refine w_iast (g := g7) (W1 := (wP cI cJ cZ p0 p1 p2 p3 n0 n1 n2 n3 n4 n5 n6 o6.2.1 g7 o6.2.2 N_postCount N_roadCount N_first N_second N_number N_allowed N_at N_beside)) hx hb hK hI 2 rfl hin eg7 dX4_pickFirst_39 rfl (fun H locs hI => ?_)
      obtain ⟨x8, ex8⟩ : ∃ y : Int32, y = (v.2.2.2 + (1 : Int32)) := ⟨_, rfl⟩
      replace hf := bnd_e hf x8 ex8
      refine lv_iinc (v := x8) (lv' := [(1, .int x8), (0, .ref p0)]) hx hb dX4_pickFirst_40 hl (k := 1) rfl (by rw [ex8]; rfl) (by decide) rfl (fun ls hl => ?_)
      refine lv_goto (tgt := 18) hx hb dX4_pickFirst_43 (by decide) ?_
      replace hf := Option.some.inj hf
      subst hf
      exact hM _ _ _ hI (lv_sub hl [1, 0] rfl)
  obtain ⟨x, hf, hM⟩ : ∃ x, FX4_pickFirst P_can_0 P_picked_0 P_left_0 N_roadCount N_first N_second N_number_0 N_beside = some x ∧ x = out := ⟨out, hf, rfl⟩
  refine lv_aload_n hx hb dX4_pickFirst_0 rfl (lv_at hl 0 rfl) ?_
  refine lv_aload_n hx hb dX4_pickFirst_1 rfl (lv_at hl 0 rfl) ?_
  refine w_get hx hb hg hown hK hI iX4 0 rfl rfl 0 (by decide) wF_RX4_22 rfl dX4_pickFirst_2 ?_
  obtain ⟨o1, ho1, hf⟩ := bd_e hf
  refine w_Vi0 (wc := (wN cI cJ cZ n0 n1 n2 n3 n4 n5 n6 N_postCount N_roadCount N_first N_second N_number_0 N_allowed N_at N_beside)) (wr := [(p0, .inr (4, [.ref n0, .ref p1, .ref p2, .ref p3])), (p1, .inl (cI, 12, .inl P_can_0)), (p2, .inl (cI, 12, .inl P_picked_0)), (p3, .inl (cZ, 4096, .inl P_left_0))]) (rest := [.ref p0]) hx hb hml hg hown hK hA hI (kX3_allRoads l D cI cJ cZ n0 n1 n2 n3 n4 n5 n6 N_postCount N_roadCount N_first N_second N_number_0 N_allowed N_at N_beside  o1 ho1) kvX3_allRoads wL_RX4_43 ⟨Nat.le_of_ble_eq_true rfl, Nat.le_of_ble_eq_true rfl⟩ rfl rfl [4, 5, 6, 7, 8, 9, 10] [0, 1, 2, 3] rfl rfl rfl rfl (by decide) rfl rfl hl.1 (Nat.le_of_ble_eq_true rfl) dX4_pickFirst_5 ⟨Nat.zero_le _, Nat.zero_le _⟩ ⟨rfl, rfl⟩ (fun r u H locs hp hI => ?_)
  replace hp : r = o1 := hp
  rw [hp]
  clear hp
  replace hI : WI D A s.heap (wP cI cJ cZ p0 p1 p2 p3 n0 n1 n2 n3 n4 n5 n6 P_can_0 P_picked_0 P_left_0 N_postCount N_roadCount N_first N_second N_number_0 N_allowed N_at N_beside) H locs := hI
  obtain ⟨o2, ho2, hf⟩ := bd_e hf
  refine w_Vi0 (wc := (wP cI cJ cZ p0 p1 p2 p3 n0 n1 n2 n3 n4 n5 n6 P_can_0 P_picked_0 P_left_0 N_postCount N_roadCount N_first N_second N_number_0 N_allowed N_at N_beside)) (wr := []) (rest := []) hx hb hml hg hown hK hA hI (kX4_isPossible l D cI cJ cZ p0 p1 p2 p3 n0 n1 n2 n3 n4 n5 n6 P_can_0 P_picked_0 P_left_0 N_postCount N_roadCount N_first N_second N_number_0 N_allowed N_at N_beside o1 o2 ho2) kvX4_isPossible wL_RX4_46 ⟨Nat.le_of_ble_eq_true rfl, Nat.le_of_ble_eq_true rfl⟩ rfl rfl [0, 1, 2, 3, 4, 5, 6, 7, 8, 9, 10] [] rfl rfl rfl rfl (by decide) rfl rfl hl.1 (Nat.le_of_ble_eq_true rfl) dX4_pickFirst_8 ⟨Nat.zero_le _, Nat.zero_le _⟩ ⟨rfl, rfl⟩ (fun r u H locs hp hI => ?_)
  replace hp : r = o2.1 := hp
  rw [hp]
  clear hp
  replace hI : WI D A s.heap (wP cI cJ cZ p0 p1 p2 p3 n0 n1 n2 n3 n4 n5 n6 P_can_0 P_picked_0 o2.2 N_postCount N_roadCount N_first N_second N_number_0 N_allowed N_at N_beside) H locs := hI
  refine lv_if_ne (tgt := 16) hx hb dX4_pickFirst_11 (by decide) (fun hc => ?_) (fun hc => ?_)
  · replace hf := ite_f hc hf
    refine lv_iconst (v := 0) hx hb dX4_pickFirst_16 (by decide) ?_
    refine lv_istore_n (lv' := [(1, .int (0 : Int32)), (0, .ref p0)]) hx hb dX4_pickFirst_17 rfl hl (by decide) rfl (fun ls hl => ?_)
    exact L18 N_number_0 (P_can_0, P_picked_0, o2.2, (0 : Int32)) _ hf hM _ _ _ hI (lv_sub hl [1, 0] rfl)
  · replace hf := ite_t hc hf
    refine lv_iconst (v := 0) hx hb dX4_pickFirst_14 (by decide) ?_
    replace hf := Option.some.inj hf
    subst hf
    replace hM : ((0 : Int32), P_can_0, P_picked_0, o2.2, N_number_0) = out := hM
    subst hM
    exact rt_i (u := ()) hx hb hr hlocks (by decide) hI hAe rfl dX4_pickFirst_15
noncomputable def X6_takeOut_L16 (rec : (Nat → Int64) → (Int32) → (Nat → Int32) → Int32 → Int32 → Int32 → Int64 → Option ((Nat → Int64))) (N_roadCount : Int32) (N_beside : Nat → Int32) (l1 : Int32) (l2 : Int32) (l4 : Int64) (v : (Nat → Int64) × Int32) : Option (((Nat → Int64) × Int32) ⊕ ((Nat → Int64))) :=
  if N_roadCount ≤ v.2 then (some (.inr v.1)) else ((FX7_isIn l2 v.2).bind (fun x4 => if x4 = (0 : Int32) then (bnd (v.2 + (1 : Int32)) (fun x5 => some (.inl (v.1, x5)))) else (rd N_beside 24 v.2 (fun x6 => (rec v.1 N_roadCount N_beside (l1 ^^^ ((1 : Int32) <<< (v.2 &&& (31 : Int32)))) (l2 &&& (x6 ^^^ (-1 : Int32))) v.2 l4).bind (fun o7 => bnd (v.2 + (1 : Int32)) (fun x8 => some (.inl (o7, x8))))))))
noncomputable def BX6_takeOut (rec : (Nat → Int64) → (Int32) → (Nat → Int32) → Int32 → Int32 → Int32 → Int64 → Option ((Nat → Int64))) (T_ways_0 : Nat → Int64) (N_roadCount : Int32) (N_beside : Nat → Int32) (a1 : Int32) (a2 : Int32) (a3 : Int32) (a4 : Int64) : Option ((Nat → Int64)) :=
  rd T_ways_0 4096 a1 (fun x1 => wrJ T_ways_0 4096 a1 (x1 + a4) (fun g2 => bnd (a3 + (1 : Int32)) (fun x3 => loopO (X6_takeOut_L16 rec N_roadCount N_beside a1 a2 a4) (g2, x3))))
noncomputable def FX6_takeOut : Nat → (Nat → Int64) → (Int32) → (Nat → Int32) → Int32 → Int32 → Int32 → Int64 → Option ((Nat → Int64))
  | 0 => fun _ _ _ _ _ _ _ => none
  | d + 1 => BX6_takeOut (FX6_takeOut d)
abbrev GX6_takeOut (d : Nat) (p : Program) (l : Launch) (e : Env) (s : State) (m : MethodId) (below : List Frame) (meth : Method) (c : Code) (D : va_G) (cI cJ cZ : ClassId) (t0 t1 n0 n1 n2 n3 n4 n5 n6 : Nat) (T_ways_0 : Nat → Int64) (N_postCount : Int32) (N_roadCount : Int32) (N_first : Nat → Int32) (N_second : Nat → Int32) (N_number : Nat → Int32) (N_allowed : Nat → Int32) (N_at : Nat → Int32) (N_beside : Nat → Int32) (a1 : Int32) (a2 : Int32) (a3 : Int32) (a4 : Int64) (out : (Nat → Int64)) (H : Heap) (locs : List Loc) (g : JFrame) : Prop := W p l e (headSpec (Cond.code yX6_takeOut cX6_takeOut 7 none :: GW) { frames := d + 2, cells := 0, slots := 0, locals := 40 * (d + 2) }).room s m ([.ref t0, .int a1, .int a2, .int a3, .long a4] : List Value).toArray below meth c H locs 0 0 (MQ below (va_Qv (fun (_ : Unit) => True) (BW D (wT cI cJ cZ t0 t1 n0 n1 n2 n3 n4 n5 n6 T_ways_0 N_postCount N_roadCount N_first N_second N_number N_allowed N_at N_beside) s.heap.size (fun _ => (wT cI cJ cZ t0 t1 n0 n1 n2 n3 n4 n5 n6 out N_postCount N_roadCount N_first N_second N_number N_allowed N_at N_beside))) (va_A (wT cI cJ cZ t0 t1 n0 n1 n2 n3 n4 n5 n6 T_ways_0 N_postCount N_roadCount N_first N_second N_number N_allowed N_at N_beside) s.heap.size)) ([.ref t0, .int a1, .int a2, .int a3, .long a4] : List Value).toArray s 0 0 (va_A (wT cI cJ cZ t0 t1 n0 n1 n2 n3 n4 n5 n6 T_ways_0 N_postCount N_roadCount N_first N_second N_number N_allowed N_at N_beside) s.heap.size)) g
theorem kvX6_takeOut : CalV RX6 yX6_takeOut cX6_takeOut 7 none 4 := ⟨wC_yX6_takeOut, wM_yX6_takeOut, wS_yX6_takeOut, wI_RX6, by decide +kernel⟩
set_option maxHeartbeats 4000000 in
set_option maxRecDepth 100000 in
theorem bkX6_takeOut (d : Nat) (rec : (Nat → Int64) → (Int32) → (Nat → Int32) → Int32 → Int32 → Int32 → Int64 → Option ((Nat → Int64))) (l : Launch) (D : va_G) (cI cJ cZ : ClassId) (t0 t1 n0 n1 n2 n3 n4 n5 n6 : Nat) (hrec : ∀ (T_ways_0 : Nat → Int64) (N_postCount : Int32) (N_roadCount : Int32) (N_first : Nat → Int32) (N_second : Nat → Int32) (N_number : Nat → Int32) (N_allowed : Nat → Int32) (N_at : Nat → Int32) (N_beside : Nat → Int32) (a1 : Int32) (a2 : Int32) (a3 : Int32) (a4 : Int64) (out : (Nat → Int64)), rec T_ways_0 N_roadCount N_beside a1 a2 a3 a4 = some out → MV l yX6_takeOut (Cond.code yX6_takeOut cX6_takeOut 7 none :: GW) { frames := d + 1, cells := 0, slots := 0, locals := 40 * (d + 1) } D cI cJ cZ [.ref t0, .int a1, .int a2, .int a3, .long a4] (wT cI cJ cZ t0 t1 n0 n1 n2 n3 n4 n5 n6 T_ways_0 N_postCount N_roadCount N_first N_second N_number N_allowed N_at N_beside) (fun (_ : Unit) => True) (fun _ => (wT cI cJ cZ t0 t1 n0 n1 n2 n3 n4 n5 n6 out N_postCount N_roadCount N_first N_second N_number N_allowed N_at N_beside))) (T_ways_0 : Nat → Int64) (N_postCount : Int32) (N_roadCount : Int32) (N_first : Nat → Int32) (N_second : Nat → Int32) (N_number : Nat → Int32) (N_allowed : Nat → Int32) (N_at : Nat → Int32) (N_beside : Nat → Int32) (a1 : Int32) (a2 : Int32) (a3 : Int32) (a4 : Int64) (out : (Nat → Int64)) (hf : BX6_takeOut rec T_ways_0 N_roadCount N_beside a1 a2 a3 a4 = some out) : MV l yX6_takeOut (Cond.code yX6_takeOut cX6_takeOut 7 none :: GW) { frames := d + 2, cells := 0, slots := 0, locals := 40 * (d + 2) } D cI cJ cZ [.ref t0, .int a1, .int a2, .int a3, .long a4] (wT cI cJ cZ t0 t1 n0 n1 n2 n3 n4 n5 n6 T_ways_0 N_postCount N_roadCount N_first N_second N_number N_allowed N_at N_beside) (fun (_ : Unit) => True) (fun _ => (wT cI cJ cZ t0 t1 n0 n1 n2 n3 n4 n5 n6 out N_postCount N_roadCount N_first N_second N_number N_allowed N_at N_beside)) := by
  intro sz
  refine Met.ofW (cc := cX6_takeOut) (maxL := 7) (ret := none) (by decide +kernel) rfl ?_
  intro p e s m args below meth c s₁ B hml hv
  obtain ⟨rfl, hsz, hP, hK, hD0⟩ := hv
  have hx := B.exec
  have hb := B.bytes
  have hr := B.returns
  have hlocks := B.notSynchronized
  have hg : ∀ w ∈ GW, w.before _ s = true := fun w h => atoms_spec (ws := Cond.code yX6_takeOut cX6_takeOut 7 none :: GW) B.pre w (List.mem_cons_of_mem _ h)
  have hown : s.vm.findClass RX6 = some m.cls := findClass_of_methodNamed B.named
  subst hsz
  obtain ⟨A, hAe⟩ : ∃ A, A = va_A (wT cI cJ cZ t0 t1 n0 n1 n2 n3 n4 n5 n6 T_ways_0 N_postCount N_roadCount N_first N_second N_number N_allowed N_at N_beside) s.heap.size := ⟨_, rfl⟩
  have hA : ∀ q : Nat, s.heap.size ≤ q → A q := fun q h => by rw [hAe]; exact Or.inr h
  have hI : WI D A s.heap (wT cI cJ cZ t0 t1 n0 n1 n2 n3 n4 n5 n6 T_ways_0 N_postCount N_roadCount N_first N_second N_number N_allowed N_at N_beside) s.heap [] := ⟨hP, by rw [hAe]; exact hD0.self, va_S.rf⟩
  have hl := lv_entry [.ref t0, .int a1, .int a2, .int a3, .long a4] (n := 7) (Nat.le_of_ble_eq_true rfl)
  rw [lg_entry_eq]
  generalize (lg_sl [.ref t0, .int a1, .int a2, .int a3, .long a4] ++ List.replicate (7 - (lg_sl [.ref t0, .int a1, .int a2, .int a3, .long a4]).length) Slot.unset).toArray = ls at hl ⊢
  replace hl : lv_has ls 7 [(0, .ref t0), (1, .int a1), (2, .int a2), (3, .int a3), (4, .long a4)] := hl
  have L16 : ∀ (l1 : Int32) (l2 : Int32) (l4 : Int64), ∀ (v : (Nat → Int64) × Int32) (x : (Nat → Int64)), loopO (X6_takeOut_L16 rec N_roadCount N_beside l1 l2 l4) v = some x → (fun z : (Nat → Int64) => z = out) x → (fun (v : (Nat → Int64) × Int32) => ∀ (H : Heap) (locs : List Loc) (ls : Array Slot), WI D A s.heap (wT cI cJ cZ t0 t1 n0 n1 n2 n3 n4 n5 n6 v.1 N_postCount N_roadCount N_first N_second N_number N_allowed N_at N_beside) H locs → lv_has ls 7 [(0, .ref t0), (1, .int l1), (2, .int l2), (4, .long l4), (6, .int v.2)] → GX6_takeOut d p l e s m below meth c D cI cJ cZ t0 t1 n0 n1 n2 n3 n4 n5 n6 T_ways_0 N_postCount N_roadCount N_first N_second N_number N_allowed N_at N_beside a1 a2 a3 a4 out H locs (F0 m 16 ls [])) v := by
    intro l1 l2 l4
    refine loopO_ind (fun (v : (Nat → Int64) × Int32) => ∀ (H : Heap) (locs : List Loc) (ls : Array Slot), WI D A s.heap (wT cI cJ cZ t0 t1 n0 n1 n2 n3 n4 n5 n6 v.1 N_postCount N_roadCount N_first N_second N_number N_allowed N_at N_beside) H locs → lv_has ls 7 [(0, .ref t0), (1, .int l1), (2, .int l2), (4, .long l4), (6, .int v.2)] → GX6_takeOut d p l e s m below meth c D cI cJ cZ t0 t1 n0 n1 n2 n3 n4 n5 n6 T_ways_0 N_postCount N_roadCount N_first N_second N_number N_allowed N_at N_beside a1 a2 a3 a4 out H locs (F0 m 16 ls [])) (fun z : (Nat → Int64) => z = out) ?_
    intro v x hf hM H locs ls hI hl
    refine lv_iload hx hb dX6_takeOut_16 (lv_at hl 4 rfl) ?_
    refine lv_aload_n hx hb dX6_takeOut_18 rfl (lv_at hl 0 rfl) ?_
    refine w_get hx hb hg hown hK hI iX6 0 rfl rfl 0 (by decide) wF_RX6_15 rfl dX6_takeOut_19 ?_
    refine w_get hx hb hg hown hK hI iX3 2 rfl rfl 1 (by decide) wF_RX6_41 rfl dX6_takeOut_22 ?_
    refine lv_icmp_ge (tgt := 71) hx hb dX6_takeOut_25 (by decide) (fun hc => ?_) (fun hc => ?_)
    · replace hf := ite_t hc hf
      replace hf := Option.some.inj hf
      subst hf
      replace hM : v.1 = out := hM
      subst hM
      exact rt_v (u := ()) hx hb hr hlocks hI hAe trivial dX6_takeOut_71
    · replace hf := ite_f hc hf
      refine lv_iload_n hx hb dX6_takeOut_28 rfl (lv_at hl 2 rfl) ?_
      refine lv_iload hx hb dX6_takeOut_29 (lv_at hl 4 rfl) ?_
      obtain ⟨x4, hx4, hf⟩ := bd_e hf
      refine w_N (rest := []) hx hb hml hg hown hK (kX7_isIn l D cI cJ cZ l2 v.2 x4 hx4) ksX7_isIn (List.mem_of_getElem? (i := 8) rfl) ⟨by show 0 + 1 ≤ d + 2; omega, by show 8 + (2 + 11) + 0 ≤ 40 * (d + 2); omega⟩ ⟨rfl, rfl⟩ rfl rfl hl.1 (Nat.le_of_ble_eq_true rfl) dX6_takeOut_31 ⟨Nat.zero_le _, Nat.zero_le _⟩ ?_
      refine lv_if_eq (tgt := 65) hx hb dX6_takeOut_34 (by decide) (fun hc => ?_) (fun hc => ?_)
      · replace hf := ite_t hc hf
        obtain ⟨x5, ex5⟩ : ∃ y : Int32, y = (v.2 + (1 : Int32)) := ⟨_, rfl⟩
        replace hf := bnd_e hf x5 ex5
        refine lv_iinc (v := x5) (lv' := [(6, .int x5), (0, .ref t0), (1, .int l1), (2, .int l2), (4, .long l4)]) hx hb dX6_takeOut_65 hl (k := 4) rfl (by rw [ex5]; rfl) (by decide) rfl (fun ls hl => ?_)
        refine lv_goto (tgt := 16) hx hb dX6_takeOut_68 (by decide) ?_
        replace hf := Option.some.inj hf
        subst hf
        exact hM _ _ _ hI (lv_sub hl [1, 2, 3, 4, 0] rfl)
      · replace hf := ite_f hc hf
        refine lv_aload_n hx hb dX6_takeOut_37 rfl (lv_at hl 0 rfl) ?_
        refine lv_iload_n hx hb dX6_takeOut_38 rfl (lv_at hl 1 rfl) ?_
        refine lv_iconst (v := 1) hx hb dX6_takeOut_39 (by decide) ?_
        refine lv_iload hx hb dX6_takeOut_40 (lv_at hl 4 rfl) ?_
        refine lv_ishl hx hb dX6_takeOut_42 ?_
        refine lv_ixor hx hb dX6_takeOut_43 ?_
        refine lv_iload_n hx hb dX6_takeOut_44 rfl (lv_at hl 2 rfl) ?_
        refine lv_aload_n hx hb dX6_takeOut_45 rfl (lv_at hl 0 rfl) ?_
        refine w_get hx hb hg hown hK hI iX6 0 rfl rfl 0 (by decide) wF_RX6_15 rfl dX6_takeOut_46 ?_
        refine w_get hx hb hg hown hK hI iX3 2 rfl rfl 7 (by decide) wF_RX6_33 rfl dX6_takeOut_49 ?_
        refine lv_iload hx hb dX6_takeOut_52 (lv_at hl 4 rfl) ?_
        obtain ⟨hin, hf⟩ := rd_e hf
        refine w_iald hx hb hK hI 8 rfl hin dX6_takeOut_54 (fun x6 ex6 => ?_)
        replace hf := hf x6 ex6
        refine lv_iconst (v := -1) hx hb dX6_takeOut_55 (by decide) ?_
        refine lv_ixor hx hb dX6_takeOut_56 ?_
        refine lv_iand hx hb dX6_takeOut_57 ?_
        refine lv_iload hx hb dX6_takeOut_58 (lv_at hl 4 rfl) ?_
        refine lv_lload hx hb dX6_takeOut_60 (lv_at hl 3 rfl) ?_
        obtain ⟨o7, ho7, hf⟩ := bd_e hf
        refine w_Vv0 (wc := (wT cI cJ cZ t0 t1 n0 n1 n2 n3 n4 n5 n6 v.1 N_postCount N_roadCount N_first N_second N_number N_allowed N_at N_beside)) (wr := []) (rest := []) hx hb hml hg hown hK hA hI (hrec v.1 N_postCount N_roadCount N_first N_second N_number N_allowed N_at N_beside (l1 ^^^ ((1 : Int32) <<< (v.2 &&& (31 : Int32)))) (l2 &&& (x6 ^^^ (-1 : Int32))) v.2 l4 o7 ho7) kvX6_takeOut wL_RX6_37 ⟨by show d + 1 + 1 ≤ d + 2; omega, by show 8 + (7 + 11) + 40 * (d + 1) ≤ 40 * (d + 2); omega⟩ rfl rfl [0, 1, 2, 3, 4, 5, 6, 7, 8] [] rfl rfl rfl rfl (by decide) rfl rfl hl.1 (Nat.le_of_ble_eq_true rfl) dX6_takeOut_62 ⟨Nat.zero_le _, Nat.zero_le _⟩ ⟨rfl, rfl⟩ (fun  u H locs hp hI => ?_)
        replace hI : WI D A s.heap (wT cI cJ cZ t0 t1 n0 n1 n2 n3 n4 n5 n6 o7 N_postCount N_roadCount N_first N_second N_number N_allowed N_at N_beside) H locs := hI
        obtain ⟨x8, ex8⟩ : ∃ y : Int32, y = (v.2 + (1 : Int32)) := ⟨_, rfl⟩
        replace hf := bnd_e hf x8 ex8
        refine lv_iinc (v := x8) (lv' := [(6, .int x8), (0, .ref t0), (1, .int l1), (2, .int l2), (4, .long l4)]) hx hb dX6_takeOut_65 hl (k := 4) rfl (by rw [ex8]; rfl) (by decide) rfl (fun ls hl => ?_)
        refine lv_goto (tgt := 16) hx hb dX6_takeOut_68 (by decide) ?_
        replace hf := Option.some.inj hf
        subst hf
        exact hM _ _ _ hI (lv_sub hl [1, 2, 3, 4, 0] rfl)
  obtain ⟨x, hf, hM⟩ : ∃ x, BX6_takeOut rec T_ways_0 N_roadCount N_beside a1 a2 a3 a4 = some x ∧ x = out := ⟨out, hf, rfl⟩
  refine lv_aload_n hx hb dX6_takeOut_0 rfl (lv_at hl 0 rfl) ?_
  refine w_get hx hb hg hown hK hI iX6 0 rfl rfl 1 (by decide) wF_RX6_9 rfl dX6_takeOut_1 ?_
  refine lv_iload_n hx hb dX6_takeOut_4 rfl (lv_at hl 1 rfl) ?_
  refine lv_dup2_11 hx hb dX6_takeOut_5 rfl rfl ?_
  obtain ⟨hin, hf⟩ := rd_e hf
  refine w_lald hx hb hK hI 1 rfl hin dX6_takeOut_6 (fun x1 ex1 => ?_)
  replace hf := hf x1 ex1
  refine lv_lload hx hb dX6_takeOut_7 (lv_at hl 4 rfl) ?_
  refine lv_ladd hx hb dX6_takeOut_9 ?_
  obtain ⟨hin, hf⟩ := wrJ_e hf
  obtain ⟨g2, eg2⟩ : ∃ g : Nat → Int64, g = vp_updL T_ways_0 (a1).toNatClampNeg (x1 + a4) := ⟨_, rfl⟩
  replace hf := hf g2 eg2
  refine w_last (g := g2) (W1 := (wT cI cJ cZ t0 t1 n0 n1 n2 n3 n4 n5 n6 g2 N_postCount N_roadCount N_first N_second N_number N_allowed N_at N_beside)) hx hb hK hI 1 rfl hin eg2 dX6_takeOut_10 rfl (fun H locs hI => ?_)
  refine lv_iload_n hx hb dX6_takeOut_11 rfl (lv_at hl 3 rfl) ?_
  refine lv_iconst (v := 1) hx hb dX6_takeOut_12 (by decide) ?_
  refine lv_iadd hx hb dX6_takeOut_13 ?_
  refine lv_topi (fun x3 ex3 => ?_)
  replace hf := bnd_e hf x3 ex3
  refine lv_istore (lv' := [(6, .int x3), (0, .ref t0), (1, .int a1), (2, .int a2), (3, .int a3), (4, .long a4)]) hx hb dX6_takeOut_14 hl (by decide) rfl (fun ls hl => ?_)
  exact L16 a1 a2 a4 (g2, x3) _ hf hM _ _ _ hI (lv_sub hl [1, 2, 3, 5, 0] rfl)
theorem kX6_takeOut (d : Nat) (l : Launch) (D : va_G) (cI cJ cZ : ClassId) (t0 t1 n0 n1 n2 n3 n4 n5 n6 : Nat) : ∀ (T_ways_0 : Nat → Int64) (N_postCount : Int32) (N_roadCount : Int32) (N_first : Nat → Int32) (N_second : Nat → Int32) (N_number : Nat → Int32) (N_allowed : Nat → Int32) (N_at : Nat → Int32) (N_beside : Nat → Int32) (a1 : Int32) (a2 : Int32) (a3 : Int32) (a4 : Int64) (out : (Nat → Int64)), FX6_takeOut d T_ways_0 N_roadCount N_beside a1 a2 a3 a4 = some out → MV l yX6_takeOut (Cond.code yX6_takeOut cX6_takeOut 7 none :: GW) { frames := d + 1, cells := 0, slots := 0, locals := 40 * (d + 1) } D cI cJ cZ [.ref t0, .int a1, .int a2, .int a3, .long a4] (wT cI cJ cZ t0 t1 n0 n1 n2 n3 n4 n5 n6 T_ways_0 N_postCount N_roadCount N_first N_second N_number N_allowed N_at N_beside) (fun (_ : Unit) => True) (fun _ => (wT cI cJ cZ t0 t1 n0 n1 n2 n3 n4 n5 n6 out N_postCount N_roadCount N_first N_second N_number N_allowed N_at N_beside)) := by
  induction d with
  | zero => intro T_ways_0 N_postCount N_roadCount N_first N_second N_number N_allowed N_at N_beside a1 a2 a3 a4 out hf; cases hf
  | succ d ih => intro T_ways_0 N_postCount N_roadCount N_first N_second N_number N_allowed N_at N_beside a1 a2 a3 a4 out hf; exact bkX6_takeOut d (FX6_takeOut d) l D cI cJ cZ t0 t1 n0 n1 n2 n3 n4 n5 n6 ih T_ways_0 N_postCount N_roadCount N_first N_second N_number N_allowed N_at N_beside a1 a2 a3 a4 out hf
noncomputable def X6_giveNumber_L2 (N_roadCount : Int32) (N_beside : Nat → Int32) (l1 : Int32) (l2 : Int32) (v : (Nat → Int64) × Int32) : Option (((Nat → Int64) × Int32) ⊕ ((Nat → Int64))) :=
  if l1 < v.2 then (some (.inr v.1)) else (rd v.1 4096 v.2 (fun x1 => if (lg_cmp x1 (0 : Int64)) = (0 : Int32) then (bnd (v.2 + (1 : Int32)) (fun x2 => some (.inl (v.1, x2)))) else (rd v.1 4096 v.2 (fun x3 => bnd (x3 * (l2).toInt64) (fun x4 => wrJ v.1 4096 v.2 (0 : Int64) (fun g5 => (FX7_placeOf (v.2 &&& (-v.2))).bind (fun x6 => rd N_beside 24 x6 (fun x7 => (FX6_takeOut 14 g5 N_roadCount N_beside (v.2 ^^^ ((1 : Int32) <<< (x6 &&& (31 : Int32)))) (v.2 &&& (x7 ^^^ (-1 : Int32))) x6 x4).bind (fun o8 => bnd (v.2 + (1 : Int32)) (fun x9 => some (.inl (o8, x9))))))))))))
noncomputable def FX6_giveNumber (T_ways_0 : Nat → Int64) (N_roadCount : Int32) (N_beside : Nat → Int32) (a1 : Int32) (a2 : Int32) : Option ((Nat → Int64)) :=
  loopO (X6_giveNumber_L2 N_roadCount N_beside a1 a2) (T_ways_0, (1 : Int32))
abbrev GX6_giveNumber (p : Program) (l : Launch) (e : Env) (s : State) (m : MethodId) (below : List Frame) (meth : Method) (c : Code) (D : va_G) (cI cJ cZ : ClassId) (t0 t1 n0 n1 n2 n3 n4 n5 n6 : Nat) (T_ways_0 : Nat → Int64) (N_postCount : Int32) (N_roadCount : Int32) (N_first : Nat → Int32) (N_second : Nat → Int32) (N_number : Nat → Int32) (N_allowed : Nat → Int32) (N_at : Nat → Int32) (N_beside : Nat → Int32) (a1 : Int32) (a2 : Int32) (out : (Nat → Int64)) (H : Heap) (locs : List Loc) (g : JFrame) : Prop := W p l e (headSpec (Cond.code yX6_giveNumber cX6_giveNumber 7 none :: GW) { frames := 16, cells := 0, slots := 0, locals := 640 }).room s m ([.ref t0, .int a1, .int a2] : List Value).toArray below meth c H locs 0 0 (MQ below (va_Qv (fun (_ : Unit) => True) (BW D (wT cI cJ cZ t0 t1 n0 n1 n2 n3 n4 n5 n6 T_ways_0 N_postCount N_roadCount N_first N_second N_number N_allowed N_at N_beside) s.heap.size (fun _ => (wT cI cJ cZ t0 t1 n0 n1 n2 n3 n4 n5 n6 out N_postCount N_roadCount N_first N_second N_number N_allowed N_at N_beside))) (va_A (wT cI cJ cZ t0 t1 n0 n1 n2 n3 n4 n5 n6 T_ways_0 N_postCount N_roadCount N_first N_second N_number N_allowed N_at N_beside) s.heap.size)) ([.ref t0, .int a1, .int a2] : List Value).toArray s 0 0 (va_A (wT cI cJ cZ t0 t1 n0 n1 n2 n3 n4 n5 n6 T_ways_0 N_postCount N_roadCount N_first N_second N_number N_allowed N_at N_beside) s.heap.size)) g
theorem kvX6_giveNumber : CalV RX6 yX6_giveNumber cX6_giveNumber 7 none 2 := ⟨wC_yX6_giveNumber, wM_yX6_giveNumber, wS_yX6_giveNumber, wI_RX6, by decide +kernel⟩
set_option maxHeartbeats 4000000 in
set_option maxRecDepth 100000 in
theorem kX6_giveNumber (l : Launch) (D : va_G) (cI cJ cZ : ClassId) (t0 t1 n0 n1 n2 n3 n4 n5 n6 : Nat) (T_ways_0 : Nat → Int64) (N_postCount : Int32) (N_roadCount : Int32) (N_first : Nat → Int32) (N_second : Nat → Int32) (N_number : Nat → Int32) (N_allowed : Nat → Int32) (N_at : Nat → Int32) (N_beside : Nat → Int32) (a1 : Int32) (a2 : Int32) (out : (Nat → Int64)) (hf : FX6_giveNumber T_ways_0 N_roadCount N_beside a1 a2 = some out) : MV l yX6_giveNumber (Cond.code yX6_giveNumber cX6_giveNumber 7 none :: GW) { frames := 16, cells := 0, slots := 0, locals := 640 } D cI cJ cZ [.ref t0, .int a1, .int a2] (wT cI cJ cZ t0 t1 n0 n1 n2 n3 n4 n5 n6 T_ways_0 N_postCount N_roadCount N_first N_second N_number N_allowed N_at N_beside) (fun (_ : Unit) => True) (fun _ => (wT cI cJ cZ t0 t1 n0 n1 n2 n3 n4 n5 n6 out N_postCount N_roadCount N_first N_second N_number N_allowed N_at N_beside)) := by
  intro sz
  refine Met.ofW (cc := cX6_giveNumber) (maxL := 7) (ret := none) (by decide +kernel) rfl ?_
  intro p e s m args below meth c s₁ B hml hv
  obtain ⟨rfl, hsz, hP, hK, hD0⟩ := hv
  have hx := B.exec
  have hb := B.bytes
  have hr := B.returns
  have hlocks := B.notSynchronized
  have hg : ∀ w ∈ GW, w.before _ s = true := fun w h => atoms_spec (ws := Cond.code yX6_giveNumber cX6_giveNumber 7 none :: GW) B.pre w (List.mem_cons_of_mem _ h)
  have hown : s.vm.findClass RX6 = some m.cls := findClass_of_methodNamed B.named
  subst hsz
  obtain ⟨A, hAe⟩ : ∃ A, A = va_A (wT cI cJ cZ t0 t1 n0 n1 n2 n3 n4 n5 n6 T_ways_0 N_postCount N_roadCount N_first N_second N_number N_allowed N_at N_beside) s.heap.size := ⟨_, rfl⟩
  have hA : ∀ q : Nat, s.heap.size ≤ q → A q := fun q h => by rw [hAe]; exact Or.inr h
  have hI : WI D A s.heap (wT cI cJ cZ t0 t1 n0 n1 n2 n3 n4 n5 n6 T_ways_0 N_postCount N_roadCount N_first N_second N_number N_allowed N_at N_beside) s.heap [] := ⟨hP, by rw [hAe]; exact hD0.self, va_S.rf⟩
  have hl := lv_entry [.ref t0, .int a1, .int a2] (n := 7) (Nat.le_of_ble_eq_true rfl)
  rw [lg_entry_eq]
  generalize (lg_sl [.ref t0, .int a1, .int a2] ++ List.replicate (7 - (lg_sl [.ref t0, .int a1, .int a2]).length) Slot.unset).toArray = ls at hl ⊢
  replace hl : lv_has ls 7 [(0, .ref t0), (1, .int a1), (2, .int a2)] := hl
  have L2 : ∀ (l1 : Int32) (l2 : Int32), ∀ (v : (Nat → Int64) × Int32) (x : (Nat → Int64)), loopO (X6_giveNumber_L2 N_roadCount N_beside l1 l2) v = some x → (fun z : (Nat → Int64) => z = out) x → (fun (v : (Nat → Int64) × Int32) => ∀ (H : Heap) (locs : List Loc) (ls : Array Slot), WI D A s.heap (wT cI cJ cZ t0 t1 n0 n1 n2 n3 n4 n5 n6 v.1 N_postCount N_roadCount N_first N_second N_number N_allowed N_at N_beside) H locs → lv_has ls 7 [(0, .ref t0), (1, .int l1), (2, .int l2), (3, .int v.2)] → GX6_giveNumber p l e s m below meth c D cI cJ cZ t0 t1 n0 n1 n2 n3 n4 n5 n6 T_ways_0 N_postCount N_roadCount N_first N_second N_number N_allowed N_at N_beside a1 a2 out H locs (F0 m 2 ls [])) v := by
    intro l1 l2
    refine loopO_ind (fun (v : (Nat → Int64) × Int32) => ∀ (H : Heap) (locs : List Loc) (ls : Array Slot), WI D A s.heap (wT cI cJ cZ t0 t1 n0 n1 n2 n3 n4 n5 n6 v.1 N_postCount N_roadCount N_first N_second N_number N_allowed N_at N_beside) H locs → lv_has ls 7 [(0, .ref t0), (1, .int l1), (2, .int l2), (3, .int v.2)] → GX6_giveNumber p l e s m below meth c D cI cJ cZ t0 t1 n0 n1 n2 n3 n4 n5 n6 T_ways_0 N_postCount N_roadCount N_first N_second N_number N_allowed N_at N_beside a1 a2 out H locs (F0 m 2 ls [])) (fun z : (Nat → Int64) => z = out) ?_
    intro v x hf hM H locs ls hI hl
    refine lv_iload_n hx hb dX6_giveNumber_2 rfl (lv_at hl 3 rfl) ?_
    refine lv_iload_n hx hb dX6_giveNumber_3 rfl (lv_at hl 1 rfl) ?_
    refine lv_icmp_gt (tgt := 79) hx hb dX6_giveNumber_4 (by decide) (fun hc => ?_) (fun hc => ?_)
    · replace hf := ite_t hc hf
      replace hf := Option.some.inj hf
      subst hf
      replace hM : v.1 = out := hM
      subst hM
      exact rt_v (u := ()) hx hb hr hlocks hI hAe trivial dX6_giveNumber_79
    · replace hf := ite_f hc hf
      refine lv_aload_n hx hb dX6_giveNumber_7 rfl (lv_at hl 0 rfl) ?_
      refine w_get hx hb hg hown hK hI iX6 0 rfl rfl 1 (by decide) wF_RX6_9 rfl dX6_giveNumber_8 ?_
      refine lv_iload_n hx hb dX6_giveNumber_11 rfl (lv_at hl 3 rfl) ?_
      obtain ⟨hin, hf⟩ := rd_e hf
      refine w_lald hx hb hK hI 1 rfl hin dX6_giveNumber_12 (fun x1 ex1 => ?_)
      replace hf := hf x1 ex1
      refine lv_lconst (v := 0) hx hb dX6_giveNumber_13 (by decide) ?_
      refine W.lcmp hx hb dX6_giveNumber_14 ?_
      refine lv_if_eq (tgt := 73) hx hb dX6_giveNumber_15 (by decide) (fun hc => ?_) (fun hc => ?_)
      · replace hf := ite_t hc hf
        obtain ⟨x2, ex2⟩ : ∃ y : Int32, y = (v.2 + (1 : Int32)) := ⟨_, rfl⟩
        replace hf := bnd_e hf x2 ex2
        refine lv_iinc (v := x2) (lv' := [(3, .int x2), (0, .ref t0), (1, .int l1), (2, .int l2)]) hx hb dX6_giveNumber_73 hl (k := 3) rfl (by rw [ex2]; rfl) (by decide) rfl (fun ls hl => ?_)
        refine lv_goto (tgt := 2) hx hb dX6_giveNumber_76 (by decide) ?_
        replace hf := Option.some.inj hf
        subst hf
        exact hM _ _ _ hI (lv_sub hl [1, 2, 3, 0] rfl)
      · replace hf := ite_f hc hf
        refine lv_aload_n hx hb dX6_giveNumber_18 rfl (lv_at hl 0 rfl) ?_
        refine w_get hx hb hg hown hK hI iX6 0 rfl rfl 1 (by decide) wF_RX6_9 rfl dX6_giveNumber_19 ?_
        refine lv_iload_n hx hb dX6_giveNumber_22 rfl (lv_at hl 3 rfl) ?_
        obtain ⟨hin, hf⟩ := rd_e hf
        refine w_lald hx hb hK hI 1 rfl hin dX6_giveNumber_23 (fun x3 ex3 => ?_)
        replace hf := hf x3 ex3
        refine lv_iload_n hx hb dX6_giveNumber_24 rfl (lv_at hl 2 rfl) ?_
        refine lv_i2l hx hb dX6_giveNumber_25 rfl ?_
        refine lv_lmul hx hb dX6_giveNumber_26 ?_
        refine lv_topl (fun x4 ex4 => ?_)
        replace hf := bnd_e hf x4 ex4
        refine lv_lstore (lv' := [(4, .long x4), (0, .ref t0), (1, .int l1), (2, .int l2), (3, .int v.2)]) hx hb dX6_giveNumber_27 hl (by decide) rfl (fun ls hl => ?_)
        refine lv_aload_n hx hb dX6_giveNumber_29 rfl (lv_at hl 1 rfl) ?_
        refine w_get hx hb hg hown hK hI iX6 0 rfl rfl 1 (by decide) wF_RX6_9 rfl dX6_giveNumber_30 ?_
        refine lv_iload_n hx hb dX6_giveNumber_33 rfl (lv_at hl 4 rfl) ?_
        refine lv_lconst (v := 0) hx hb dX6_giveNumber_34 (by decide) ?_
        obtain ⟨hin, hf⟩ := wrJ_e hf
        obtain ⟨g5, eg5⟩ : ∃ g : Nat → Int64, g = vp_updL v.1 (v.2).toNatClampNeg (0 : Int64) := ⟨_, rfl⟩
        replace hf := hf g5 eg5
        refine w_last (g := g5) (W1 := (wT cI cJ cZ t0 t1 n0 n1 n2 n3 n4 n5 n6 g5 N_postCount N_roadCount N_first N_second N_number N_allowed N_at N_beside)) hx hb hK hI 1 rfl hin eg5 dX6_giveNumber_35 rfl (fun H locs hI => ?_)
        refine lv_iload_n hx hb dX6_giveNumber_36 rfl (lv_at hl 4 rfl) ?_
        refine lv_iload_n hx hb dX6_giveNumber_37 rfl (lv_at hl 4 rfl) ?_
        refine lv_ineg hx hb dX6_giveNumber_38 ?_
        refine lv_iand hx hb dX6_giveNumber_39 ?_
        obtain ⟨x6, hx6, hf⟩ := bd_e hf
        refine w_N (rest := []) hx hb hml hg hown hK (kX7_placeOf l D cI cJ cZ (v.2 &&& (-v.2)) x6 hx6) ksX7_placeOf (List.mem_of_getElem? (i := 7) rfl) ⟨Nat.le_of_ble_eq_true rfl, Nat.le_of_ble_eq_true rfl⟩ ⟨rfl, rfl⟩ rfl rfl hl.1 (Nat.le_of_ble_eq_true rfl) dX6_giveNumber_40 ⟨Nat.zero_le _, Nat.zero_le _⟩ ?_
        refine lv_istore (lv' := [(6, .int x6), (4, .long x4), (0, .ref t0), (1, .int l1), (2, .int l2), (3, .int v.2)]) hx hb dX6_giveNumber_43 hl (by decide) rfl (fun ls hl => ?_)
        refine lv_aload_n hx hb dX6_giveNumber_45 rfl (lv_at hl 2 rfl) ?_
        refine lv_iload_n hx hb dX6_giveNumber_46 rfl (lv_at hl 5 rfl) ?_
        refine lv_iconst (v := 1) hx hb dX6_giveNumber_47 (by decide) ?_
        refine lv_iload hx hb dX6_giveNumber_48 (lv_at hl 0 rfl) ?_
        refine lv_ishl hx hb dX6_giveNumber_50 ?_
        refine lv_ixor hx hb dX6_giveNumber_51 ?_
        refine lv_iload_n hx hb dX6_giveNumber_52 rfl (lv_at hl 5 rfl) ?_
        refine lv_aload_n hx hb dX6_giveNumber_53 rfl (lv_at hl 2 rfl) ?_
        refine w_get hx hb hg hown hK hI iX6 0 rfl rfl 0 (by decide) wF_RX6_15 rfl dX6_giveNumber_54 ?_
        refine w_get hx hb hg hown hK hI iX3 2 rfl rfl 7 (by decide) wF_RX6_33 rfl dX6_giveNumber_57 ?_
        refine lv_iload hx hb dX6_giveNumber_60 (lv_at hl 0 rfl) ?_
        obtain ⟨hin, hf⟩ := rd_e hf
        refine w_iald hx hb hK hI 8 rfl hin dX6_giveNumber_62 (fun x7 ex7 => ?_)
        replace hf := hf x7 ex7
        refine lv_iconst (v := -1) hx hb dX6_giveNumber_63 (by decide) ?_
        refine lv_ixor hx hb dX6_giveNumber_64 ?_
        refine lv_iand hx hb dX6_giveNumber_65 ?_
        refine lv_iload hx hb dX6_giveNumber_66 (lv_at hl 0 rfl) ?_
        refine lv_lload hx hb dX6_giveNumber_68 (lv_at hl 1 rfl) ?_
        obtain ⟨o8, ho8, hf⟩ := bd_e hf
        refine w_Vv0 (wc := (wT cI cJ cZ t0 t1 n0 n1 n2 n3 n4 n5 n6 g5 N_postCount N_roadCount N_first N_second N_number N_allowed N_at N_beside)) (wr := []) (rest := []) hx hb hml hg hown hK hA hI (kX6_takeOut 14 l D cI cJ cZ t0 t1 n0 n1 n2 n3 n4 n5 n6 g5 N_postCount N_roadCount N_first N_second N_number N_allowed N_at N_beside (v.2 ^^^ ((1 : Int32) <<< (x6 &&& (31 : Int32)))) (v.2 &&& (x7 ^^^ (-1 : Int32))) x6 x4 o8 ho8) kvX6_takeOut wL_RX6_37 ⟨Nat.le_of_ble_eq_true rfl, Nat.le_of_ble_eq_true rfl⟩ rfl rfl [0, 1, 2, 3, 4, 5, 6, 7, 8] [] rfl rfl rfl rfl (by decide) rfl rfl hl.1 (Nat.le_of_ble_eq_true rfl) dX6_giveNumber_70 ⟨Nat.zero_le _, Nat.zero_le _⟩ ⟨rfl, rfl⟩ (fun  u H locs hp hI => ?_)
        replace hI : WI D A s.heap (wT cI cJ cZ t0 t1 n0 n1 n2 n3 n4 n5 n6 o8 N_postCount N_roadCount N_first N_second N_number N_allowed N_at N_beside) H locs := hI
        obtain ⟨x9, ex9⟩ : ∃ y : Int32, y = (v.2 + (1 : Int32)) := ⟨_, rfl⟩
        replace hf := bnd_e hf x9 ex9
        refine lv_iinc (v := x9) (lv' := [(3, .int x9), (6, .int x6), (4, .long x4), (0, .ref t0), (1, .int l1), (2, .int l2)]) hx hb dX6_giveNumber_73 hl (k := 5) rfl (by rw [ex9]; rfl) (by decide) rfl (fun ls hl => ?_)
        refine lv_goto (tgt := 2) hx hb dX6_giveNumber_76 (by decide) ?_
        replace hf := Option.some.inj hf
        subst hf
        exact hM _ _ _ hI (lv_sub hl [3, 4, 5, 0] rfl)
  obtain ⟨x, hf, hM⟩ : ∃ x, FX6_giveNumber T_ways_0 N_roadCount N_beside a1 a2 = some x ∧ x = out := ⟨out, hf, rfl⟩
  refine lv_iconst (v := 1) hx hb dX6_giveNumber_0 (by decide) ?_
  refine lv_istore_n (lv' := [(3, .int (1 : Int32)), (0, .ref t0), (1, .int a1), (2, .int a2)]) hx hb dX6_giveNumber_1 rfl hl (by decide) rfl (fun ls hl => ?_)
  exact L2 a1 a2 (T_ways_0, (1 : Int32)) _ hf hM _ _ _ hI (lv_sub hl [1, 2, 3, 0] rfl)
noncomputable def X6_colourings_L37 (N_roadCount : Int32) (N_beside : Nat → Int32) (l1 : Int32) (l2 : Int32) (v : (Nat → Int64) × Int32) : Option (((Nat → Int64) × Int32) ⊕ (Int64 × (Nat → Int64))) :=
  if l1 ≤ v.2 then (rd v.1 4096 (0 : Int32) (fun x3 => some (.inr (x3, v.1)))) else ((FX6_giveNumber v.1 N_roadCount N_beside l2 (l1 - v.2)).bind (fun o4 => bnd (v.2 + (1 : Int32)) (fun x5 => some (.inl (o4, x5)))))
noncomputable def X6_colourings_J28 (T_ways : Nat → Int64) (N_roadCount : Int32) (N_beside : Nat → Int32) (l1 : Int32) (l2 : Int32) : Option (Int64 × (Nat → Int64)) :=
  wrJ T_ways 4096 l2 (1 : Int64) (fun g2 => loopO (X6_colourings_L37 N_roadCount N_beside l1 l2) (g2, (0 : Int32)))
noncomputable def X6_colourings_L10 (N_roadCount : Int32) (N_beside : Nat → Int32) (l1 : Int32) (l2 : Int32) (v : (Nat → Int64) × Int32) : Option (((Nat → Int64) × Int32) ⊕ (Int64 × (Nat → Int64))) :=
  if l2 < v.2 then ((X6_colourings_J28 v.1 N_roadCount N_beside l1 l2).map (fun z => (.inr z))) else (wrJ v.1 4096 v.2 (0 : Int64) (fun g6 => bnd (v.2 + (1 : Int32)) (fun x7 => some (.inl (g6, x7)))))
noncomputable def FX6_colourings (T_ways_0 : Nat → Int64) (N_roadCount : Int32) (N_beside : Nat → Int32) (a1 : Int32) : Option (Int64 × (Nat → Int64)) :=
  (FX3_allRoads N_roadCount).bind (fun o1 => loopO (X6_colourings_L10 N_roadCount N_beside a1 o1) (T_ways_0, (0 : Int32)))
abbrev GX6_colourings (p : Program) (l : Launch) (e : Env) (s : State) (m : MethodId) (below : List Frame) (meth : Method) (c : Code) (D : va_G) (cI cJ cZ : ClassId) (t0 t1 n0 n1 n2 n3 n4 n5 n6 : Nat) (T_ways_0 : Nat → Int64) (N_postCount : Int32) (N_roadCount : Int32) (N_first : Nat → Int32) (N_second : Nat → Int32) (N_number : Nat → Int32) (N_allowed : Nat → Int32) (N_at : Nat → Int32) (N_beside : Nat → Int32) (a1 : Int32) (out : Int64 × (Nat → Int64)) (H : Heap) (locs : List Loc) (g : JFrame) : Prop := W p l e (headSpec (Cond.code yX6_colourings cX6_colourings 4 (some .long) :: GW) { frames := 17, cells := 0, slots := 0, locals := 666 }).room s m ([.ref t0, .int a1] : List Value).toArray below meth c H locs 0 0 (MQ below (va_Ql (fun r (_ : Unit) => r = out.1) (BW D (wT cI cJ cZ t0 t1 n0 n1 n2 n3 n4 n5 n6 T_ways_0 N_postCount N_roadCount N_first N_second N_number N_allowed N_at N_beside) s.heap.size (fun _ => (wT cI cJ cZ t0 t1 n0 n1 n2 n3 n4 n5 n6 out.2 N_postCount N_roadCount N_first N_second N_number N_allowed N_at N_beside))) (va_A (wT cI cJ cZ t0 t1 n0 n1 n2 n3 n4 n5 n6 T_ways_0 N_postCount N_roadCount N_first N_second N_number N_allowed N_at N_beside) s.heap.size)) ([.ref t0, .int a1] : List Value).toArray s 0 0 (va_A (wT cI cJ cZ t0 t1 n0 n1 n2 n3 n4 n5 n6 T_ways_0 N_postCount N_roadCount N_first N_second N_number N_allowed N_at N_beside) s.heap.size)) g
theorem kvX6_colourings : CalV RX6 yX6_colourings cX6_colourings 4 (some .long) 1 := ⟨wC_yX6_colourings, wM_yX6_colourings, wS_yX6_colourings, wI_RX6, by decide +kernel⟩
set_option maxHeartbeats 4000000 in
set_option maxRecDepth 100000 in
theorem kX6_colourings (l : Launch) (D : va_G) (cI cJ cZ : ClassId) (t0 t1 n0 n1 n2 n3 n4 n5 n6 : Nat) (T_ways_0 : Nat → Int64) (N_postCount : Int32) (N_roadCount : Int32) (N_first : Nat → Int32) (N_second : Nat → Int32) (N_number : Nat → Int32) (N_allowed : Nat → Int32) (N_at : Nat → Int32) (N_beside : Nat → Int32) (a1 : Int32) (out : Int64 × (Nat → Int64)) (hf : FX6_colourings T_ways_0 N_roadCount N_beside a1 = some out) : ML l yX6_colourings (Cond.code yX6_colourings cX6_colourings 4 (some .long) :: GW) { frames := 17, cells := 0, slots := 0, locals := 666 } D cI cJ cZ [.ref t0, .int a1] (wT cI cJ cZ t0 t1 n0 n1 n2 n3 n4 n5 n6 T_ways_0 N_postCount N_roadCount N_first N_second N_number N_allowed N_at N_beside) (fun r (_ : Unit) => r = out.1) (fun _ => (wT cI cJ cZ t0 t1 n0 n1 n2 n3 n4 n5 n6 out.2 N_postCount N_roadCount N_first N_second N_number N_allowed N_at N_beside)) := by
  intro sz
  refine Met.ofW (cc := cX6_colourings) (maxL := 4) (ret := (some .long)) (by decide +kernel) rfl ?_
  intro p e s m args below meth c s₁ B hml hv
  obtain ⟨rfl, hsz, hP, hK, hD0⟩ := hv
  have hx := B.exec
  have hb := B.bytes
  have hr := B.returns
  have hlocks := B.notSynchronized
  have hg : ∀ w ∈ GW, w.before _ s = true := fun w h => atoms_spec (ws := Cond.code yX6_colourings cX6_colourings 4 (some .long) :: GW) B.pre w (List.mem_cons_of_mem _ h)
  have hown : s.vm.findClass RX6 = some m.cls := findClass_of_methodNamed B.named
  subst hsz
  obtain ⟨A, hAe⟩ : ∃ A, A = va_A (wT cI cJ cZ t0 t1 n0 n1 n2 n3 n4 n5 n6 T_ways_0 N_postCount N_roadCount N_first N_second N_number N_allowed N_at N_beside) s.heap.size := ⟨_, rfl⟩
  have hA : ∀ q : Nat, s.heap.size ≤ q → A q := fun q h => by rw [hAe]; exact Or.inr h
  have hI : WI D A s.heap (wT cI cJ cZ t0 t1 n0 n1 n2 n3 n4 n5 n6 T_ways_0 N_postCount N_roadCount N_first N_second N_number N_allowed N_at N_beside) s.heap [] := ⟨hP, by rw [hAe]; exact hD0.self, va_S.rf⟩
  have hl := lv_entry [.ref t0, .int a1] (n := 4) (Nat.le_of_ble_eq_true rfl)
  rw [lg_entry_eq]
  generalize (lg_sl [.ref t0, .int a1] ++ List.replicate (4 - (lg_sl [.ref t0, .int a1]).length) Slot.unset).toArray = ls at hl ⊢
  replace hl : lv_has ls 4 [(0, .ref t0), (1, .int a1)] := hl
  have L37 : ∀ (l1 : Int32) (l2 : Int32), ∀ (v : (Nat → Int64) × Int32) (x : Int64 × (Nat → Int64)), loopO (X6_colourings_L37 N_roadCount N_beside l1 l2) v = some x → (fun z : Int64 × (Nat → Int64) => z = out) x → (fun (v : (Nat → Int64) × Int32) => ∀ (H : Heap) (locs : List Loc) (ls : Array Slot), WI D A s.heap (wT cI cJ cZ t0 t1 n0 n1 n2 n3 n4 n5 n6 v.1 N_postCount N_roadCount N_first N_second N_number N_allowed N_at N_beside) H locs → lv_has ls 4 [(0, .ref t0), (1, .int l1), (2, .int l2), (3, .int v.2)] → GX6_colourings p l e s m below meth c D cI cJ cZ t0 t1 n0 n1 n2 n3 n4 n5 n6 T_ways_0 N_postCount N_roadCount N_first N_second N_number N_allowed N_at N_beside a1 out H locs (F0 m 37 ls [])) v := by
    intro l1 l2
    refine loopO_ind (fun (v : (Nat → Int64) × Int32) => ∀ (H : Heap) (locs : List Loc) (ls : Array Slot), WI D A s.heap (wT cI cJ cZ t0 t1 n0 n1 n2 n3 n4 n5 n6 v.1 N_postCount N_roadCount N_first N_second N_number N_allowed N_at N_beside) H locs → lv_has ls 4 [(0, .ref t0), (1, .int l1), (2, .int l2), (3, .int v.2)] → GX6_colourings p l e s m below meth c D cI cJ cZ t0 t1 n0 n1 n2 n3 n4 n5 n6 T_ways_0 N_postCount N_roadCount N_first N_second N_number N_allowed N_at N_beside a1 out H locs (F0 m 37 ls [])) (fun z : Int64 × (Nat → Int64) => z = out) ?_
    intro v x hf hM H locs ls hI hl
    refine lv_iload_n hx hb dX6_colourings_37 rfl (lv_at hl 3 rfl) ?_
    refine lv_iload_n hx hb dX6_colourings_38 rfl (lv_at hl 1 rfl) ?_
    refine lv_icmp_ge (tgt := 56) hx hb dX6_colourings_39 (by decide) (fun hc => ?_) (fun hc => ?_)
    · replace hf := ite_t hc hf
      refine lv_aload_n hx hb dX6_colourings_56 rfl (lv_at hl 0 rfl) ?_
      refine w_get hx hb hg hown hK hI iX6 0 rfl rfl 1 (by decide) wF_RX6_9 rfl dX6_colourings_57 ?_
      refine lv_iconst (v := 0) hx hb dX6_colourings_60 (by decide) ?_
      obtain ⟨hin, hf⟩ := rd_e hf
      refine w_lald hx hb hK hI 1 rfl hin dX6_colourings_61 (fun x3 ex3 => ?_)
      replace hf := hf x3 ex3
      replace hf := Option.some.inj hf
      subst hf
      replace hM : (x3, v.1) = out := hM
      subst hM
      exact rt_l (u := ()) hx hb hr hlocks hI hAe rfl dX6_colourings_62
    · replace hf := ite_f hc hf
      refine lv_aload_n hx hb dX6_colourings_42 rfl (lv_at hl 0 rfl) ?_
      refine lv_iload_n hx hb dX6_colourings_43 rfl (lv_at hl 2 rfl) ?_
      refine lv_iload_n hx hb dX6_colourings_44 rfl (lv_at hl 1 rfl) ?_
      refine lv_iload_n hx hb dX6_colourings_45 rfl (lv_at hl 3 rfl) ?_
      refine lv_isub hx hb dX6_colourings_46 ?_
      obtain ⟨o4, ho4, hf⟩ := bd_e hf
      refine w_Vv0 (wc := (wT cI cJ cZ t0 t1 n0 n1 n2 n3 n4 n5 n6 v.1 N_postCount N_roadCount N_first N_second N_number N_allowed N_at N_beside)) (wr := []) (rest := []) hx hb hml hg hown hK hA hI (kX6_giveNumber l D cI cJ cZ t0 t1 n0 n1 n2 n3 n4 n5 n6 v.1 N_postCount N_roadCount N_first N_second N_number N_allowed N_at N_beside l2 (l1 - v.2) o4 ho4) kvX6_giveNumber wL_RX6_25 ⟨Nat.le_of_ble_eq_true rfl, Nat.le_of_ble_eq_true rfl⟩ rfl rfl [0, 1, 2, 3, 4, 5, 6, 7, 8] [] rfl rfl rfl rfl (by decide) rfl rfl hl.1 (Nat.le_of_ble_eq_true rfl) dX6_colourings_47 ⟨Nat.zero_le _, Nat.zero_le _⟩ ⟨rfl, rfl⟩ (fun  u H locs hp hI => ?_)
      replace hI : WI D A s.heap (wT cI cJ cZ t0 t1 n0 n1 n2 n3 n4 n5 n6 o4 N_postCount N_roadCount N_first N_second N_number N_allowed N_at N_beside) H locs := hI
      obtain ⟨x5, ex5⟩ : ∃ y : Int32, y = (v.2 + (1 : Int32)) := ⟨_, rfl⟩
      replace hf := bnd_e hf x5 ex5
      refine lv_iinc (v := x5) (lv' := [(3, .int x5), (0, .ref t0), (1, .int l1), (2, .int l2)]) hx hb dX6_colourings_50 hl (k := 3) rfl (by rw [ex5]; rfl) (by decide) rfl (fun ls hl => ?_)
      refine lv_goto (tgt := 37) hx hb dX6_colourings_53 (by decide) ?_
      replace hf := Option.some.inj hf
      subst hf
      exact hM _ _ _ hI (lv_sub hl [1, 2, 3, 0] rfl)
  have J28 : ∀ (T_ways : Nat → Int64) (l1 : Int32) (l2 : Int32) (x : Int64 × (Nat → Int64)), X6_colourings_J28 T_ways N_roadCount N_beside l1 l2 = some x → (fun z : Int64 × (Nat → Int64) => z = out) x → ∀ (H : Heap) (locs : List Loc) (ls : Array Slot), WI D A s.heap (wT cI cJ cZ t0 t1 n0 n1 n2 n3 n4 n5 n6 T_ways N_postCount N_roadCount N_first N_second N_number N_allowed N_at N_beside) H locs → lv_has ls 4 [(0, .ref t0), (1, .int l1), (2, .int l2)] → GX6_colourings p l e s m below meth c D cI cJ cZ t0 t1 n0 n1 n2 n3 n4 n5 n6 T_ways_0 N_postCount N_roadCount N_first N_second N_number N_allowed N_at N_beside a1 out H locs (F0 m 28 ls []) := by
    intro T_ways l1 l2 x hf hM H locs ls hI hl
    refine lv_aload_n hx hb dX6_colourings_28 rfl (lv_at hl 0 rfl) ?_
    refine w_get hx hb hg hown hK hI iX6 0 rfl rfl 1 (by decide) wF_RX6_9 rfl dX6_colourings_29 ?_
    refine lv_iload_n hx hb dX6_colourings_32 rfl (lv_at hl 2 rfl) ?_
    refine lv_lconst (v := 1) hx hb dX6_colourings_33 (by decide) ?_
    obtain ⟨hin, hf⟩ := wrJ_e hf
    obtain ⟨g2, eg2⟩ : ∃ g : Nat → Int64, g = vp_updL T_ways (l2).toNatClampNeg (1 : Int64) := ⟨_, rfl⟩
    replace hf := hf g2 eg2
    refine w_last (g := g2) (W1 := (wT cI cJ cZ t0 t1 n0 n1 n2 n3 n4 n5 n6 g2 N_postCount N_roadCount N_first N_second N_number N_allowed N_at N_beside)) hx hb hK hI 1 rfl hin eg2 dX6_colourings_34 rfl (fun H locs hI => ?_)
    refine lv_iconst (v := 0) hx hb dX6_colourings_35 (by decide) ?_
    refine lv_istore_n (lv' := [(3, .int (0 : Int32)), (0, .ref t0), (1, .int l1), (2, .int l2)]) hx hb dX6_colourings_36 rfl hl (by decide) rfl (fun ls hl => ?_)
    exact L37 l1 l2 (g2, (0 : Int32)) _ hf hM _ _ _ hI (lv_sub hl [1, 2, 3, 0] rfl)
  have L10 : ∀ (l1 : Int32) (l2 : Int32), ∀ (v : (Nat → Int64) × Int32) (x : Int64 × (Nat → Int64)), loopO (X6_colourings_L10 N_roadCount N_beside l1 l2) v = some x → (fun z : Int64 × (Nat → Int64) => z = out) x → (fun (v : (Nat → Int64) × Int32) => ∀ (H : Heap) (locs : List Loc) (ls : Array Slot), WI D A s.heap (wT cI cJ cZ t0 t1 n0 n1 n2 n3 n4 n5 n6 v.1 N_postCount N_roadCount N_first N_second N_number N_allowed N_at N_beside) H locs → lv_has ls 4 [(0, .ref t0), (1, .int l1), (2, .int l2), (3, .int v.2)] → GX6_colourings p l e s m below meth c D cI cJ cZ t0 t1 n0 n1 n2 n3 n4 n5 n6 T_ways_0 N_postCount N_roadCount N_first N_second N_number N_allowed N_at N_beside a1 out H locs (F0 m 10 ls [])) v := by
    intro l1 l2
    refine loopO_ind (fun (v : (Nat → Int64) × Int32) => ∀ (H : Heap) (locs : List Loc) (ls : Array Slot), WI D A s.heap (wT cI cJ cZ t0 t1 n0 n1 n2 n3 n4 n5 n6 v.1 N_postCount N_roadCount N_first N_second N_number N_allowed N_at N_beside) H locs → lv_has ls 4 [(0, .ref t0), (1, .int l1), (2, .int l2), (3, .int v.2)] → GX6_colourings p l e s m below meth c D cI cJ cZ t0 t1 n0 n1 n2 n3 n4 n5 n6 T_ways_0 N_postCount N_roadCount N_first N_second N_number N_allowed N_at N_beside a1 out H locs (F0 m 10 ls [])) (fun z : Int64 × (Nat → Int64) => z = out) ?_
    intro v x hf hM H locs ls hI hl
    refine lv_iload_n hx hb dX6_colourings_10 rfl (lv_at hl 3 rfl) ?_
    refine lv_iload_n hx hb dX6_colourings_11 rfl (lv_at hl 2 rfl) ?_
    refine lv_icmp_gt (tgt := 28) hx hb dX6_colourings_12 (by decide) (fun hc => ?_) (fun hc => ?_)
    · replace hf := ite_t hc hf
      obtain ⟨z, hf2, ez⟩ := mp_e hf
      clear hf
      subst ez
      exact J28 v.1 l1 l2 _ hf2 hM _ _ _ hI (lv_sub hl [0, 1, 2] rfl)
    · replace hf := ite_f hc hf
      refine lv_aload_n hx hb dX6_colourings_15 rfl (lv_at hl 0 rfl) ?_
      refine w_get hx hb hg hown hK hI iX6 0 rfl rfl 1 (by decide) wF_RX6_9 rfl dX6_colourings_16 ?_
      refine lv_iload_n hx hb dX6_colourings_19 rfl (lv_at hl 3 rfl) ?_
      refine lv_lconst (v := 0) hx hb dX6_colourings_20 (by decide) ?_
      obtain ⟨hin, hf⟩ := wrJ_e hf
      obtain ⟨g6, eg6⟩ : ∃ g : Nat → Int64, g = vp_updL v.1 (v.2).toNatClampNeg (0 : Int64) := ⟨_, rfl⟩
      replace hf := hf g6 eg6
      refine w_last (g := g6) (W1 := (wT cI cJ cZ t0 t1 n0 n1 n2 n3 n4 n5 n6 g6 N_postCount N_roadCount N_first N_second N_number N_allowed N_at N_beside)) hx hb hK hI 1 rfl hin eg6 dX6_colourings_21 rfl (fun H locs hI => ?_)
      obtain ⟨x7, ex7⟩ : ∃ y : Int32, y = (v.2 + (1 : Int32)) := ⟨_, rfl⟩
      replace hf := bnd_e hf x7 ex7
      refine lv_iinc (v := x7) (lv' := [(3, .int x7), (0, .ref t0), (1, .int l1), (2, .int l2)]) hx hb dX6_colourings_22 hl (k := 3) rfl (by rw [ex7]; rfl) (by decide) rfl (fun ls hl => ?_)
      refine lv_goto (tgt := 10) hx hb dX6_colourings_25 (by decide) ?_
      replace hf := Option.some.inj hf
      subst hf
      exact hM _ _ _ hI (lv_sub hl [1, 2, 3, 0] rfl)
  obtain ⟨x, hf, hM⟩ : ∃ x, FX6_colourings T_ways_0 N_roadCount N_beside a1 = some x ∧ x = out := ⟨out, hf, rfl⟩
  refine lv_aload_n hx hb dX6_colourings_0 rfl (lv_at hl 0 rfl) ?_
  refine w_get hx hb hg hown hK hI iX6 0 rfl rfl 0 (by decide) wF_RX6_15 rfl dX6_colourings_1 ?_
  obtain ⟨o1, ho1, hf⟩ := bd_e hf
  refine w_Vi0 (wc := (wN cI cJ cZ n0 n1 n2 n3 n4 n5 n6 N_postCount N_roadCount N_first N_second N_number N_allowed N_at N_beside)) (wr := [(t0, .inr (6, [.ref n0, .ref t1])), (t1, .inl (cJ, 4096, .inr (.inl T_ways_0)))]) (rest := []) hx hb hml hg hown hK hA hI (kX3_allRoads l D cI cJ cZ n0 n1 n2 n3 n4 n5 n6 N_postCount N_roadCount N_first N_second N_number N_allowed N_at N_beside  o1 ho1) kvX3_allRoads wL_RX6_19 ⟨Nat.le_of_ble_eq_true rfl, Nat.le_of_ble_eq_true rfl⟩ rfl rfl [2, 3, 4, 5, 6, 7, 8] [0, 1] rfl rfl rfl rfl (by decide) rfl rfl hl.1 (Nat.le_of_ble_eq_true rfl) dX6_colourings_4 ⟨Nat.zero_le _, Nat.zero_le _⟩ ⟨rfl, rfl⟩ (fun r u H locs hp hI => ?_)
  replace hp : r = o1 := hp
  rw [hp]
  clear hp
  replace hI : WI D A s.heap (wT cI cJ cZ t0 t1 n0 n1 n2 n3 n4 n5 n6 T_ways_0 N_postCount N_roadCount N_first N_second N_number N_allowed N_at N_beside) H locs := hI
  refine lv_istore_n (lv' := [(2, .int o1), (0, .ref t0), (1, .int a1)]) hx hb dX6_colourings_7 rfl hl (by decide) rfl (fun ls hl => ?_)
  refine lv_iconst (v := 0) hx hb dX6_colourings_8 (by decide) ?_
  refine lv_istore_n (lv' := [(3, .int (0 : Int32)), (2, .int o1), (0, .ref t0), (1, .int a1)]) hx hb dX6_colourings_9 rfl hl (by decide) rfl (fun ls hl => ?_)
  exact L10 a1 o1 (T_ways_0, (0 : Int32)) _ hf hM _ _ _ hI (lv_sub hl [2, 3, 1, 0] rfl)
