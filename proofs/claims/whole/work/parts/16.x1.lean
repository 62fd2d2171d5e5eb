noncomputable def FX7_post (N_postCount_0 : Int32) (N_at_0 : Nat → Int32)  : Option (Int32 × Int32 × (Nat → Int32)) :=
  if N_postCount_0 < (12 : Int32) then ((FX3_addPost N_postCount_0 N_at_0).bind (fun o1 => some (o1.1, o1.2.1, o1.2.2))) else (some ((-2 : Int32), N_postCount_0, N_at_0))
abbrev GX7_post (p : Program) (l : Launch) (e : Env) (s : State) (m : MethodId) (below : List Frame) (meth : Method) (c : Code) (D : va_G) (cI cJ cZ : ClassId) (x0 n0 n1 n2 n3 n4 n5 n6 q0 q1 q2 q3 : Nat) (v_heapsOfNet : Value) (v_pickerOfNet : Value) (v_tallyOfNet : Value) (N_postCount_0 : Int32) (N_roadCount : Int32) (N_first : Nat → Int32) (N_second : Nat → Int32) (N_number : Nat → Int32) (N_allowed : Nat → Int32) (N_at_0 : Nat → Int32) (N_beside : Nat → Int32) (Q_side : Int32) (Q_height : Int32) (Q_cell : Nat → Int32) (Q_taken : Nat → Int32) (Q_ways : Nat → Int32)  (out : Int32 × Int32 × (Nat → Int32)) (H : Heap) (locs : List Loc) (g : JFrame) : Prop := W p l e (headSpec (Cond.code yX7_post cX7_post 1 (some .int) :: GW) { frames := 1, cells := 0, slots := 0, locals := 20 }).room s m ([.ref x0] : List Value).toArray below meth c H locs 0 0 (MQ below (va_Qi (fun r (_ : Unit) => r = out.1) (BW D (wX cI cJ cZ x0 n0 n1 n2 n3 n4 n5 n6 q0 q1 q2 q3 v_heapsOfNet v_pickerOfNet v_tallyOfNet N_postCount_0 N_roadCount N_first N_second N_number N_allowed N_at_0 N_beside Q_side Q_height Q_cell Q_taken Q_ways) s.heap.size (fun _ => (wX cI cJ cZ x0 n0 n1 n2 n3 n4 n5 n6 q0 q1 q2 q3 v_heapsOfNet v_pickerOfNet v_tallyOfNet out.2.1 N_roadCount N_first N_second N_number N_allowed out.2.2 N_beside Q_side Q_height Q_cell Q_taken Q_ways))) (va_A (wX cI cJ cZ x0 n0 n1 n2 n3 n4 n5 n6 q0 q1 q2 q3 v_heapsOfNet v_pickerOfNet v_tallyOfNet N_postCount_0 N_roadCount N_first N_second N_number N_allowed N_at_0 N_beside Q_side Q_height Q_cell Q_taken Q_ways) s.heap.size)) ([.ref x0] : List Value).toArray s 0 0 (va_A (wX cI cJ cZ x0 n0 n1 n2 n3 n4 n5 n6 q0 q1 q2 q3 v_heapsOfNet v_pickerOfNet v_tallyOfNet N_postCount_0 N_roadCount N_first N_second N_number N_allowed N_at_0 N_beside Q_side Q_height Q_cell Q_taken Q_ways) s.heap.size)) g
theorem kvX7_post : CalV RX7 yX7_post cX7_post 1 (some .int) 0 := ⟨wC_yX7_post, wM_yX7_post, wS_yX7_post, wI_RX7, by decide +kernel⟩
set_option maxHeartbeats 4000000 in
set_option maxRecDepth 100000 in
theorem kX7_post (l : Launch) (D : va_G) (cI cJ cZ : ClassId) (x0 n0 n1 n2 n3 n4 n5 n6 q0 q1 q2 q3 : Nat) (v_heapsOfNet : Value) (v_pickerOfNet : Value) (v_tallyOfNet : Value) (N_postCount_0 : Int32) (N_roadCount : Int32) (N_first : Nat → Int32) (N_second : Nat → Int32) (N_number : Nat → Int32) (N_allowed : Nat → Int32) (N_at_0 : Nat → Int32) (N_beside : Nat → Int32) (Q_side : Int32) (Q_height : Int32) (Q_cell : Nat → Int32) (Q_taken : Nat → Int32) (Q_ways : Nat → Int32)  (out : Int32 × Int32 × (Nat → Int32)) (hf : FX7_post N_postCount_0 N_at_0 = some out) : MI l yX7_post (Cond.code yX7_post cX7_post 1 (some .int) :: GW) { frames := 1, cells := 0, slots := 0, locals := 20 } D cI cJ cZ [.ref x0] (wX cI cJ cZ x0 n0 n1 n2 n3 n4 n5 n6 q0 q1 q2 q3 v_heapsOfNet v_pickerOfNet v_tallyOfNet N_postCount_0 N_roadCount N_first N_second N_number N_allowed N_at_0 N_beside Q_side Q_height Q_cell Q_taken Q_ways) (fun r (_ : Unit) => r = out.1) (fun _ => (wX cI cJ cZ x0 n0 n1 n2 n3 n4 n5 n6 q0 q1 q2 q3 v_heapsOfNet v_pickerOfNet v_tallyOfNet out.2.1 N_roadCount N_first N_second N_number N_allowed out.2.2 N_beside Q_side Q_height Q_cell Q_taken Q_ways)) := by
  intro sz
  refine Met.ofW (cc := cX7_post) (maxL := 1) (ret := (some .int)) (by decide +kernel) rfl ?_
  intro p e s m args below meth c s₁ B hml hv
  obtain ⟨rfl, hsz, hP, hK, hD0⟩ := hv
  have hx := B.exec
  have hb := B.bytes
  have hr := B.returns
  have hlocks := B.notSynchronized
  have hg : ∀ w ∈ GW, w.before _ s = true := fun w h => atoms_spec (ws := Cond.code yX7_post cX7_post 1 (some .int) :: GW) B.pre w (List.mem_cons_of_mem _ h)
  have hown : s.vm.findClass RX7 = some m.cls := findClass_of_methodNamed B.named
  subst hsz
  obtain ⟨A, hAe⟩ : ∃ A, A = va_A (wX cI cJ cZ x0 n0 n1 n2 n3 n4 n5 n6 q0 q1 q2 q3 v_heapsOfNet v_pickerOfNet v_tallyOfNet N_postCount_0 N_roadCount N_first N_second N_number N_allowed N_at_0 N_beside Q_side Q_height Q_cell Q_taken Q_ways) s.heap.size := ⟨_, rfl⟩
  have hA : ∀ q : Nat, s.heap.size ≤ q → A q := fun q h => by rw [hAe]; exact Or.inr h
  have hI : WI D A s.heap (wX cI cJ cZ x0 n0 n1 n2 n3 n4 n5 n6 q0 q1 q2 q3 v_heapsOfNet v_pickerOfNet v_tallyOfNet N_postCount_0 N_roadCount N_first N_second N_number N_allowed N_at_0 N_beside Q_side Q_height Q_cell Q_taken Q_ways) s.heap [] := ⟨hP, by rw [hAe]; exact hD0.self, va_S.rf⟩
  have hl := lv_entry [.ref x0] (n := 1) (Nat.le_of_ble_eq_true rfl)
  rw [lg_entry_eq]
  generalize (lg_sl [.ref x0] ++ List.replicate (1 - (lg_sl [.ref x0]).length) Slot.unset).toArray = ls at hl ⊢
  replace hl : lv_has ls 1 [(0, .ref x0)] := hl
  obtain ⟨x, hf, hM⟩ : ∃ x, FX7_post N_postCount_0 N_at_0 = some x ∧ x = out := ⟨out, hf, rfl⟩
  refine lv_aload_n hx hb dX7_post_0 rfl (lv_at hl 0 rfl) ?_
  refine w_get hx hb hg hown hK hI iX7 0 rfl rfl 0 (by decide) wF_RX7_12 rfl dX7_post_1 ?_
  refine w_get hx hb hg hown hK hI iX3 1 rfl rfl 0 (by decide) wF_RX7_23 rfl dX7_post_4 ?_
  refine lv_bipush (v := 12) hx hb dX7_post_7 (by decide) ?_
  refine lv_icmp_lt (tgt := 15) hx hb dX7_post_9 (by decide) (fun hc => ?_) (fun hc => ?_)
  · replace hf := ite_t hc hf
    refine lv_aload_n hx hb dX7_post_15 rfl (lv_at hl 0 rfl) ?_
    refine w_get hx hb hg hown hK hI iX7 0 rfl rfl 0 (by decide) wF_RX7_12 rfl dX7_post_16 ?_
    obtain ⟨o1, ho1, hf⟩ := bd_e hf
    refine w_Vi0 (wc := (wN cI cJ cZ n0 n1 n2 n3 n4 n5 n6 N_postCount_0 N_roadCount N_first N_second N_number N_allowed N_at_0 N_beside)) (wr := [(x0, .inr (7, [.ref n0, .ref q0, v_heapsOfNet, v_pickerOfNet, v_tallyOfNet])), (q0, .inr (5, [.int Q_side, .int Q_height, .ref q1, .ref q2, .ref q3])), (q1, .inl (cI, 81, .inl Q_cell)), (q2, .inl (cI, 9, .inl Q_taken)), (q3, .inl (cI, 512, .inl Q_ways))]) (rest := []) hx hb hml hg hown hK hA hI (kX3_addPost l D cI cJ cZ n0 n1 n2 n3 n4 n5 n6 N_postCount_0 N_roadCount N_first N_second N_number N_allowed N_at_0 N_beside  o1 ho1) kvX3_addPost wL_RX7_27 ⟨Nat.le_of_ble_eq_true rfl, Nat.le_of_ble_eq_true rfl⟩ rfl rfl [1, 2, 3, 4, 5, 6, 7] [0, 8, 9, 10, 11] rfl rfl rfl rfl (by decide) rfl rfl hl.1 (Nat.le_of_ble_eq_true rfl) dX7_post_19 ⟨Nat.zero_le _, Nat.zero_le _⟩ ⟨rfl, rfl⟩ (fun r u H locs hp hI => ?_)
    replace hp : r = o1.1 := hp
    rw [hp]
    clear hp
    replace hI : WI D A s.heap (wX cI cJ cZ x0 n0 n1 n2 n3 n4 n5 n6 q0 q1 q2 q3 v_heapsOfNet v_pickerOfNet v_tallyOfNet o1.2.1 N_roadCount N_first N_second N_number N_allowed o1.2.2 N_beside Q_side Q_height Q_cell Q_taken Q_ways) H locs := hI.perm [0, 5, 6, 7, 8, 9, 10, 11, 1, 2, 3, 4] rfl rfl
    replace hf := Option.some.inj hf
    subst hf
    replace hM : (o1.1, o1.2.1, o1.2.2) = out := hM
    subst hM
    exact rt_i (u := ()) hx hb hr hlocks rfl hI hAe rfl dX7_post_22
  · replace hf := ite_f hc hf
    refine lv_bipush (v := -2) hx hb dX7_post_12 (by decide) ?_
    replace hf := Option.some.inj hf
    subst hf
    replace hM : ((-2 : Int32), N_postCount_0, N_at_0) = out := hM
    subst hM
    exact rt_i (u := ()) hx hb hr hlocks rfl hI hAe rfl dX7_post_14
noncomputable def FX7_road (N_postCount : Int32) (N_roadCount_0 : Int32) (N_first_0 : Nat → Int32) (N_second_0 : Nat → Int32) (N_number_0 : Nat → Int32) (N_allowed_0 : Nat → Int32) (N_at_0 : Nat → Int32) (N_beside_0 : Nat → Int32) (a1 : Int32) (a2 : Int32) : Option (Int32 × Int32 × (Nat → Int32) × (Nat → Int32) × (Nat → Int32) × (Nat → Int32) × (Nat → Int32) × (Nat → Int32)) :=
  (FX3_hasPost N_postCount a1).bind (fun o1 => if o1 = (0 : Int32) then (some ((-2 : Int32), N_roadCount_0, N_first_0, N_second_0, N_number_0, N_allowed_0, N_at_0, N_beside_0)) else ((FX3_hasPost N_postCount a2).bind (fun o2 => if o2 = (0 : Int32) then (some ((-2 : Int32), N_roadCount_0, N_first_0, N_second_0, N_number_0, N_allowed_0, N_at_0, N_beside_0)) else (if a1 = a2 then (some ((-2 : Int32), N_roadCount_0, N_first_0, N_second_0, N_number_0, N_allowed_0, N_at_0, N_beside_0)) else (if N_roadCount_0 < (24 : Int32) then ((FX3_addRoad N_roadCount_0 N_first_0 N_second_0 N_number_0 N_allowed_0 N_at_0 N_beside_0 a1 a2).bind (fun o3 => some (o3.1, o3.2.1, o3.2.2.1, o3.2.2.2.1, o3.2.2.2.2.1, o3.2.2.2.2.2.1, o3.2.2.2.2.2.2.1, o3.2.2.2.2.2.2.2))) else (some ((-2 : Int32), N_roadCount_0, N_first_0, N_second_0, N_number_0, N_allowed_0, N_at_0, N_beside_0)))))))
abbrev GX7_road (p : Program) (l : Launch) (e : Env) (s : State) (m : MethodId) (below : List Frame) (meth : Method) (c : Code) (D : va_G) (cI cJ cZ : ClassId) (x0 n0 n1 n2 n3 n4 n5 n6 q0 q1 q2 q3 : Nat) (v_heapsOfNet : Value) (v_pickerOfNet : Value) (v_tallyOfNet : Value) (N_postCount : Int32) (N_roadCount_0 : Int32) (N_first_0 : Nat → Int32) (N_second_0 : Nat → Int32) (N_number_0 : Nat → Int32) (N_allowed_0 : Nat → Int32) (N_at_0 : Nat → Int32) (N_beside_0 : Nat → Int32) (Q_side : Int32) (Q_height : Int32) (Q_cell : Nat → Int32) (Q_taken : Nat → Int32) (Q_ways : Nat → Int32) (a1 : Int32) (a2 : Int32) (out : Int32 × Int32 × (Nat → Int32) × (Nat → Int32) × (Nat → Int32) × (Nat → Int32) × (Nat → Int32) × (Nat → Int32)) (H : Heap) (locs : List Loc) (g : JFrame) : Prop := W p l e (headSpec (Cond.code yX7_road cX7_road 3 (some .int) :: GW) { frames := 2, cells := 0, slots := 0, locals := 45 }).room s m ([.ref x0, .int a1, .int a2] : List Value).toArray below meth c H locs 0 0 (MQ below (va_Qi (fun r (_ : Unit) => r = out.1) (BW D (wX cI cJ cZ x0 n0 n1 n2 n3 n4 n5 n6 q0 q1 q2 q3 v_heapsOfNet v_pickerOfNet v_tallyOfNet N_postCount N_roadCount_0 N_first_0 N_second_0 N_number_0 N_allowed_0 N_at_0 N_beside_0 Q_side Q_height Q_cell Q_taken Q_ways) s.heap.size (fun _ => (wX cI cJ cZ x0 n0 n1 n2 n3 n4 n5 n6 q0 q1 q2 q3 v_heapsOfNet v_pickerOfNet v_tallyOfNet N_postCount out.2.1 out.2.2.1 out.2.2.2.1 out.2.2.2.2.1 out.2.2.2.2.2.1 out.2.2.2.2.2.2.1 out.2.2.2.2.2.2.2 Q_side Q_height Q_cell Q_taken Q_ways))) (va_A (wX cI cJ cZ x0 n0 n1 n2 n3 n4 n5 n6 q0 q1 q2 q3 v_heapsOfNet v_pickerOfNet v_tallyOfNet N_postCount N_roadCount_0 N_first_0 N_second_0 N_number_0 N_allowed_0 N_at_0 N_beside_0 Q_side Q_height Q_cell Q_taken Q_ways) s.heap.size)) ([.ref x0, .int a1, .int a2] : List Value).toArray s 0 0 (va_A (wX cI cJ cZ x0 n0 n1 n2 n3 n4 n5 n6 q0 q1 q2 q3 v_heapsOfNet v_pickerOfNet v_tallyOfNet N_postCount N_roadCount_0 N_first_0 N_second_0 N_number_0 N_allowed_0 N_at_0 N_beside_0 Q_side Q_height Q_cell Q_taken Q_ways) s.heap.size)) g
theorem kvX7_road : CalV RX7 yX7_road cX7_road 3 (some .int) 2 := ⟨wC_yX7_road, wM_yX7_road, wS_yX7_road, wI_RX7, by decide +kernel⟩
set_option maxHeartbeats 4000000 in
set_option maxRecDepth 100000 in
theorem kX7_road (l : Launch) (D : va_G) (cI cJ cZ : ClassId) (x0 n0 n1 n2 n3 n4 n5 n6 q0 q1 q2 q3 : Nat) (v_heapsOfNet : Value) (v_pickerOfNet : Value) (v_tallyOfNet : Value) (N_postCount : Int32) (N_roadCount_0 : Int32) (N_first_0 : Nat → Int32) (N_second_0 : Nat → Int32) (N_number_0 : Nat → Int32) (N_allowed_0 : Nat → Int32) (N_at_0 : Nat → Int32) (N_beside_0 : Nat → Int32) (Q_side : Int32) (Q_height : Int32) (Q_cell : Nat → Int32) (Q_taken : Nat → Int32) (Q_ways : Nat → Int32) (a1 : Int32) (a2 : Int32) (out : Int32 × Int32 × (Nat → Int32) × (Nat → Int32) × (Nat → Int32) × (Nat → Int32) × (Nat → Int32) × (Nat → Int32)) (hf : FX7_road N_postCount N_roadCount_0 N_first_0 N_second_0 N_number_0 N_allowed_0 N_at_0 N_beside_0 a1 a2 = some out) : MI l yX7_road (Cond.code yX7_road cX7_road 3 (some .int) :: GW) { frames := 2, cells := 0, slots := 0, locals := 45 } D cI cJ cZ [.ref x0, .int a1, .int a2] (wX cI cJ cZ x0 n0 n1 n2 n3 n4 n5 n6 q0 q1 q2 q3 v_heapsOfNet v_pickerOfNet v_tallyOfNet N_postCount N_roadCount_0 N_first_0 N_second_0 N_number_0 N_allowed_0 N_at_0 N_beside_0 Q_side Q_height Q_cell Q_taken Q_ways) (fun r (_ : Unit) => r = out.1) (fun _ => (wX cI cJ cZ x0 n0 n1 n2 n3 n4 n5 n6 q0 q1 q2 q3 v_heapsOfNet v_pickerOfNet v_tallyOfNet N_postCount out.2.1 out.2.2.1 out.2.2.2.1 out.2.2.2.2.1 out.2.2.2.2.2.1 out.2.2.2.2.2.2.1 out.2.2.2.2.2.2.2 Q_side Q_height Q_cell Q_taken Q_ways)) := by
  intro sz
  refine Met.ofW (cc := cX7_road) (maxL := 3) (ret := (some .int)) (by decide +kernel) rfl ?_
  intro p e s m args below meth c s₁ B hml hv
  obtain ⟨rfl, hsz, hP, hK, hD0⟩ := hv
  have hx := B.exec
  have hb := B.bytes
  have hr := B.returns
  have hlocks := B.notSynchronized
  have hg : ∀ w ∈ GW, w.before _ s = true := fun w h => atoms_spec (ws := Cond.code yX7_road cX7_road 3 (some .int) :: GW) B.pre w (List.mem_cons_of_mem _ h)
  have hown : s.vm.findClass RX7 = some m.cls := findClass_of_methodNamed B.named
  subst hsz
  obtain ⟨A, hAe⟩ : ∃ A, A = va_A (wX cI cJ cZ x0 n0 n1 n2 n3 n4 n5 n6 q0 q1 q2 q3 v_heapsOfNet v_pickerOfNet v_tallyOfNet N_postCount N_roadCount_0 N_first_0 N_second_0 N_number_0 N_allowed_0 N_at_0 N_beside_0 Q_side Q_height Q_cell Q_taken Q_ways) s.heap.size := ⟨_, rfl⟩
  have hA : ∀ q : Nat, s.heap.size ≤ q → A q := fun q h => by rw [hAe]; exact Or.inr h
  have hI : WI D A s.heap (wX cI cJ cZ x0 n0 n1 n2 n3 n4 n5 n6 q0 q1 q2 q3 v_heapsOfNet v_pickerOfNet v_tallyOfNet N_postCount N_roadCount_0 N_first_0 N_second_0 N_number_0 N_allowed_0 N_at_0 N_beside_0 Q_side Q_height Q_cell Q_taken Q_ways) s.heap [] := ⟨hP, by rw [hAe]; exact hD0.self, va_S.rf⟩
  have hl := lv_entry [.ref x0, .int a1, .int a2] (n := 3) (Nat.le_of_ble_eq_true rfl)
  rw [lg_entry_eq]
  generalize (lg_sl [.ref x0, .int a1, .int a2] ++ List.replicate (3 - (lg_sl [.ref x0, .int a1, .int a2]).length) Slot.unset).toArray = ls at hl ⊢
  replace hl : lv_has ls 3 [(0, .ref x0), (1, .int a1), (2, .int a2)] := hl
  obtain ⟨x, hf, hM⟩ : ∃ x, FX7_road N_postCount N_roadCount_0 N_first_0 N_second_0 N_number_0 N_allowed_0 N_at_0 N_beside_0 a1 a2 = some x ∧ x = out := ⟨out, hf, rfl⟩
  refine lv_aload_n hx hb dX7_road_0 rfl (lv_at hl 0 rfl) ?_
  refine w_get hx hb hg hown hK hI iX7 0 rfl rfl 0 (by decide) wF_RX7_12 rfl dX7_road_1 ?_
  refine lv_iload_n hx hb dX7_road_4 rfl (lv_at hl 1 rfl) ?_
  obtain ⟨o1, ho1, hf⟩ := bd_e hf
  refine w_Vi0 (wc := (wN cI cJ cZ n0 n1 n2 n3 n4 n5 n6 N_postCount N_roadCount_0 N_first_0 N_second_0 N_number_0 N_allowed_0 N_at_0 N_beside_0)) (wr := [(x0, .inr (7, [.ref n0, .ref q0, v_heapsOfNet, v_pickerOfNet, v_tallyOfNet])), (q0, .inr (5, [.int Q_side, .int Q_height, .ref q1, .ref q2, .ref q3])), (q1, .inl (cI, 81, .inl Q_cell)), (q2, .inl (cI, 9, .inl Q_taken)), (q3, .inl (cI, 512, .inl Q_ways))]) (rest := []) hx hb hml hg hown hK hA hI (kX3_hasPost l D cI cJ cZ n0 n1 n2 n3 n4 n5 n6 N_postCount N_roadCount_0 N_first_0 N_second_0 N_number_0 N_allowed_0 N_at_0 N_beside_0 a1 o1 ho1) kvX3_hasPost wL_RX7_31 ⟨Nat.le_of_ble_eq_true rfl, Nat.le_of_ble_eq_true rfl⟩ rfl rfl [1, 2, 3, 4, 5, 6, 7] [0, 8, 9, 10, 11] rfl rfl rfl rfl (by decide) rfl rfl hl.1 (Nat.le_of_ble_eq_true rfl) dX7_road_5 ⟨Nat.zero_le _, Nat.zero_le _⟩ ⟨rfl, rfl⟩ (fun r u H locs hp hI => ?_)
  replace hp : r = o1 := hp
  rw [hp]
  clear hp
  replace hI : WI D A s.heap (wX cI cJ cZ x0 n0 n1 n2 n3 n4 n5 n6 q0 q1 q2 q3 v_heapsOfNet v_pickerOfNet v_tallyOfNet N_postCount N_roadCount_0 N_first_0 N_second_0 N_number_0 N_allowed_0 N_at_0 N_beside_0 Q_side Q_height Q_cell Q_taken Q_ways) H locs := hI.perm [0, 5, 6, 7, 8, 9, 10, 11, 1, 2, 3, 4] rfl rfl
  refine lv_if_eq (tgt := 39) hx hb dX7_road_8 (by decide) (fun hc => ?_) (fun hc => ?_)
  · replace hf := ite_t hc hf
    refine lv_bipush (v := -2) hx hb dX7_road_39 (by decide) ?_
    replace hf := Option.some.inj hf
    subst hf
    replace hM : ((-2 : Int32), N_roadCount_0, N_first_0, N_second_0, N_number_0, N_allowed_0, N_at_0, N_beside_0) = out := hM
    subst hM
    exact rt_i (u := ()) hx hb hr hlocks rfl hI hAe rfl dX7_road_41
  · replace hf := ite_f hc hf
    refine lv_aload_n hx hb dX7_road_11 rfl (lv_at hl 0 rfl) ?_
    refine w_get hx hb hg hown hK hI iX7 0 rfl rfl 0 (by decide) wF_RX7_12 rfl dX7_road_12 ?_
    refine lv_iload_n hx hb dX7_road_15 rfl (lv_at hl 2 rfl) ?_
    obtain ⟨o2, ho2, hf⟩ := bd_e hf
    refine w_Vi0 (wc := (wN cI cJ cZ n0 n1 n2 n3 n4 n5 n6 N_postCount N_roadCount_0 N_first_0 N_second_0 N_number_0 N_allowed_0 N_at_0 N_beside_0)) (wr := [(x0, .inr (7, [.ref n0, .ref q0, v_heapsOfNet, v_pickerOfNet, v_tallyOfNet])), (q0, .inr (5, [.int Q_side, .int Q_height, .ref q1, .ref q2, .ref q3])), (q1, .inl (cI, 81, .inl Q_cell)), (q2, .inl (cI, 9, .inl Q_taken)), (q3, .inl (cI, 512, .inl Q_ways))]) (rest := []) hx hb hml hg hown hK hA hI (kX3_hasPost l D cI cJ cZ n0 n1 n2 n3 n4 n5 n6 N_postCount N_roadCount_0 N_first_0 N_second_0 N_number_0 N_allowed_0 N_at_0 N_beside_0 a2 o2 ho2) kvX3_hasPost wL_RX7_31 ⟨Nat.le_of_ble_eq_true rfl, Nat.le_of_ble_eq_true rfl⟩ rfl rfl [1, 2, 3, 4, 5, 6, 7] [0, 8, 9, 10, 11] rfl rfl rfl rfl (by decide) rfl rfl hl.1 (Nat.le_of_ble_eq_true rfl) dX7_road_16 ⟨Nat.zero_le _, Nat.zero_le _⟩ ⟨rfl, rfl⟩ (fun r u H locs hp hI => ?_)
    replace hp : r = o2 := hp
    rw [hp]
    clear hp
    replace hI : WI D A s.heap (wX cI cJ cZ x0 n0 n1 n2 n3 n4 n5 n6 q0 q1 q2 q3 v_heapsOfNet v_pickerOfNet v_tallyOfNet N_postCount N_roadCount_0 N_first_0 N_second_0 N_number_0 N_allowed_0 N_at_0 N_beside_0 Q_side Q_height Q_cell Q_taken Q_ways) H locs := hI.perm [0, 5, 6, 7, 8, 9, 10, 11, 1, 2, 3, 4] rfl rfl
    refine lv_if_eq (tgt := 39) hx hb dX7_road_19 (by decide) (fun hc => ?_) (fun hc => ?_)
    · replace hf := ite_t hc hf
      refine lv_bipush (v := -2) hx hb dX7_road_39 (by decide) ?_
      replace hf := Option.some.inj hf
      subst hf
      replace hM : ((-2 : Int32), N_roadCount_0, N_first_0, N_second_0, N_number_0, N_allowed_0, N_at_0, N_beside_0) = out := hM
      subst hM
      exact rt_i (u := ()) hx hb hr hlocks rfl hI hAe rfl dX7_road_41
    · replace hf := ite_f hc hf
      refine lv_iload_n hx hb dX7_road_22 rfl (lv_at hl 1 rfl) ?_
      refine lv_iload_n hx hb dX7_road_23 rfl (lv_at hl 2 rfl) ?_
      refine lv_icmp_eq (tgt := 39) hx hb dX7_road_24 (by decide) (fun hc => ?_) (fun hc => ?_)
      · replace hf := ite_t hc hf
        refine lv_bipush (v := -2) hx hb dX7_road_39 (by decide) ?_
        replace hf := Option.some.inj hf
        subst hf
        replace hM : ((-2 : Int32), N_roadCount_0, N_first_0, N_second_0, N_number_0, N_allowed_0, N_at_0, N_beside_0) = out := hM
        subst hM
        exact rt_i (u := ()) hx hb hr hlocks rfl hI hAe rfl dX7_road_41
      · replace hf := ite_f hc hf
        refine lv_aload_n hx hb dX7_road_27 rfl (lv_at hl 0 rfl) ?_
        refine w_get hx hb hg hown hK hI iX7 0 rfl rfl 0 (by decide) wF_RX7_12 rfl dX7_road_28 ?_
        refine w_get hx hb hg hown hK hI iX3 1 rfl rfl 1 (by decide) wF_RX7_35 rfl dX7_road_31 ?_
        refine lv_bipush (v := 24) hx hb dX7_road_34 (by decide) ?_
        refine lv_icmp_lt (tgt := 42) hx hb dX7_road_36 (by decide) (fun hc => ?_) (fun hc => ?_)
        · replace hf := ite_t hc hf
          refine lv_aload_n hx hb dX7_road_42 rfl (lv_at hl 0 rfl) ?_
          refine w_get hx hb hg hown hK hI iX7 0 rfl rfl 0 (by decide) wF_RX7_12 rfl dX7_road_43 ?_
          refine lv_iload_n hx hb dX7_road_46 rfl (lv_at hl 1 rfl) ?_
          refine lv_iload_n hx hb dX7_road_47 rfl (lv_at hl 2 rfl) ?_
          obtain ⟨o3, ho3, hf⟩ := bd_e hf
          refine w_Vi0 (wc := (wN cI cJ cZ n0 n1 n2 n3 n4 n5 n6 N_postCount N_roadCount_0 N_first_0 N_second_0 N_number_0 N_allowed_0 N_at_0 N_beside_0)) (wr := [(x0, .inr (7, [.ref n0, .ref q0, v_heapsOfNet, v_pickerOfNet, v_tallyOfNet])), (q0, .inr (5, [.int Q_side, .int Q_height, .ref q1, .ref q2, .ref q3])), (q1, .inl (cI, 81, .inl Q_cell)), (q2, .inl (cI, 9, .inl Q_taken)), (q3, .inl (cI, 512, .inl Q_ways))]) (rest := []) hx hb hml hg hown hK hA hI (kX3_addRoad l D cI cJ cZ n0 n1 n2 n3 n4 n5 n6 N_postCount N_roadCount_0 N_first_0 N_second_0 N_number_0 N_allowed_0 N_at_0 N_beside_0 a1 a2 o3 ho3) kvX3_addRoad wL_RX7_38 ⟨Nat.le_of_ble_eq_true rfl, Nat.le_of_ble_eq_true rfl⟩ rfl rfl [1, 2, 3, 4, 5, 6, 7] [0, 8, 9, 10, 11] rfl rfl rfl rfl (by decide) rfl rfl hl.1 (Nat.le_of_ble_eq_true rfl) dX7_road_48 ⟨Nat.zero_le _, Nat.zero_le _⟩ ⟨rfl, rfl⟩ (fun r u H locs hp hI => ?_)
          replace hp : r = o3.1 := hp
          rw [hp]
          clear hp
          replace hI : WI D A s.heap (wX cI cJ cZ x0 n0 n1 n2 n3 n4 n5 n6 q0 q1 q2 q3 v_heapsOfNet v_pickerOfNet v_tallyOfNet N_postCount o3.2.1 o3.2.2.1 o3.2.2.2.1 o3.2.2.2.2.1 o3.2.2.2.2.2.1 o3.2.2.2.2.2.2.1 o3.2.2.2.2.2.2.2 Q_side Q_height Q_cell Q_taken Q_ways) H locs := hI.perm [0, 5, 6, 7, 8, 9, 10, 11, 1, 2, 3, 4] rfl rfl
          replace hf := Option.some.inj hf
          subst hf
          replace hM : (o3.1, o3.2.1, o3.2.2.1, o3.2.2.2.1, o3.2.2.2.2.1, o3.2.2.2.2.2.1, o3.2.2.2.2.2.2.1, o3.2.2.2.2.2.2.2) = out := hM
          subst hM
          exact rt_i (u := ()) hx hb hr hlocks rfl hI hAe rfl dX7_road_51
        · replace hf := ite_f hc hf
          refine lv_bipush (v := -2) hx hb dX7_road_39 (by decide) ?_
          replace hf := Option.some.inj hf
          subst hf
          replace hM : ((-2 : Int32), N_roadCount_0, N_first_0, N_second_0, N_number_0, N_allowed_0, N_at_0, N_beside_0) = out := hM
          subst hM
          exact rt_i (u := ()) hx hb hr hlocks rfl hI hAe rfl dX7_road_41
noncomputable def FX7_drop (N_roadCount_0 : Int32) (N_first : Nat → Int32) (N_second : Nat → Int32) (N_at_0 : Nat → Int32) (N_beside_0 : Nat → Int32)  : Option (Int32 × Int32 × (Nat → Int32) × (Nat → Int32)) :=
  if N_roadCount_0 = (0 : Int32) then (some ((-2 : Int32), N_roadCount_0, N_at_0, N_beside_0)) else ((FX3_removeLatest N_roadCount_0 N_first N_second N_at_0 N_beside_0).bind (fun o1 => some (o1.1, o1.2.1, o1.2.2.1, o1.2.2.2)))
abbrev GX7_drop (p : Program) (l : Launch) (e : Env) (s : State) (m : MethodId) (below : List Frame) (meth : Method) (c : Code) (D : va_G) (cI cJ cZ : ClassId) (x0 n0 n1 n2 n3 n4 n5 n6 q0 q1 q2 q3 : Nat) (v_heapsOfNet : Value) (v_pickerOfNet : Value) (v_tallyOfNet : Value) (N_postCount : Int32) (N_roadCount_0 : Int32) (N_first : Nat → Int32) (N_second : Nat → Int32) (N_number : Nat → Int32) (N_allowed : Nat → Int32) (N_at_0 : Nat → Int32) (N_beside_0 : Nat → Int32) (Q_side : Int32) (Q_height : Int32) (Q_cell : Nat → Int32) (Q_taken : Nat → Int32) (Q_ways : Nat → Int32)  (out : Int32 × Int32 × (Nat → Int32) × (Nat → Int32)) (H : Heap) (locs : List Loc) (g : JFrame) : Prop := W p l e (headSpec (Cond.code yX7_drop cX7_drop 1 (some .int) :: GW) { frames := 2, cells := 0, slots := 0, locals := 42 }).room s m ([.ref x0] : List Value).toArray below meth c H locs 0 0 (MQ below (va_Qi (fun r (_ : Unit) => r = out.1) (BW D (wX cI cJ cZ x0 n0 n1 n2 n3 n4 n5 n6 q0 q1 q2 q3 v_heapsOfNet v_pickerOfNet v_tallyOfNet N_postCount N_roadCount_0 N_first N_second N_number N_allowed N_at_0 N_beside_0 Q_side Q_height Q_cell Q_taken Q_ways) s.heap.size (fun _ => (wX cI cJ cZ x0 n0 n1 n2 n3 n4 n5 n6 q0 q1 q2 q3 v_heapsOfNet v_pickerOfNet v_tallyOfNet N_postCount out.2.1 N_first N_second N_number N_allowed out.2.2.1 out.2.2.2 Q_side Q_height Q_cell Q_taken Q_ways))) (va_A (wX cI cJ cZ x0 n0 n1 n2 n3 n4 n5 n6 q0 q1 q2 q3 v_heapsOfNet v_pickerOfNet v_tallyOfNet N_postCount N_roadCount_0 N_first N_second N_number N_allowed N_at_0 N_beside_0 Q_side Q_height Q_cell Q_taken Q_ways) s.heap.size)) ([.ref x0] : List Value).toArray s 0 0 (va_A (wX cI cJ cZ x0 n0 n1 n2 n3 n4 n5 n6 q0 q1 q2 q3 v_heapsOfNet v_pickerOfNet v_tallyOfNet N_postCount N_roadCount_0 N_first N_second N_number N_allowed N_at_0 N_beside_0 Q_side Q_height Q_cell Q_taken Q_ways) s.heap.size)) g
theorem kvX7_drop : CalV RX7 yX7_drop cX7_drop 1 (some .int) 0 := ⟨wC_yX7_drop, wM_yX7_drop, wS_yX7_drop, wI_RX7, by decide +kernel⟩
set_option maxHeartbeats 4000000 in
set_option maxRecDepth 100000 in
theorem kX7_drop (l : Launch) (D : va_G) (cI cJ cZ : ClassId) (x0 n0 n1 n2 n3 n4 n5 n6 q0 q1 q2 q3 : Nat) (v_heapsOfNet : Value) (v_pickerOfNet : Value) (v_tallyOfNet : Value) (N_postCount : Int32) (N_roadCount_0 : Int32) (N_first : Nat → Int32) (N_second : Nat → Int32) (N_number : Nat → Int32) (N_allowed : Nat → Int32) (N_at_0 : Nat → Int32) (N_beside_0 : Nat → Int32) (Q_side : Int32) (Q_height : Int32) (Q_cell : Nat → Int32) (Q_taken : Nat → Int32) (Q_ways : Nat → Int32)  (out : Int32 × Int32 × (Nat → Int32) × (Nat → Int32)) (hf : FX7_drop N_roadCount_0 N_first N_second N_at_0 N_beside_0 = some out) : MI l yX7_drop (Cond.code yX7_drop cX7_drop 1 (some .int) :: GW) { frames := 2, cells := 0, slots := 0, locals := 42 } D cI cJ cZ [.ref x0] (wX cI cJ cZ x0 n0 n1 n2 n3 n4 n5 n6 q0 q1 q2 q3 v_heapsOfNet v_pickerOfNet v_tallyOfNet N_postCount N_roadCount_0 N_first N_second N_number N_allowed N_at_0 N_beside_0 Q_side Q_height Q_cell Q_taken Q_ways) (fun r (_ : Unit) => r = out.1) (fun _ => (wX cI cJ cZ x0 n0 n1 n2 n3 n4 n5 n6 q0 q1 q2 q3 v_heapsOfNet v_pickerOfNet v_tallyOfNet N_postCount out.2.1 N_first N_second N_number N_allowed out.2.2.1 out.2.2.2 Q_side Q_height Q_cell Q_taken Q_ways)) := by
  intro sz
  refine Met.ofW (cc := cX7_drop) (maxL := 1) (ret := (some .int)) (by decide +kernel) rfl ?_
  intro p e s m args below meth c s₁ B hml hv
  obtain ⟨rfl, hsz, hP, hK, hD0⟩ := hv
  have hx := B.exec
  have hb := B.bytes
  have hr := B.returns
  have hlocks := B.notSynchronized
  have hg : ∀ w ∈ GW, w.before _ s = true := fun w h => atoms_spec (ws := Cond.code yX7_drop cX7_drop 1 (some .int) :: GW) B.pre w (List.mem_cons_of_mem _ h)
  have hown : s.vm.findClass RX7 = some m.cls := findClass_of_methodNamed B.named
  subst hsz
  obtain ⟨A, hAe⟩ : ∃ A, A = va_A (wX cI cJ cZ x0 n0 n1 n2 n3 n4 n5 n6 q0 q1 q2 q3 v_heapsOfNet v_pickerOfNet v_tallyOfNet N_postCount N_roadCount_0 N_first N_second N_number N_allowed N_at_0 N_beside_0 Q_side Q_height Q_cell Q_taken Q_ways) s.heap.size := ⟨_, rfl⟩
  have hA : ∀ q : Nat, s.heap.size ≤ q → A q := fun q h => by rw [hAe]; exact Or.inr h
  have hI : WI D A s.heap (wX cI cJ cZ x0 n0 n1 n2 n3 n4 n5 n6 q0 q1 q2 q3 v_heapsOfNet v_pickerOfNet v_tallyOfNet N_postCount N_roadCount_0 N_first N_second N_number N_allowed N_at_0 N_beside_0 Q_side Q_height Q_cell Q_taken Q_ways) s.heap [] := ⟨hP, by rw [hAe]; exact hD0.self, va_S.rf⟩
  have hl := lv_entry [.ref x0] (n := 1) (Nat.le_of_ble_eq_true rfl)
  rw [lg_entry_eq]
  generalize (lg_sl [.ref x0] ++ List.replicate (1 - (lg_sl [.ref x0]).length) Slot.unset).toArray = ls at hl ⊢
  replace hl : lv_has ls 1 [(0, .ref x0)] := hl
  obtain ⟨x, hf, hM⟩ : ∃ x, FX7_drop N_roadCount_0 N_first N_second N_at_0 N_beside_0 = some x ∧ x = out := ⟨out, hf, rfl⟩
  refine lv_aload_n hx hb dX7_drop_0 rfl (lv_at hl 0 rfl) ?_
  refine w_get hx hb hg hown hK hI iX7 0 rfl rfl 0 (by decide) wF_RX7_12 rfl dX7_drop_1 ?_
  refine w_get hx hb hg hown hK hI iX3 1 rfl rfl 1 (by decide) wF_RX7_35 rfl dX7_drop_4 ?_
  refine lv_if_ne (tgt := 13) hx hb dX7_drop_7 (by decide) (fun hc => ?_) (fun hc => ?_)
  · replace hf := ite_f hc hf
    refine lv_aload_n hx hb dX7_drop_13 rfl (lv_at hl 0 rfl) ?_
    refine w_get hx hb hg hown hK hI iX7 0 rfl rfl 0 (by decide) wF_RX7_12 rfl dX7_drop_14 ?_
    obtain ⟨o1, ho1, hf⟩ := bd_e hf
    refine w_Vi0 (wc := (wN cI cJ cZ n0 n1 n2 n3 n4 n5 n6 N_postCount N_roadCount_0 N_first N_second N_number N_allowed N_at_0 N_beside_0)) (wr := [(x0, .inr (7, [.ref n0, .ref q0, v_heapsOfNet, v_pickerOfNet, v_tallyOfNet])), (q0, .inr (5, [.int Q_side, .int Q_height, .ref q1, .ref q2, .ref q3])), (q1, .inl (cI, 81, .inl Q_cell)), (q2, .inl (cI, 9, .inl Q_taken)), (q3, .inl (cI, 512, .inl Q_ways))]) (rest := []) hx hb hml hg hown hK hA hI (kX3_removeLatest l D cI cJ cZ n0 n1 n2 n3 n4 n5 n6 N_postCount N_roadCount_0 N_first N_second N_number N_allowed N_at_0 N_beside_0  o1 ho1) kvX3_removeLatest wL_RX7_42 ⟨Nat.le_of_ble_eq_true rfl, Nat.le_of_ble_eq_true rfl⟩ rfl rfl [1, 2, 3, 4, 5, 6, 7] [0, 8, 9, 10, 11] rfl rfl rfl rfl (by decide) rfl rfl hl.1 (Nat.le_of_ble_eq_true rfl) dX7_drop_17 ⟨Nat.zero_le _, Nat.zero_le _⟩ ⟨rfl, rfl⟩ (fun r u H locs hp hI => ?_)
    replace hp : r = o1.1 := hp
    rw [hp]
    clear hp
    replace hI : WI D A s.heap (wX cI cJ cZ x0 n0 n1 n2 n3 n4 n5 n6 q0 q1 q2 q3 v_heapsOfNet v_pickerOfNet v_tallyOfNet N_postCount o1.2.1 N_first N_second N_number N_allowed o1.2.2.1 o1.2.2.2 Q_side Q_height Q_cell Q_taken Q_ways) H locs := hI.perm [0, 5, 6, 7, 8, 9, 10, 11, 1, 2, 3, 4] rfl rfl
    replace hf := Option.some.inj hf
    subst hf
    replace hM : (o1.1, o1.2.1, o1.2.2.1, o1.2.2.2) = out := hM
    subst hM
    exact rt_i (u := ()) hx hb hr hlocks rfl hI hAe rfl dX7_drop_20
  · replace hf := ite_t hc hf
    refine lv_bipush (v := -2) hx hb dX7_drop_10 (by decide) ?_
    replace hf := Option.some.inj hf
    subst hf
    replace hM : ((-2 : Int32), N_roadCount_0, N_at_0, N_beside_0) = out := hM
    subst hM
    exact rt_i (u := ()) hx hb hr hlocks rfl hI hAe rfl dX7_drop_12
noncomputable def FX7_paint (N_roadCount : Int32) (N_number_0 : Nat → Int32) (a1 : Int32) (a2 : Int32) : Option (Int32 × (Nat → Int32)) :=
  (FX3_hasRoad N_roadCount a1).bind (fun o1 => if o1 = (0 : Int32) then (some ((-2 : Int32), N_number_0)) else (if a2 < (-1 : Int32) then (some ((-2 : Int32), N_number_0)) else (if a2 < (16 : Int32) then (rd N_number_0 24 a1 (fun x2 => wr N_number_0 24 a1 a2 (fun g3 => some (x2, g3)))) else (some ((-2 : Int32), N_number_0)))))
abbrev GX7_paint (p : Program) (l : Launch) (e : Env) (s : State) (m : MethodId) (below : List Frame) (meth : Method) (c : Code) (D : va_G) (cI cJ cZ : ClassId) (x0 n0 n1 n2 n3 n4 n5 n6 q0 q1 q2 q3 : Nat) (v_heapsOfNet : Value) (v_pickerOfNet : Value) (v_tallyOfNet : Value) (N_postCount : Int32) (N_roadCount : Int32) (N_first : Nat → Int32) (N_second : Nat → Int32) (N_number_0 : Nat → Int32) (N_allowed : Nat → Int32) (N_at : Nat → Int32) (N_beside : Nat → Int32) (Q_side : Int32) (Q_height : Int32) (Q_cell : Nat → Int32) (Q_taken : Nat → Int32) (Q_ways : Nat → Int32) (a1 : Int32) (a2 : Int32) (out : Int32 × (Nat → Int32)) (H : Heap) (locs : List Loc) (g : JFrame) : Prop := W p l e (headSpec (Cond.code yX7_paint cX7_paint 4 (some .int) :: GW) { frames := 1, cells := 0, slots := 0, locals := 21 }).room s m ([.ref x0, .int a1, .int a2] : List Value).toArray below meth c H locs 0 0 (MQ below (va_Qi (fun r (_ : Unit) => r = out.1) (BW D (wX cI cJ cZ x0 n0 n1 n2 n3 n4 n5 n6 q0 q1 q2 q3 v_heapsOfNet v_pickerOfNet v_tallyOfNet N_postCount N_roadCount N_first N_second N_number_0 N_allowed N_at N_beside Q_side Q_height Q_cell Q_taken Q_ways) s.heap.size (fun _ => (wX cI cJ cZ x0 n0 n1 n2 n3 n4 n5 n6 q0 q1 q2 q3 v_heapsOfNet v_pickerOfNet v_tallyOfNet N_postCount N_roadCount N_first N_second out.2 N_allowed N_at N_beside Q_side Q_height Q_cell Q_taken Q_ways))) (va_A (wX cI cJ cZ x0 n0 n1 n2 n3 n4 n5 n6 q0 q1 q2 q3 v_heapsOfNet v_pickerOfNet v_tallyOfNet N_postCount N_roadCount N_first N_second N_number_0 N_allowed N_at N_beside Q_side Q_height Q_cell Q_taken Q_ways) s.heap.size)) ([.ref x0, .int a1, .int a2] : List Value).toArray s 0 0 (va_A (wX cI cJ cZ x0 n0 n1 n2 n3 n4 n5 n6 q0 q1 q2 q3 v_heapsOfNet v_pickerOfNet v_tallyOfNet N_postCount N_roadCount N_first N_second N_number_0 N_allowed N_at N_beside Q_side Q_height Q_cell Q_taken Q_ways) s.heap.size)) g
theorem kvX7_paint : CalV RX7 yX7_paint cX7_paint 4 (some .int) 2 := ⟨wC_yX7_paint, wM_yX7_paint, wS_yX7_paint, wI_RX7, by decide +kernel⟩
set_option maxHeartbeats 4000000 in
set_option maxRecDepth 100000 in
theorem kX7_paint (l : Launch) (D : va_G) (cI cJ cZ : ClassId) (x0 n0 n1 n2 n3 n4 n5 n6 q0 q1 q2 q3 : Nat) (v_heapsOfNet : Value) (v_pickerOfNet : Value) (v_tallyOfNet : Value) (N_postCount : Int32) (N_roadCount : Int32) (N_first : Nat → Int32) (N_second : Nat → Int32) (N_number_0 : Nat → Int32) (N_allowed : Nat → Int32) (N_at : Nat → Int32) (N_beside : Nat → Int32) (Q_side : Int32) (Q_height : Int32) (Q_cell : Nat → Int32) (Q_taken : Nat → Int32) (Q_ways : Nat → Int32) (a1 : Int32) (a2 : Int32) (out : Int32 × (Nat → Int32)) (hf : FX7_paint N_roadCount N_number_0 a1 a2 = some out) : MI l yX7_paint (Cond.code yX7_paint cX7_paint 4 (some .int) :: GW) { frames := 1, cells := 0, slots := 0, locals := 21 } D cI cJ cZ [.ref x0, .int a1, .int a2] (wX cI cJ cZ x0 n0 n1 n2 n3 n4 n5 n6 q0 q1 q2 q3 v_heapsOfNet v_pickerOfNet v_tallyOfNet N_postCount N_roadCount N_first N_second N_number_0 N_allowed N_at N_beside Q_side Q_height Q_cell Q_taken Q_ways) (fun r (_ : Unit) => r = out.1) (fun _ => (wX cI cJ cZ x0 n0 n1 n2 n3 n4 n5 n6 q0 q1 q2 q3 v_heapsOfNet v_pickerOfNet v_tallyOfNet N_postCount N_roadCount N_first N_second out.2 N_allowed N_at N_beside Q_side Q_height Q_cell Q_taken Q_ways)) := by
  intro sz
  refine Met.ofW (cc := cX7_paint) (maxL := 4) (ret := (some .int)) (by decide +kernel) rfl ?_
  intro p e s m args below meth c s₁ B hml hv
  obtain ⟨rfl, hsz, hP, hK, hD0⟩ := hv
  have hx := B.exec
  have hb := B.bytes
  have hr := B.returns
  have hlocks := B.notSynchronized
  have hg : ∀ w ∈ GW, w.before _ s = true := fun w h => atoms_spec (ws := Cond.code yX7_paint cX7_paint 4 (some .int) :: GW) B.pre w (List.mem_cons_of_mem _ h)
  have hown : s.vm.findClass RX7 = some m.cls := findClass_of_methodNamed B.named
  subst hsz
  obtain ⟨A, hAe⟩ : ∃ A, A = va_A (wX cI cJ cZ x0 n0 n1 n2 n3 n4 n5 n6 q0 q1 q2 q3 v_heapsOfNet v_pickerOfNet v_tallyOfNet N_postCount N_roadCount N_first N_second N_number_0 N_allowed N_at N_beside Q_side Q_height Q_cell Q_taken Q_ways) s.heap.size := ⟨_, rfl⟩
  have hA : ∀ q : Nat, s.heap.size ≤ q → A q := fun q h => by rw [hAe]; exact Or.inr h
  have hI : WI D A s.heap (wX cI cJ cZ x0 n0 n1 n2 n3 n4 n5 n6 q0 q1 q2 q3 v_heapsOfNet v_pickerOfNet v_tallyOfNet N_postCount N_roadCount N_first N_second N_number_0 N_allowed N_at N_beside Q_side Q_height Q_cell Q_taken Q_ways) s.heap [] := ⟨hP, by rw [hAe]; exact hD0.self, va_S.rf⟩
  have hl := lv_entry [.ref x0, .int a1, .int a2] (n := 4) (Nat.le_of_ble_eq_true rfl)
  rw [lg_entry_eq]
  generalize (lg_sl [.ref x0, .int a1, .int a2] ++ List.replicate (4 - (lg_sl [.ref x0, .int a1, .int a2]).length) Slot.unset).toArray = ls at hl ⊢
  replace hl : lv_has ls 4 [(0, .ref x0), (1, .int a1), (2, .int a2)] := hl
  obtain ⟨x, hf, hM⟩ : ∃ x, FX7_paint N_roadCount N_number_0 a1 a2 = some x ∧ x = out := ⟨out, hf, rfl⟩
  refine lv_aload_n hx hb dX7_paint_0 rfl (lv_at hl 0 rfl) ?_
  refine w_get hx hb hg hown hK hI iX7 0 rfl rfl 0 (by decide) wF_RX7_12 rfl dX7_paint_1 ?_
  refine lv_iload_n hx hb dX7_paint_4 rfl (lv_at hl 1 rfl) ?_
  obtain ⟨o1, ho1, hf⟩ := bd_e hf
  refine w_Vi0 (wc := (wN cI cJ cZ n0 n1 n2 n3 n4 n5 n6 N_postCount N_roadCount N_first N_second N_number_0 N_allowed N_at N_beside)) (wr := [(x0, .inr (7, [.ref n0, .ref q0, v_heapsOfNet, v_pickerOfNet, v_tallyOfNet])), (q0, .inr (5, [.int Q_side, .int Q_height, .ref q1, .ref q2, .ref q3])), (q1, .inl (cI, 81, .inl Q_cell)), (q2, .inl (cI, 9, .inl Q_taken)), (q3, .inl (cI, 512, .inl Q_ways))]) (rest := []) hx hb hml hg hown hK hA hI (kX3_hasRoad l D cI cJ cZ n0 n1 n2 n3 n4 n5 n6 N_postCount N_roadCount N_first N_second N_number_0 N_allowed N_at N_beside a1 o1 ho1) kvX3_hasRoad wL_RX7_45 ⟨Nat.le_of_ble_eq_true rfl, Nat.le_of_ble_eq_true rfl⟩ rfl rfl [1, 2, 3, 4, 5, 6, 7] [0, 8, 9, 10, 11] rfl rfl rfl rfl (by decide) rfl rfl hl.1 (Nat.le_of_ble_eq_true rfl) dX7_paint_5 ⟨Nat.zero_le _, Nat.zero_le _⟩ ⟨rfl, rfl⟩ (fun r u H locs hp hI => ?_)
  replace hp : r = o1 := hp
  rw [hp]
  clear hp
  replace hI : WI D A s.heap (wX cI cJ cZ x0 n0 n1 n2 n3 n4 n5 n6 q0 q1 q2 q3 v_heapsOfNet v_pickerOfNet v_tallyOfNet N_postCount N_roadCount N_first N_second N_number_0 N_allowed N_at N_beside Q_side Q_height Q_cell Q_taken Q_ways) H locs := hI.perm [0, 5, 6, 7, 8, 9, 10, 11, 1, 2, 3, 4] rfl rfl
  refine lv_if_eq (tgt := 22) hx hb dX7_paint_8 (by decide) (fun hc => ?_) (fun hc => ?_)
  · replace hf := ite_t hc hf
    refine lv_bipush (v := -2) hx hb dX7_paint_22 (by decide) ?_
    replace hf := Option.some.inj hf
    subst hf
    replace hM : ((-2 : Int32), N_number_0) = out := hM
    subst hM
    exact rt_i (u := ()) hx hb hr hlocks rfl hI hAe rfl dX7_paint_24
  · replace hf := ite_f hc hf
    refine lv_iload_n hx hb dX7_paint_11 rfl (lv_at hl 2 rfl) ?_
    refine lv_iconst (v := -1) hx hb dX7_paint_12 (by decide) ?_
    refine lv_icmp_lt (tgt := 22) hx hb dX7_paint_13 (by decide) (fun hc => ?_) (fun hc => ?_)
    · replace hf := ite_t hc hf
      refine lv_bipush (v := -2) hx hb dX7_paint_22 (by decide) ?_
      replace hf := Option.some.inj hf
      subst hf
      replace hM : ((-2 : Int32), N_number_0) = out := hM
      subst hM
      exact rt_i (u := ()) hx hb hr hlocks rfl hI hAe rfl dX7_paint_24
    · replace hf := ite_f hc hf
      refine lv_iload_n hx hb dX7_paint_16 rfl (lv_at hl 2 rfl) ?_
      refine lv_bipush (v := 16) hx hb dX7_paint_17 (by decide) ?_
      refine lv_icmp_lt (tgt := 25) hx hb dX7_paint_19 (by decide) (fun hc => ?_) (fun hc => ?_)
      · replace hf := ite_t hc hf
        refine lv_aload_n hx hb dX7_paint_25 rfl (lv_at hl 0 rfl) ?_
        refine w_get hx hb hg hown hK hI iX7 0 rfl rfl 0 (by decide) wF_RX7_12 rfl dX7_paint_26 ?_
        refine w_get hx hb hg hown hK hI iX3 1 rfl rfl 4 (by decide) wF_RX7_48 rfl dX7_paint_29 ?_
        refine lv_iload_n hx hb dX7_paint_32 rfl (lv_at hl 1 rfl) ?_
        obtain ⟨hin, hf⟩ := rd_e hf
        refine w_iald hx hb hK hI 4 rfl hin dX7_paint_33 (fun x2 ex2 => ?_)
        replace hf := hf x2 ex2
        refine lv_istore_n (lv' := [(3, .int x2), (0, .ref x0), (1, .int a1), (2, .int a2)]) hx hb dX7_paint_34 rfl hl (by decide) rfl (fun ls hl => ?_)
        refine lv_aload_n hx hb dX7_paint_35 rfl (lv_at hl 1 rfl) ?_
        refine w_get hx hb hg hown hK hI iX7 0 rfl rfl 0 (by decide) wF_RX7_12 rfl dX7_paint_36 ?_
        refine w_get hx hb hg hown hK hI iX3 1 rfl rfl 4 (by decide) wF_RX7_48 rfl dX7_paint_39 ?_
        refine lv_iload_n hx hb dX7_paint_42 rfl (lv_at hl 2 rfl) ?_
        refine lv_iload_n hx hb dX7_paint_43 rfl (lv_at hl 3 rfl) ?_
        obtain ⟨hin, hf⟩ := wr_e hf
        obtain ⟨g3, eg3⟩ : ∃ g : Nat → Int32, g = upd N_number_0 (a1).toNatClampNeg a2 := ⟨_, rfl⟩
        replace hf := hf g3 eg3
        refine w_iast (g := g3) (W1 := (wX cI cJ cZ x0 n0 n1 n2 n3 n4 n5 n6 q0 q1 q2 q3 v_heapsOfNet v_pickerOfNet v_tallyOfNet N_postCount N_roadCount N_first N_second g3 N_allowed N_at N_beside Q_side Q_height Q_cell Q_taken Q_ways)) hx hb hK hI 4 rfl hin eg3 dX7_paint_44 rfl (fun H locs hI => ?_)
        refine lv_iload_n hx hb dX7_paint_45 rfl (lv_at hl 0 rfl) ?_
        replace hf := Option.some.inj hf
        subst hf
        replace hM : (x2, g3) = out := hM
        subst hM
        exact rt_i (u := ()) hx hb hr hlocks rfl hI hAe rfl dX7_paint_46
      · replace hf := ite_f hc hf
        refine lv_bipush (v := -2) hx hb dX7_paint_22 (by decide) ?_
        replace hf := Option.some.inj hf
        subst hf
        replace hM : ((-2 : Int32), N_number_0) = out := hM
        subst hM
        exact rt_i (u := ()) hx hb hr hlocks rfl hI hAe rfl dX7_paint_24
noncomputable def FX7_wash (N_roadCount : Int32) (N_number_0 : Nat → Int32)  : Option (Int32 × (Nat → Int32)) :=
  (FX3_numberedRoads N_roadCount N_number_0).bind (fun o1 => (FX3_forgetNumbers N_roadCount N_number_0).bind (fun o2 => some (o1, o2)))
abbrev GX7_wash (p : Program) (l : Launch) (e : Env) (s : State) (m : MethodId) (below : List Frame) (meth : Method) (c : Code) (D : va_G) (cI cJ cZ : ClassId) (x0 n0 n1 n2 n3 n4 n5 n6 q0 q1 q2 q3 : Nat) (v_heapsOfNet : Value) (v_pickerOfNet : Value) (v_tallyOfNet : Value) (N_postCount : Int32) (N_roadCount : Int32) (N_first : Nat → Int32) (N_second : Nat → Int32) (N_number_0 : Nat → Int32) (N_allowed : Nat → Int32) (N_at : Nat → Int32) (N_beside : Nat → Int32) (Q_side : Int32) (Q_height : Int32) (Q_cell : Nat → Int32) (Q_taken : Nat → Int32) (Q_ways : Nat → Int32)  (out : Int32 × (Nat → Int32)) (H : Heap) (locs : List Loc) (g : JFrame) : Prop := W p l e (headSpec (Cond.code yX7_wash cX7_wash 2 (some .int) :: GW) { frames := 1, cells := 0, slots := 0, locals := 22 }).room s m ([.ref x0] : List Value).toArray below meth c H locs 0 0 (MQ below (va_Qi (fun r (_ : Unit) => r = out.1) (BW D (wX cI cJ cZ x0 n0 n1 n2 n3 n4 n5 n6 q0 q1 q2 q3 v_heapsOfNet v_pickerOfNet v_tallyOfNet N_postCount N_roadCount N_first N_second N_number_0 N_allowed N_at N_beside Q_side Q_height Q_cell Q_taken Q_ways) s.heap.size (fun _ => (wX cI cJ cZ x0 n0 n1 n2 n3 n4 n5 n6 q0 q1 q2 q3 v_heapsOfNet v_pickerOfNet v_tallyOfNet N_postCount N_roadCount N_first N_second out.2 N_allowed N_at N_beside Q_side Q_height Q_cell Q_taken Q_ways))) (va_A (wX cI cJ cZ x0 n0 n1 n2 n3 n4 n5 n6 q0 q1 q2 q3 v_heapsOfNet v_pickerOfNet v_tallyOfNet N_postCount N_roadCount N_first N_second N_number_0 N_allowed N_at N_beside Q_side Q_height Q_cell Q_taken Q_ways) s.heap.size)) ([.ref x0] : List Value).toArray s 0 0 (va_A (wX cI cJ cZ x0 n0 n1 n2 n3 n4 n5 n6 q0 q1 q2 q3 v_heapsOfNet v_pickerOfNet v_tallyOfNet N_postCount N_roadCount N_first N_second N_number_0 N_allowed N_at N_beside Q_side Q_height Q_cell Q_taken Q_ways) s.heap.size)) g
theorem kvX7_wash : CalV RX7 yX7_wash cX7_wash 2 (some .int) 0 := ⟨wC_yX7_wash, wM_yX7_wash, wS_yX7_wash, wI_RX7, by decide +kernel⟩
set_option maxHeartbeats 4000000 in
set_option maxRecDepth 100000 in
theorem kX7_wash (l : Launch) (D : va_G) (cI cJ cZ : ClassId) (x0 n0 n1 n2 n3 n4 n5 n6 q0 q1 q2 q3 : Nat) (v_heapsOfNet : Value) (v_pickerOfNet : Value) (v_tallyOfNet : Value) (N_postCount : Int32) (N_roadCount : Int32) (N_first : Nat → Int32) (N_second : Nat → Int32) (N_number_0 : Nat → Int32) (N_allowed : Nat → Int32) (N_at : Nat → Int32) (N_beside : Nat → Int32) (Q_side : Int32) (Q_height : Int32) (Q_cell : Nat → Int32) (Q_taken : Nat → Int32) (Q_ways : Nat → Int32)  (out : Int32 × (Nat → Int32)) (hf : FX7_wash N_roadCount N_number_0 = some out) : MI l yX7_wash (Cond.code yX7_wash cX7_wash 2 (some .int) :: GW) { frames := 1, cells := 0, slots := 0, locals := 22 } D cI cJ cZ [.ref x0] (wX cI cJ cZ x0 n0 n1 n2 n3 n4 n5 n6 q0 q1 q2 q3 v_heapsOfNet v_pickerOfNet v_tallyOfNet N_postCount N_roadCount N_first N_second N_number_0 N_allowed N_at N_beside Q_side Q_height Q_cell Q_taken Q_ways) (fun r (_ : Unit) => r = out.1) (fun _ => (wX cI cJ cZ x0 n0 n1 n2 n3 n4 n5 n6 q0 q1 q2 q3 v_heapsOfNet v_pickerOfNet v_tallyOfNet N_postCount N_roadCount N_first N_second out.2 N_allowed N_at N_beside Q_side Q_height Q_cell Q_taken Q_ways)) := by
  intro sz
  refine Met.ofW (cc := cX7_wash) (maxL := 2) (ret := (some .int)) (by decide +kernel) rfl ?_
  intro p e s m args below meth c s₁ B hml hv
  obtain ⟨rfl, hsz, hP, hK, hD0⟩ := hv
  have hx := B.exec
  have hb := B.bytes
  have hr := B.returns
  have hlocks := B.notSynchronized
  have hg : ∀ w ∈ GW, w.before _ s = true := fun w h => atoms_spec (ws := Cond.code yX7_wash cX7_wash 2 (some .int) :: GW) B.pre w (List.mem_cons_of_mem _ h)
  have hown : s.vm.findClass RX7 = some m.cls := findClass_of_methodNamed B.named
  subst hsz
  obtain ⟨A, hAe⟩ : ∃ A, A = va_A (wX cI cJ cZ x0 n0 n1 n2 n3 n4 n5 n6 q0 q1 q2 q3 v_heapsOfNet v_pickerOfNet v_tallyOfNet N_postCount N_roadCount N_first N_second N_number_0 N_allowed N_at N_beside Q_side Q_height Q_cell Q_taken Q_ways) s.heap.size := ⟨_, rfl⟩
  have hA : ∀ q : Nat, s.heap.size ≤ q → A q := fun q h => by rw [hAe]; exact Or.inr h
  have hI : WI D A s.heap (wX cI cJ cZ x0 n0 n1 n2 n3 n4 n5 n6 q0 q1 q2 q3 v_heapsOfNet v_pickerOfNet v_tallyOfNet N_postCount N_roadCount N_first N_second N_number_0 N_allowed N_at N_beside Q_side Q_height Q_cell Q_taken Q_ways) s.heap [] := ⟨hP, by rw [hAe]; exact hD0.self, va_S.rf⟩
  have hl := lv_entry [.ref x0] (n := 2) (Nat.le_of_ble_eq_true rfl)
  rw [lg_entry_eq]
  generalize (lg_sl [.ref x0] ++ List.replicate (2 - (lg_sl [.ref x0]).length) Slot.unset).toArray = ls at hl ⊢
  replace hl : lv_has ls 2 [(0, .ref x0)] := hl
  obtain ⟨x, hf, hM⟩ : ∃ x, FX7_wash N_roadCount N_number_0 = some x ∧ x = out := ⟨out, hf, rfl⟩
  refine lv_aload_n hx hb dX7_wash_0 rfl (lv_at hl 0 rfl) ?_
  refine w_get hx hb hg hown hK hI iX7 0 rfl rfl 0 (by decide) wF_RX7_12 rfl dX7_wash_1 ?_
  obtain ⟨o1, ho1, hf⟩ := bd_e hf
  refine w_Vi0 (wc := (wN cI cJ cZ n0 n1 n2 n3 n4 n5 n6 N_postCount N_roadCount N_first N_second N_number_0 N_allowed N_at N_beside)) (wr := [(x0, .inr (7, [.ref n0, .ref q0, v_heapsOfNet, v_pickerOfNet, v_tallyOfNet])), (q0, .inr (5, [.int Q_side, .int Q_height, .ref q1, .ref q2, .ref q3])), (q1, .inl (cI, 81, .inl Q_cell)), (q2, .inl (cI, 9, .inl Q_taken)), (q3, .inl (cI, 512, .inl Q_ways))]) (rest := []) hx hb hml hg hown hK hA hI (kX3_numberedRoads l D cI cJ cZ n0 n1 n2 n3 n4 n5 n6 N_postCount N_roadCount N_first N_second N_number_0 N_allowed N_at N_beside  o1 ho1) kvX3_numberedRoads wL_RX7_52 ⟨Nat.le_of_ble_eq_true rfl, Nat.le_of_ble_eq_true rfl⟩ rfl rfl [1, 2, 3, 4, 5, 6, 7] [0, 8, 9, 10, 11] rfl rfl rfl rfl (by decide) rfl rfl hl.1 (Nat.le_of_ble_eq_true rfl) dX7_wash_4 ⟨Nat.zero_le _, Nat.zero_le _⟩ ⟨rfl, rfl⟩ (fun r u H locs hp hI => ?_)
  replace hp : r = o1 := hp
  rw [hp]
  clear hp
  replace hI : WI D A s.heap (wX cI cJ cZ x0 n0 n1 n2 n3 n4 n5 n6 q0 q1 q2 q3 v_heapsOfNet v_pickerOfNet v_tallyOfNet N_postCount N_roadCount N_first N_second N_number_0 N_allowed N_at N_beside Q_side Q_height Q_cell Q_taken Q_ways) H locs := hI.perm [0, 5, 6, 7, 8, 9, 10, 11, 1, 2, 3, 4] rfl rfl
  refine lv_istore_n (lv' := [(1, .int o1), (0, .ref x0)]) hx hb dX7_wash_7 rfl hl (by decide) rfl (fun ls hl => ?_)
  refine lv_aload_n hx hb dX7_wash_8 rfl (lv_at hl 1 rfl) ?_
  refine w_get hx hb hg hown hK hI iX7 0 rfl rfl 0 (by decide) wF_RX7_12 rfl dX7_wash_9 ?_
  obtain ⟨o2, ho2, hf⟩ := bd_e hf
  refine w_Vv0 (wc := (wN cI cJ cZ n0 n1 n2 n3 n4 n5 n6 N_postCount N_roadCount N_first N_second N_number_0 N_allowed N_at N_beside)) (wr := [(x0, .inr (7, [.ref n0, .ref q0, v_heapsOfNet, v_pickerOfNet, v_tallyOfNet])), (q0, .inr (5, [.int Q_side, .int Q_height, .ref q1, .ref q2, .ref q3])), (q1, .inl (cI, 81, .inl Q_cell)), (q2, .inl (cI, 9, .inl Q_taken)), (q3, .inl (cI, 512, .inl Q_ways))]) (rest := []) hx hb hml hg hown hK hA hI (kX3_forgetNumbers l D cI cJ cZ n0 n1 n2 n3 n4 n5 n6 N_postCount N_roadCount N_first N_second N_number_0 N_allowed N_at N_beside  o2 ho2) kvX3_forgetNumbers wL_RX7_55 ⟨Nat.le_of_ble_eq_true rfl, Nat.le_of_ble_eq_true rfl⟩ rfl rfl [1, 2, 3, 4, 5, 6, 7] [0, 8, 9, 10, 11] rfl rfl rfl rfl (by decide) rfl rfl hl.1 (Nat.le_of_ble_eq_true rfl) dX7_wash_12 ⟨Nat.zero_le _, Nat.zero_le _⟩ ⟨rfl, rfl⟩ (fun  u H locs hp hI => ?_)
  replace hI : WI D A s.heap (wX cI cJ cZ x0 n0 n1 n2 n3 n4 n5 n6 q0 q1 q2 q3 v_heapsOfNet v_pickerOfNet v_tallyOfNet N_postCount N_roadCount N_first N_second o2 N_allowed N_at N_beside Q_side Q_height Q_cell Q_taken Q_ways) H locs := hI.perm [0, 5, 6, 7, 8, 9, 10, 11, 1, 2, 3, 4] rfl rfl
  refine lv_iload_n hx hb dX7_wash_15 rfl (lv_at hl 0 rfl) ?_
  replace hf := Option.some.inj hf
  subst hf
  replace hM : (o1, o2) = out := hM
  subst hM
  exact rt_i (u := ()) hx hb hr hlocks rfl hI hAe rfl dX7_wash_16
noncomputable def FX7_of (N_roadCount : Int32) (N_first : Nat → Int32) (N_second : Nat → Int32) (N_number : Nat → Int32) (N_allowed : Nat → Int32) (a1 : Int32) (a2 : Int32) : Option (Int32) :=
  (FX3_hasRoad N_roadCount a1).bind (fun o1 => if o1 = (0 : Int32) then (some (-2 : Int32)) else (if a2 = (0 : Int32) then (rd N_first 24 a1 (fun x2 => some x2)) else if a2 = (1 : Int32) then (rd N_second 24 a1 (fun x3 => some x3)) else if a2 = (2 : Int32) then (rd N_number 24 a1 (fun x4 => some x4)) else if a2 = (3 : Int32) then (rd N_allowed 24 a1 (fun x5 => some x5)) else (some (-2 : Int32))))
abbrev GX7_of (p : Program) (l : Launch) (e : Env) (s : State) (m : MethodId) (below : List Frame) (meth : Method) (c : Code) (D : va_G) (cI cJ cZ : ClassId) (x0 n0 n1 n2 n3 n4 n5 n6 q0 q1 q2 q3 : Nat) (v_heapsOfNet : Value) (v_pickerOfNet : Value) (v_tallyOfNet : Value) (N_postCount : Int32) (N_roadCount : Int32) (N_first : Nat → Int32) (N_second : Nat → Int32) (N_number : Nat → Int32) (N_allowed : Nat → Int32) (N_at : Nat → Int32) (N_beside : Nat → Int32) (Q_side : Int32) (Q_height : Int32) (Q_cell : Nat → Int32) (Q_taken : Nat → Int32) (Q_ways : Nat → Int32) (a1 : Int32) (a2 : Int32) (out : Int32) (H : Heap) (locs : List Loc) (g : JFrame) : Prop := W p l e (headSpec (Cond.code yX7_of cX7_of 3 (some .int) :: GW) { frames := 1, cells := 0, slots := 0, locals := 21 }).room s m ([.ref x0, .int a1, .int a2] : List Value).toArray below meth c H locs 0 0 (MQ below (va_Qi (fun r (_ : Unit) => r = out) (BW D (wX cI cJ cZ x0 n0 n1 n2 n3 n4 n5 n6 q0 q1 q2 q3 v_heapsOfNet v_pickerOfNet v_tallyOfNet N_postCount N_roadCount N_first N_second N_number N_allowed N_at N_beside Q_side Q_height Q_cell Q_taken Q_ways) s.heap.size (fun _ => (wX cI cJ cZ x0 n0 n1 n2 n3 n4 n5 n6 q0 q1 q2 q3 v_heapsOfNet v_pickerOfNet v_tallyOfNet N_postCount N_roadCount N_first N_second N_number N_allowed N_at N_beside Q_side Q_height Q_cell Q_taken Q_ways))) (va_A (wX cI cJ cZ x0 n0 n1 n2 n3 n4 n5 n6 q0 q1 q2 q3 v_heapsOfNet v_pickerOfNet v_tallyOfNet N_postCount N_roadCount N_first N_second N_number N_allowed N_at N_beside Q_side Q_height Q_cell Q_taken Q_ways) s.heap.size)) ([.ref x0, .int a1, .int a2] : List Value).toArray s 0 0 (va_A (wX cI cJ cZ x0 n0 n1 n2 n3 n4 n5 n6 q0 q1 q2 q3 v_heapsOfNet v_pickerOfNet v_tallyOfNet N_postCount N_roadCount N_first N_second N_number N_allowed N_at N_beside Q_side Q_height Q_cell Q_taken Q_ways) s.heap.size)) g
theorem kvX7_of : CalV RX7 yX7_of cX7_of 3 (some .int) 2 := ⟨wC_yX7_of, wM_yX7_of, wS_yX7_of, wI_RX7, by decide +kernel⟩
set_option maxHeartbeats 4000000 in
set_option maxRecDepth 100000 in
theorem kX7_of (l : Launch) (D : va_G) (cI cJ cZ : ClassId) (x0 n0 n1 n2 n3 n4 n5 n6 q0 q1 q2 q3 : Nat) (v_heapsOfNet : Value) (v_pickerOfNet : Value) (v_tallyOfNet : Value) (N_postCount : Int32) (N_roadCount : Int32) (N_first : Nat → Int32) (N_second : Nat → Int32) (N_number : Nat → Int32) (N_allowed : Nat → Int32) (N_at : Nat → Int32) (N_beside : Nat → Int32) (Q_side : Int32) (Q_height : Int32) (Q_cell : Nat → Int32) (Q_taken : Nat → Int32) (Q_ways : Nat → Int32) (a1 : Int32) (a2 : Int32) (out : Int32) (hf : FX7_of N_roadCount N_first N_second N_number N_allowed a1 a2 = some out) : MI l yX7_of (Cond.code yX7_of cX7_of 3 (some .int) :: GW) { frames := 1, cells := 0, slots := 0, locals := 21 } D cI cJ cZ [.ref x0, .int a1, .int a2] (wX cI cJ cZ x0 n0 n1 n2 n3 n4 n5 n6 q0 q1 q2 q3 v_heapsOfNet v_pickerOfNet v_tallyOfNet N_postCount N_roadCount N_first N_second N_number N_allowed N_at N_beside Q_side Q_height Q_cell Q_taken Q_ways) (fun r (_ : Unit) => r = out) (fun _ => (wX cI cJ cZ x0 n0 n1 n2 n3 n4 n5 n6 q0 q1 q2 q3 v_heapsOfNet v_pickerOfNet v_tallyOfNet N_postCount N_roadCount N_first N_second N_number N_allowed N_at N_beside Q_side Q_height Q_cell Q_taken Q_ways)) := by
  intro sz
  refine Met.ofW (cc := cX7_of) (maxL := 3) (ret := (some .int)) (by decide +kernel) rfl ?_
  intro p e s m args below meth c s₁ B hml hv
  obtain ⟨rfl, hsz, hP, hK, hD0⟩ := hv
  have hx := B.exec
  have hb := B.bytes
  have hr := B.returns
  have hlocks := B.notSynchronized
  have hg : ∀ w ∈ GW, w.before _ s = true := fun w h => atoms_spec (ws := Cond.code yX7_of cX7_of 3 (some .int) :: GW) B.pre w (List.mem_cons_of_mem _ h)
  have hown : s.vm.findClass RX7 = some m.cls := findClass_of_methodNamed B.named
  subst hsz
  obtain ⟨A, hAe⟩ : ∃ A, A = va_A (wX cI cJ cZ x0 n0 n1 n2 n3 n4 n5 n6 q0 q1 q2 q3 v_heapsOfNet v_pickerOfNet v_tallyOfNet N_postCount N_roadCount N_first N_second N_number N_allowed N_at N_beside Q_side Q_height Q_cell Q_taken Q_ways) s.heap.size := ⟨_, rfl⟩
  have hA : ∀ q : Nat, s.heap.size ≤ q → A q := fun q h => by rw [hAe]; exact Or.inr h
  have hI : WI D A s.heap (wX cI cJ cZ x0 n0 n1 n2 n3 n4 n5 n6 q0 q1 q2 q3 v_heapsOfNet v_pickerOfNet v_tallyOfNet N_postCount N_roadCount N_first N_second N_number N_allowed N_at N_beside Q_side Q_height Q_cell Q_taken Q_ways) s.heap [] := ⟨hP, by rw [hAe]; exact hD0.self, va_S.rf⟩
  have hl := lv_entry [.ref x0, .int a1, .int a2] (n := 3) (Nat.le_of_ble_eq_true rfl)
  rw [lg_entry_eq]
  generalize (lg_sl [.ref x0, .int a1, .int a2] ++ List.replicate (3 - (lg_sl [.ref x0, .int a1, .int a2]).length) Slot.unset).toArray = ls at hl ⊢
  replace hl : lv_has ls 3 [(0, .ref x0), (1, .int a1), (2, .int a2)] := hl
  obtain ⟨x, hf, hM⟩ : ∃ x, FX7_of N_roadCount N_first N_second N_number N_allowed a1 a2 = some x ∧ x = out := ⟨out, hf, rfl⟩
  refine lv_aload_n hx hb dX7_of_0 rfl (lv_at hl 0 rfl) ?_
  refine w_get hx hb hg hown hK hI iX7 0 rfl rfl 0 (by decide) wF_RX7_12 rfl dX7_of_1 ?_
  refine lv_iload_n hx hb dX7_of_4 rfl (lv_at hl 1 rfl) ?_
  obtain ⟨o1, ho1, hf⟩ := bd_e hf
  refine w_Vi0 (wc := (wN cI cJ cZ n0 n1 n2 n3 n4 n5 n6 N_postCount N_roadCount N_first N_second N_number N_allowed N_at N_beside)) (wr := [(x0, .inr (7, [.ref n0, .ref q0, v_heapsOfNet, v_pickerOfNet, v_tallyOfNet])), (q0, .inr (5, [.int Q_side, .int Q_height, .ref q1, .ref q2, .ref q3])), (q1, .inl (cI, 81, .inl Q_cell)), (q2, .inl (cI, 9, .inl Q_taken)), (q3, .inl (cI, 512, .inl Q_ways))]) (rest := []) hx hb hml hg hown hK hA hI (kX3_hasRoad l D cI cJ cZ n0 n1 n2 n3 n4 n5 n6 N_postCount N_roadCount N_first N_second N_number N_allowed N_at N_beside a1 o1 ho1) kvX3_hasRoad wL_RX7_45 ⟨Nat.le_of_ble_eq_true rfl, Nat.le_of_ble_eq_true rfl⟩ rfl rfl [1, 2, 3, 4, 5, 6, 7] [0, 8, 9, 10, 11] rfl rfl rfl rfl (by decide) rfl rfl hl.1 (Nat.le_of_ble_eq_true rfl) dX7_of_5 ⟨Nat.zero_le _, Nat.zero_le _⟩ ⟨rfl, rfl⟩ (fun r u H locs hp hI => ?_)
  replace hp : r = o1 := hp
  rw [hp]
  clear hp
  replace hI : WI D A s.heap (wX cI cJ cZ x0 n0 n1 n2 n3 n4 n5 n6 q0 q1 q2 q3 v_heapsOfNet v_pickerOfNet v_tallyOfNet N_postCount N_roadCount N_first N_second N_number N_allowed N_at N_beside Q_side Q_height Q_cell Q_taken Q_ways) H locs := hI.perm [0, 5, 6, 7, 8, 9, 10, 11, 1, 2, 3, 4] rfl rfl
  refine lv_if_ne (tgt := 14) hx hb dX7_of_8 (by decide) (fun hc => ?_) (fun hc => ?_)
  · replace hf := ite_f hc hf
    refine lv_iload_n hx hb dX7_of_14 rfl (lv_at hl 2 rfl) ?_
    by_cases hc0 : a2 = (0 : Int32)
    · replace hf := ite_t hc0 hf
      refine lv_tableIn (tgt := 44) hx hb dX7_of_15 (by rw [hc0]; decide) (by rw [hc0]; decide) (by rw [hc0]; rfl) (by decide) ?_
      refine lv_aload_n hx hb dX7_of_44 rfl (lv_at hl 0 rfl) ?_
      refine w_get hx hb hg hown hK hI iX7 0 rfl rfl 0 (by decide) wF_RX7_12 rfl dX7_of_45 ?_
      refine w_get hx hb hg hown hK hI iX3 1 rfl rfl 2 (by decide) wF_RX7_58 rfl dX7_of_48 ?_
      refine lv_iload_n hx hb dX7_of_51 rfl (lv_at hl 1 rfl) ?_
      obtain ⟨hin, hf⟩ := rd_e hf
      refine w_iald hx hb hK hI 2 rfl hin dX7_of_52 (fun x2 ex2 => ?_)
      replace hf := hf x2 ex2
      replace hf := Option.some.inj hf
      subst hf
      replace hM : x2 = out := hM
      subst hM
      exact rt_i (u := ()) hx hb hr hlocks rfl hI hAe rfl dX7_of_53
    replace hf := ite_f hc0 hf
    by_cases hc1 : a2 = (1 : Int32)
    · replace hf := ite_t hc1 hf
      refine lv_tableIn (tgt := 54) hx hb dX7_of_15 (by rw [hc1]; decide) (by rw [hc1]; decide) (by rw [hc1]; rfl) (by decide) ?_
      refine lv_aload_n hx hb dX7_of_54 rfl (lv_at hl 0 rfl) ?_
      refine w_get hx hb hg hown hK hI iX7 0 rfl rfl 0 (by decide) wF_RX7_12 rfl dX7_of_55 ?_
      refine w_get hx hb hg hown hK hI iX3 1 rfl rfl 3 (by decide) wF_RX7_61 rfl dX7_of_58 ?_
      refine lv_iload_n hx hb dX7_of_61 rfl (lv_at hl 1 rfl) ?_
      obtain ⟨hin, hf⟩ := rd_e hf
      refine w_iald hx hb hK hI 3 rfl hin dX7_of_62 (fun x3 ex3 => ?_)
      replace hf := hf x3 ex3
      replace hf := Option.some.inj hf
      subst hf
      replace hM : x3 = out := hM
      subst hM
      exact rt_i (u := ()) hx hb hr hlocks rfl hI hAe rfl dX7_of_63
    replace hf := ite_f hc1 hf
    by_cases hc2 : a2 = (2 : Int32)
    · replace hf := ite_t hc2 hf
      refine lv_tableIn (tgt := 64) hx hb dX7_of_15 (by rw [hc2]; decide) (by rw [hc2]; decide) (by rw [hc2]; rfl) (by decide) ?_
      refine lv_aload_n hx hb dX7_of_64 rfl (lv_at hl 0 rfl) ?_
      refine w_get hx hb hg hown hK hI iX7 0 rfl rfl 0 (by decide) wF_RX7_12 rfl dX7_of_65 ?_
      refine w_get hx hb hg hown hK hI iX3 1 rfl rfl 4 (by decide) wF_RX7_48 rfl dX7_of_68 ?_
      refine lv_iload_n hx hb dX7_of_71 rfl (lv_at hl 1 rfl) ?_
      obtain ⟨hin, hf⟩ := rd_e hf
      refine w_iald hx hb hK hI 4 rfl hin dX7_of_72 (fun x4 ex4 => ?_)
      replace hf := hf x4 ex4
      replace hf := Option.some.inj hf
      subst hf
      replace hM : x4 = out := hM
      subst hM
      exact rt_i (u := ()) hx hb hr hlocks rfl hI hAe rfl dX7_of_73
    replace hf := ite_f hc2 hf
    by_cases hc3 : a2 = (3 : Int32)
    · replace hf := ite_t hc3 hf
      refine lv_tableIn (tgt := 74) hx hb dX7_of_15 (by rw [hc3]; decide) (by rw [hc3]; decide) (by rw [hc3]; rfl) (by decide) ?_
      refine lv_aload_n hx hb dX7_of_74 rfl (lv_at hl 0 rfl) ?_
      refine w_get hx hb hg hown hK hI iX7 0 rfl rfl 0 (by decide) wF_RX7_12 rfl dX7_of_75 ?_
      refine w_get hx hb hg hown hK hI iX3 1 rfl rfl 5 (by decide) wF_RX7_64 rfl dX7_of_78 ?_
      refine lv_iload_n hx hb dX7_of_81 rfl (lv_at hl 1 rfl) ?_
      obtain ⟨hin, hf⟩ := rd_e hf
      refine w_iald hx hb hK hI 5 rfl hin dX7_of_82 (fun x5 ex5 => ?_)
      replace hf := hf x5 ex5
      replace hf := Option.some.inj hf
      subst hf
      replace hM : x5 = out := hM
      subst hM
      exact rt_i (u := ()) hx hb hr hlocks rfl hI hAe rfl dX7_of_83
    replace hf := ite_f hc3 hf
    have hn0 := lv_neT (a := 0) hc0 (by decide)
    have hn1 := lv_neT (a := 1) hc1 (by decide)
    have hn2 := lv_neT (a := 2) hc2 (by decide)
    have hn3 := lv_neT (a := 3) hc3 (by decide)
    refine lv_tableOut (tgt := 84) hx hb dX7_of_15 (by omega) (by decide) ?_
    refine lv_bipush (v := -2) hx hb dX7_of_84 (by decide) ?_
    replace hf := Option.some.inj hf
    subst hf
    replace hM : (-2 : Int32) = out := hM
    subst hM
    exact rt_i (u := ()) hx hb hr hlocks rfl hI hAe rfl dX7_of_86
  · replace hf := ite_t hc hf
    refine lv_bipush (v := -2) hx hb dX7_of_11 (by decide) ?_
    replace hf := Option.some.inj hf
    subst hf
    replace hM : (-2 : Int32) = out := hM
    subst hM
    exact rt_i (u := ()) hx hb hr hlocks rfl hI hAe rfl dX7_of_13
noncomputable def FX7_roads (N_postCount : Int32) (N_at : Nat → Int32) (a1 : Int32) : Option (Int32) :=
  (FX3_hasPost N_postCount a1).bind (fun o1 => if o1 = (0 : Int32) then (some (-2 : Int32)) else (rd N_at 12 a1 (fun x2 => (FJ6_bitCount_0f7a4 x2).bind (fun x3 => some x3))))
abbrev GX7_roads (p : Program) (l : Launch) (e : Env) (s : State) (m : MethodId) (below : List Frame) (meth : Method) (c : Code) (D : va_G) (cI cJ cZ : ClassId) (x0 n0 n1 n2 n3 n4 n5 n6 q0 q1 q2 q3 : Nat) (v_heapsOfNet : Value) (v_pickerOfNet : Value) (v_tallyOfNet : Value) (N_postCount : Int32) (N_roadCount : Int32) (N_first : Nat → Int32) (N_second : Nat → Int32) (N_number : Nat → Int32) (N_allowed : Nat → Int32) (N_at : Nat → Int32) (N_beside : Nat → Int32) (Q_side : Int32) (Q_height : Int32) (Q_cell : Nat → Int32) (Q_taken : Nat → Int32) (Q_ways : Nat → Int32) (a1 : Int32) (out : Int32) (H : Heap) (locs : List Loc) (g : JFrame) : Prop := W p l e (headSpec (Cond.code yX7_roads cX7_roads 2 (some .int) :: GW) { frames := 1, cells := 0, slots := 0, locals := 21 }).room s m ([.ref x0, .int a1] : List Value).toArray below meth c H locs 0 0 (MQ below (va_Qi (fun r (_ : Unit) => r = out) (BW D (wX cI cJ cZ x0 n0 n1 n2 n3 n4 n5 n6 q0 q1 q2 q3 v_heapsOfNet v_pickerOfNet v_tallyOfNet N_postCount N_roadCount N_first N_second N_number N_allowed N_at N_beside Q_side Q_height Q_cell Q_taken Q_ways) s.heap.size (fun _ => (wX cI cJ cZ x0 n0 n1 n2 n3 n4 n5 n6 q0 q1 q2 q3 v_heapsOfNet v_pickerOfNet v_tallyOfNet N_postCount N_roadCount N_first N_second N_number N_allowed N_at N_beside Q_side Q_height Q_cell Q_taken Q_ways))) (va_A (wX cI cJ cZ x0 n0 n1 n2 n3 n4 n5 n6 q0 q1 q2 q3 v_heapsOfNet v_pickerOfNet v_tallyOfNet N_postCount N_roadCount N_first N_second N_number N_allowed N_at N_beside Q_side Q_height Q_cell Q_taken Q_ways) s.heap.size)) ([.ref x0, .int a1] : List Value).toArray s 0 0 (va_A (wX cI cJ cZ x0 n0 n1 n2 n3 n4 n5 n6 q0 q1 q2 q3 v_heapsOfNet v_pickerOfNet v_tallyOfNet N_postCount N_roadCount N_first N_second N_number N_allowed N_at N_beside Q_side Q_height Q_cell Q_taken Q_ways) s.heap.size)) g
theorem kvX7_roads : CalV RX7 yX7_roads cX7_roads 2 (some .int) 1 := ⟨wC_yX7_roads, wM_yX7_roads, wS_yX7_roads, wI_RX7, by decide +kernel⟩
set_option maxHeartbeats 4000000 in
set_option maxRecDepth 100000 in
theorem kX7_roads (l : Launch) (D : va_G) (cI cJ cZ : ClassId) (x0 n0 n1 n2 n3 n4 n5 n6 q0 q1 q2 q3 : Nat) (v_heapsOfNet : Value) (v_pickerOfNet : Value) (v_tallyOfNet : Value) (N_postCount : Int32) (N_roadCount : Int32) (N_first : Nat → Int32) (N_second : Nat → Int32) (N_number : Nat → Int32) (N_allowed : Nat → Int32) (N_at : Nat → Int32) (N_beside : Nat → Int32) (Q_side : Int32) (Q_height : Int32) (Q_cell : Nat → Int32) (Q_taken : Nat → Int32) (Q_ways : Nat → Int32) (a1 : Int32) (out : Int32) (hf : FX7_roads N_postCount N_at a1 = some out) : MI l yX7_roads (Cond.code yX7_roads cX7_roads 2 (some .int) :: GW) { frames := 1, cells := 0, slots := 0, locals := 21 } D cI cJ cZ [.ref x0, .int a1] (wX cI cJ cZ x0 n0 n1 n2 n3 n4 n5 n6 q0 q1 q2 q3 v_heapsOfNet v_pickerOfNet v_tallyOfNet N_postCount N_roadCount N_first N_second N_number N_allowed N_at N_beside Q_side Q_height Q_cell Q_taken Q_ways) (fun r (_ : Unit) => r = out) (fun _ => (wX cI cJ cZ x0 n0 n1 n2 n3 n4 n5 n6 q0 q1 q2 q3 v_heapsOfNet v_pickerOfNet v_tallyOfNet N_postCount N_roadCount N_first N_second N_number N_allowed N_at N_beside Q_side Q_height Q_cell Q_taken Q_ways)) := by
  intro sz
  refine Met.ofW (cc := cX7_roads) (maxL := 2) (ret := (some .int)) (by decide +kernel) rfl ?_
  intro p e s m args below meth c s₁ B hml hv
  obtain ⟨rfl, hsz, hP, hK, hD0⟩ := hv
  have hx := B.exec
  have hb := B.bytes
  have hr := B.returns
  have hlocks := B.notSynchronized
  have hg : ∀ w ∈ GW, w.before _ s = true := fun w h => atoms_spec (ws := Cond.code yX7_roads cX7_roads 2 (some .int) :: GW) B.pre w (List.mem_cons_of_mem _ h)
  have hown : s.vm.findClass RX7 = some m.cls := findClass_of_methodNamed B.named
  subst hsz
  obtain ⟨A, hAe⟩ : ∃ A, A = va_A (wX cI cJ cZ x0 n0 n1 n2 n3 n4 n5 n6 q0 q1 q2 q3 v_heapsOfNet v_pickerOfNet v_tallyOfNet N_postCount N_roadCount N_first N_second N_number N_allowed N_at N_beside Q_side Q_height Q_cell Q_taken Q_ways) s.heap.size := ⟨_, rfl⟩
  have hA : ∀ q : Nat, s.heap.size ≤ q → A q := fun q h => by rw [hAe]; exact Or.inr h
  have hI : WI D A s.heap (wX cI cJ cZ x0 n0 n1 n2 n3 n4 n5 n6 q0 q1 q2 q3 v_heapsOfNet v_pickerOfNet v_tallyOfNet N_postCount N_roadCount N_first N_second N_number N_allowed N_at N_beside Q_side Q_height Q_cell Q_taken Q_ways) s.heap [] := ⟨hP, by rw [hAe]; exact hD0.self, va_S.rf⟩
  have hl := lv_entry [.ref x0, .int a1] (n := 2) (Nat.le_of_ble_eq_true rfl)
  rw [lg_entry_eq]
  generalize (lg_sl [.ref x0, .int a1] ++ List.replicate (2 - (lg_sl [.ref x0, .int a1]).length) Slot.unset).toArray = ls at hl ⊢
  replace hl : lv_has ls 2 [(0, .ref x0), (1, .int a1)] := hl
  obtain ⟨x, hf, hM⟩ : ∃ x, FX7_roads N_postCount N_at a1 = some x ∧ x = out := ⟨out, hf, rfl⟩
  refine lv_aload_n hx hb dX7_roads_0 rfl (lv_at hl 0 rfl) ?_
  refine w_get hx hb hg hown hK hI iX7 0 rfl rfl 0 (by decide) wF_RX7_12 rfl dX7_roads_1 ?_
  refine lv_iload_n hx hb dX7_roads_4 rfl (lv_at hl 1 rfl) ?_
  obtain ⟨o1, ho1, hf⟩ := bd_e hf
  refine w_Vi0 (wc := (wN cI cJ cZ n0 n1 n2 n3 n4 n5 n6 N_postCount N_roadCount N_first N_second N_number N_allowed N_at N_beside)) (wr := [(x0, .inr (7, [.ref n0, .ref q0, v_heapsOfNet, v_pickerOfNet, v_tallyOfNet])), (q0, .inr (5, [.int Q_side, .int Q_height, .ref q1, .ref q2, .ref q3])), (q1, .inl (cI, 81, .inl Q_cell)), (q2, .inl (cI, 9, .inl Q_taken)), (q3, .inl (cI, 512, .inl Q_ways))]) (rest := []) hx hb hml hg hown hK hA hI (kX3_hasPost l D cI cJ cZ n0 n1 n2 n3 n4 n5 n6 N_postCount N_roadCount N_first N_second N_number N_allowed N_at N_beside a1 o1 ho1) kvX3_hasPost wL_RX7_31 ⟨Nat.le_of_ble_eq_true rfl, Nat.le_of_ble_eq_true rfl⟩ rfl rfl [1, 2, 3, 4, 5, 6, 7] [0, 8, 9, 10, 11] rfl rfl rfl rfl (by decide) rfl rfl hl.1 (Nat.le_of_ble_eq_true rfl) dX7_roads_5 ⟨Nat.zero_le _, Nat.zero_le _⟩ ⟨rfl, rfl⟩ (fun r u H locs hp hI => ?_)
  replace hp : r = o1 := hp
  rw [hp]
  clear hp
  replace hI : WI D A s.heap (wX cI cJ cZ x0 n0 n1 n2 n3 n4 n5 n6 q0 q1 q2 q3 v_heapsOfNet v_pickerOfNet v_tallyOfNet N_postCount N_roadCount N_first N_second N_number N_allowed N_at N_beside Q_side Q_height Q_cell Q_taken Q_ways) H locs := hI.perm [0, 5, 6, 7, 8, 9, 10, 11, 1, 2, 3, 4] rfl rfl
  refine lv_if_ne (tgt := 14) hx hb dX7_roads_8 (by decide) (fun hc => ?_) (fun hc => ?_)
  · replace hf := ite_f hc hf
    refine lv_aload_n hx hb dX7_roads_14 rfl (lv_at hl 0 rfl) ?_
    refine w_get hx hb hg hown hK hI iX7 0 rfl rfl 0 (by decide) wF_RX7_12 rfl dX7_roads_15 ?_
    refine w_get hx hb hg hown hK hI iX3 1 rfl rfl 6 (by decide) wF_RX7_67 rfl dX7_roads_18 ?_
    refine lv_iload_n hx hb dX7_roads_21 rfl (lv_at hl 1 rfl) ?_
    obtain ⟨hin, hf⟩ := rd_e hf
    refine w_iald hx hb hK hI 6 rfl hin dX7_roads_22 (fun x2 ex2 => ?_)
    replace hf := hf x2 ex2
    obtain ⟨x3, hx3, hf⟩ := bd_e hf
    refine w_S (rest := []) hx hb hml hg hown hK (kJ6_bitCount_0f7a4 l D cI cJ cZ x2 x3 hx3) ksJ6_bitCount_0f7a4 wL_RX7_70 ⟨Nat.le_of_ble_eq_true rfl, Nat.le_of_ble_eq_true rfl⟩ ⟨rfl, rfl⟩ rfl rfl hl.1 (Nat.le_of_ble_eq_true rfl) dX7_roads_23 ⟨Nat.zero_le _, Nat.zero_le _⟩ ?_
    replace hf := Option.some.inj hf
    subst hf
    replace hM : x3 = out := hM
    subst hM
    exact rt_i (u := ()) hx hb hr hlocks rfl hI hAe rfl dX7_roads_26
  · replace hf := ite_t hc hf
    refine lv_bipush (v := -2) hx hb dX7_roads_11 (by decide) ?_
    replace hf := Option.some.inj hf
    subst hf
    replace hM : (-2 : Int32) = out := hM
    subst hM
    exact rt_i (u := ()) hx hb hr hlocks rfl hI hAe rfl dX7_roads_13
noncomputable def FX7_free (N_postCount : Int32) (N_roadCount : Int32) (N_number : Nat → Int32) (N_at : Nat → Int32) (a1 : Int32) : Option (Int32) :=
  (FX3_hasPost N_postCount a1).bind (fun o1 => if o1 = (0 : Int32) then (some (-2 : Int32)) else ((FX3_leastFree N_roadCount N_number N_at a1).bind (fun o2 => some o2)))
abbrev GX7_free (p : Program) (l : Launch) (e : Env) (s : State) (m : MethodId) (below : List Frame) (meth : Method) (c : Code) (D : va_G) (cI cJ cZ : ClassId) (x0 n0 n1 n2 n3 n4 n5 n6 q0 q1 q2 q3 : Nat) (v_heapsOfNet : Value) (v_pickerOfNet : Value) (v_tallyOfNet : Value) (N_postCount : Int32) (N_roadCount : Int32) (N_first : Nat → Int32) (N_second : Nat → Int32) (N_number : Nat → Int32) (N_allowed : Nat → Int32) (N_at : Nat → Int32) (N_beside : Nat → Int32) (Q_side : Int32) (Q_height : Int32) (Q_cell : Nat → Int32) (Q_taken : Nat → Int32) (Q_ways : Nat → Int32) (a1 : Int32) (out : Int32) (H : Heap) (locs : List Loc) (g : JFrame) : Prop := W p l e (headSpec (Cond.code yX7_free cX7_free 2 (some .int) :: GW) { frames := 3, cells := 0, slots := 0, locals := 65 }).room s m ([.ref x0, .int a1] : List Value).toArray below meth c H locs 0 0 (MQ below (va_Qi (fun r (_ : Unit) => r = out) (BW D (wX cI cJ cZ x0 n0 n1 n2 n3 n4 n5 n6 q0 q1 q2 q3 v_heapsOfNet v_pickerOfNet v_tallyOfNet N_postCount N_roadCount N_first N_second N_number N_allowed N_at N_beside Q_side Q_height Q_cell Q_taken Q_ways) s.heap.size (fun _ => (wX cI cJ cZ x0 n0 n1 n2 n3 n4 n5 n6 q0 q1 q2 q3 v_heapsOfNet v_pickerOfNet v_tallyOfNet N_postCount N_roadCount N_first N_second N_number N_allowed N_at N_beside Q_side Q_height Q_cell Q_taken Q_ways))) (va_A (wX cI cJ cZ x0 n0 n1 n2 n3 n4 n5 n6 q0 q1 q2 q3 v_heapsOfNet v_pickerOfNet v_tallyOfNet N_postCount N_roadCount N_first N_second N_number N_allowed N_at N_beside Q_side Q_height Q_cell Q_taken Q_ways) s.heap.size)) ([.ref x0, .int a1] : List Value).toArray s 0 0 (va_A (wX cI cJ cZ x0 n0 n1 n2 n3 n4 n5 n6 q0 q1 q2 q3 v_heapsOfNet v_pickerOfNet v_tallyOfNet N_postCount N_roadCount N_first N_second N_number N_allowed N_at N_beside Q_side Q_height Q_cell Q_taken Q_ways) s.heap.size)) g
theorem kvX7_free : CalV RX7 yX7_free cX7_free 2 (some .int) 1 := ⟨wC_yX7_free, wM_yX7_free, wS_yX7_free, wI_RX7, by decide +kernel⟩
set_option maxHeartbeats 4000000 in
set_option maxRecDepth 100000 in
theorem kX7_free (l : Launch) (D : va_G) (cI cJ cZ : ClassId) (x0 n0 n1 n2 n3 n4 n5 n6 q0 q1 q2 q3 : Nat) (v_heapsOfNet : Value) (v_pickerOfNet : Value) (v_tallyOfNet : Value) (N_postCount : Int32) (N_roadCount : Int32) (N_first : Nat → Int32) (N_second : Nat → Int32) (N_number : Nat → Int32) (N_allowed : Nat → Int32) (N_at : Nat → Int32) (N_beside : Nat → Int32) (Q_side : Int32) (Q_height : Int32) (Q_cell : Nat → Int32) (Q_taken : Nat → Int32) (Q_ways : Nat → Int32) (a1 : Int32) (out : Int32) (hf : FX7_free N_postCount N_roadCount N_number N_at a1 = some out) : MI l yX7_free (Cond.code yX7_free cX7_free 2 (some .int) :: GW) { frames := 3, cells := 0, slots := 0, locals := 65 } D cI cJ cZ [.ref x0, .int a1] (wX cI cJ cZ x0 n0 n1 n2 n3 n4 n5 n6 q0 q1 q2 q3 v_heapsOfNet v_pickerOfNet v_tallyOfNet N_postCount N_roadCount N_first N_second N_number N_allowed N_at N_beside Q_side Q_height Q_cell Q_taken Q_ways) (fun r (_ : Unit) => r = out) (fun _ => (wX cI cJ cZ x0 n0 n1 n2 n3 n4 n5 n6 q0 q1 q2 q3 v_heapsOfNet v_pickerOfNet v_tallyOfNet N_postCount N_roadCount N_first N_second N_number N_allowed N_at N_beside Q_side Q_height Q_cell Q_taken Q_ways)) := by
  intro sz
  refine Met.ofW (cc := cX7_free) (maxL := 2) (ret := (some .int)) (by decide +kernel) rfl ?_
  intro p e s m args below meth c s₁ B hml hv
  obtain ⟨rfl, hsz, hP, hK, hD0⟩ := hv
  have hx := B.exec
  have hb := B.bytes
  have hr := B.returns
  have hlocks := B.notSynchronized
  have hg : ∀ w ∈ GW, w.before _ s = true := fun w h => atoms_spec (ws := Cond.code yX7_free cX7_free 2 (some .int) :: GW) B.pre w (List.mem_cons_of_mem _ h)
  have hown : s.vm.findClass RX7 = some m.cls := findClass_of_methodNamed B.named
  subst hsz
  obtain ⟨A, hAe⟩ : ∃ A, A = va_A (wX cI cJ cZ x0 n0 n1 n2 n3 n4 n5 n6 q0 q1 q2 q3 v_heapsOfNet v_pickerOfNet v_tallyOfNet N_postCount N_roadCount N_first N_second N_number N_allowed N_at N_beside Q_side Q_height Q_cell Q_taken Q_ways) s.heap.size := ⟨_, rfl⟩
  have hA : ∀ q : Nat, s.heap.size ≤ q → A q := fun q h => by rw [hAe]; exact Or.inr h
  have hI : WI D A s.heap (wX cI cJ cZ x0 n0 n1 n2 n3 n4 n5 n6 q0 q1 q2 q3 v_heapsOfNet v_pickerOfNet v_tallyOfNet N_postCount N_roadCount N_first N_second N_number N_allowed N_at N_beside Q_side Q_height Q_cell Q_taken Q_ways) s.heap [] := ⟨hP, by rw [hAe]; exact hD0.self, va_S.rf⟩
  have hl := lv_entry [.ref x0, .int a1] (n := 2) (Nat.le_of_ble_eq_true rfl)
  rw [lg_entry_eq]
  generalize (lg_sl [.ref x0, .int a1] ++ List.replicate (2 - (lg_sl [.ref x0, .int a1]).length) Slot.unset).toArray = ls at hl ⊢
  replace hl : lv_has ls 2 [(0, .ref x0), (1, .int a1)] := hl
  obtain ⟨x, hf, hM⟩ : ∃ x, FX7_free N_postCount N_roadCount N_number N_at a1 = some x ∧ x = out := ⟨out, hf, rfl⟩
  refine lv_aload_n hx hb dX7_free_0 rfl (lv_at hl 0 rfl) ?_
  refine w_get hx hb hg hown hK hI iX7 0 rfl rfl 0 (by decide) wF_RX7_12 rfl dX7_free_1 ?_
  refine lv_iload_n hx hb dX7_free_4 rfl (lv_at hl 1 rfl) ?_
  obtain ⟨o1, ho1, hf⟩ := bd_e hf
  refine w_Vi0 (wc := (wN cI cJ cZ n0 n1 n2 n3 n4 n5 n6 N_postCount N_roadCount N_first N_second N_number N_allowed N_at N_beside)) (wr := [(x0, .inr (7, [.ref n0, .ref q0, v_heapsOfNet, v_pickerOfNet, v_tallyOfNet])), (q0, .inr (5, [.int Q_side, .int Q_height, .ref q1, .ref q2, .ref q3])), (q1, .inl (cI, 81, .inl Q_cell)), (q2, .inl (cI, 9, .inl Q_taken)), (q3, .inl (cI, 512, .inl Q_ways))]) (rest := []) hx hb hml hg hown hK hA hI (kX3_hasPost l D cI cJ cZ n0 n1 n2 n3 n4 n5 n6 N_postCount N_roadCount N_first N_second N_number N_allowed N_at N_beside a1 o1 ho1) kvX3_hasPost wL_RX7_31 ⟨Nat.le_of_ble_eq_true rfl, Nat.le_of_ble_eq_true rfl⟩ rfl rfl [1, 2, 3, 4, 5, 6, 7] [0, 8, 9, 10, 11] rfl rfl rfl rfl (by decide) rfl rfl hl.1 (Nat.le_of_ble_eq_true rfl) dX7_free_5 ⟨Nat.zero_le _, Nat.zero_le _⟩ ⟨rfl, rfl⟩ (fun r u H locs hp hI => ?_)
  replace hp : r = o1 := hp
  rw [hp]
  clear hp
  replace hI : WI D A s.heap (wX cI cJ cZ x0 n0 n1 n2 n3 n4 n5 n6 q0 q1 q2 q3 v_heapsOfNet v_pickerOfNet v_tallyOfNet N_postCount N_roadCount N_first N_second N_number N_allowed N_at N_beside Q_side Q_height Q_cell Q_taken Q_ways) H locs := hI.perm [0, 5, 6, 7, 8, 9, 10, 11, 1, 2, 3, 4] rfl rfl
  refine lv_if_ne (tgt := 14) hx hb dX7_free_8 (by decide) (fun hc => ?_) (fun hc => ?_)
  · replace hf := ite_f hc hf
    refine lv_aload_n hx hb dX7_free_14 rfl (lv_at hl 0 rfl) ?_
    refine w_get hx hb hg hown hK hI iX7 0 rfl rfl 0 (by decide) wF_RX7_12 rfl dX7_free_15 ?_
    refine lv_iload_n hx hb dX7_free_18 rfl (lv_at hl 1 rfl) ?_
    obtain ⟨o2, ho2, hf⟩ := bd_e hf
    refine w_Vi0 (wc := (wN cI cJ cZ n0 n1 n2 n3 n4 n5 n6 N_postCount N_roadCount N_first N_second N_number N_allowed N_at N_beside)) (wr := [(x0, .inr (7, [.ref n0, .ref q0, v_heapsOfNet, v_pickerOfNet, v_tallyOfNet])), (q0, .inr (5, [.int Q_side, .int Q_height, .ref q1, .ref q2, .ref q3])), (q1, .inl (cI, 81, .inl Q_cell)), (q2, .inl (cI, 9, .inl Q_taken)), (q3, .inl (cI, 512, .inl Q_ways))]) (rest := []) hx hb hml hg hown hK hA hI (kX3_leastFree l D cI cJ cZ n0 n1 n2 n3 n4 n5 n6 N_postCount N_roadCount N_first N_second N_number N_allowed N_at N_beside a1 o2 ho2) kvX3_leastFree wL_RX7_76 ⟨Nat.le_of_ble_eq_true rfl, Nat.le_of_ble_eq_true rfl⟩ rfl rfl [1, 2, 3, 4, 5, 6, 7] [0, 8, 9, 10, 11] rfl rfl rfl rfl (by decide) rfl rfl hl.1 (Nat.le_of_ble_eq_true rfl) dX7_free_19 ⟨Nat.zero_le _, Nat.zero_le _⟩ ⟨rfl, rfl⟩ (fun r u H locs hp hI => ?_)
    replace hp : r = o2 := hp
    rw [hp]
    clear hp
    replace hI : WI D A s.heap (wX cI cJ cZ x0 n0 n1 n2 n3 n4 n5 n6 q0 q1 q2 q3 v_heapsOfNet v_pickerOfNet v_tallyOfNet N_postCount N_roadCount N_first N_second N_number N_allowed N_at N_beside Q_side Q_height Q_cell Q_taken Q_ways) H locs := hI.perm [0, 5, 6, 7, 8, 9, 10, 11, 1, 2, 3, 4] rfl rfl
    replace hf := Option.some.inj hf
    subst hf
    replace hM : o2 = out := hM
    subst hM
    exact rt_i (u := ()) hx hb hr hlocks rfl hI hAe rfl dX7_free_22
  · replace hf := ite_t hc hf
    refine lv_bipush (v := -2) hx hb dX7_free_11 (by decide) ?_
    replace hf := Option.some.inj hf
    subst hf
    replace hM : (-2 : Int32) = out := hM
    subst hM
    exact rt_i (u := ()) hx hb hr hlocks rfl hI hAe rfl dX7_free_13
noncomputable def FX7_clash (N_roadCount : Int32) (N_number : Nat → Int32) (N_beside : Nat → Int32)  : Option (Int32) :=
  (FX3_leastClashing N_roadCount N_number N_beside).bind (fun o1 => some o1)
abbrev GX7_clash (p : Program) (l : Launch) (e : Env) (s : State) (m : MethodId) (below : List Frame) (meth : Method) (c : Code) (D : va_G) (cI cJ cZ : ClassId) (x0 n0 n1 n2 n3 n4 n5 n6 q0 q1 q2 q3 : Nat) (v_heapsOfNet : Value) (v_pickerOfNet : Value) (v_tallyOfNet : Value) (N_postCount : Int32) (N_roadCount : Int32) (N_first : Nat → Int32) (N_second : Nat → Int32) (N_number : Nat → Int32) (N_allowed : Nat → Int32) (N_at : Nat → Int32) (N_beside : Nat → Int32) (Q_side : Int32) (Q_height : Int32) (Q_cell : Nat → Int32) (Q_taken : Nat → Int32) (Q_ways : Nat → Int32)  (out : Int32) (H : Heap) (locs : List Loc) (g : JFrame) : Prop := W p l e (headSpec (Cond.code yX7_clash cX7_clash 1 (some .int) :: GW) { frames := 2, cells := 0, slots := 0, locals := 44 }).room s m ([.ref x0] : List Value).toArray below meth c H locs 0 0 (MQ below (va_Qi (fun r (_ : Unit) => r = out) (BW D (wX cI cJ cZ x0 n0 n1 n2 n3 n4 n5 n6 q0 q1 q2 q3 v_heapsOfNet v_pickerOfNet v_tallyOfNet N_postCount N_roadCount N_first N_second N_number N_allowed N_at N_beside Q_side Q_height Q_cell Q_taken Q_ways) s.heap.size (fun _ => (wX cI cJ cZ x0 n0 n1 n2 n3 n4 n5 n6 q0 q1 q2 q3 v_heapsOfNet v_pickerOfNet v_tallyOfNet N_postCount N_roadCount N_first N_second N_number N_allowed N_at N_beside Q_side Q_height Q_cell Q_taken Q_ways))) (va_A (wX cI cJ cZ x0 n0 n1 n2 n3 n4 n5 n6 q0 q1 q2 q3 v_heapsOfNet v_pickerOfNet v_tallyOfNet N_postCount N_roadCount N_first N_second N_number N_allowed N_at N_beside Q_side Q_height Q_cell Q_taken Q_ways) s.heap.size)) ([.ref x0] : List Value).toArray s 0 0 (va_A (wX cI cJ cZ x0 n0 n1 n2 n3 n4 n5 n6 q0 q1 q2 q3 v_heapsOfNet v_pickerOfNet v_tallyOfNet N_postCount N_roadCount N_first N_second N_number N_allowed N_at N_beside Q_side Q_height Q_cell Q_taken Q_ways) s.heap.size)) g
theorem kvX7_clash : CalV RX7 yX7_clash cX7_clash 1 (some .int) 0 := ⟨wC_yX7_clash, wM_yX7_clash, wS_yX7_clash, wI_RX7, by decide +kernel⟩
set_option maxHeartbeats 4000000 in
set_option maxRecDepth 100000 in
theorem kX7_clash (l : Launch) (D : va_G) (cI cJ cZ : ClassId) (x0 n0 n1 n2 n3 n4 n5 n6 q0 q1 q2 q3 : Nat) (v_heapsOfNet : Value) (v_pickerOfNet : Value) (v_tallyOfNet : Value) (N_postCount : Int32) (N_roadCount : Int32) (N_first : Nat → Int32) (N_second : Nat → Int32) (N_number : Nat → Int32) (N_allowed : Nat → Int32) (N_at : Nat → Int32) (N_beside : Nat → Int32) (Q_side : Int32) (Q_height : Int32) (Q_cell : Nat → Int32) (Q_taken : Nat → Int32) (Q_ways : Nat → Int32)  (out : Int32) (hf : FX7_clash N_roadCount N_number N_beside = some out) : MI l yX7_clash (Cond.code yX7_clash cX7_clash 1 (some .int) :: GW) { frames := 2, cells := 0, slots := 0, locals := 44 } D cI cJ cZ [.ref x0] (wX cI cJ cZ x0 n0 n1 n2 n3 n4 n5 n6 q0 q1 q2 q3 v_heapsOfNet v_pickerOfNet v_tallyOfNet N_postCount N_roadCount N_first N_second N_number N_allowed N_at N_beside Q_side Q_height Q_cell Q_taken Q_ways) (fun r (_ : Unit) => r = out) (fun _ => (wX cI cJ cZ x0 n0 n1 n2 n3 n4 n5 n6 q0 q1 q2 q3 v_heapsOfNet v_pickerOfNet v_tallyOfNet N_postCount N_roadCount N_first N_second N_number N_allowed N_at N_beside Q_side Q_height Q_cell Q_taken Q_ways)) := by
  intro sz
  refine Met.ofW (cc := cX7_clash) (maxL := 1) (ret := (some .int)) (by decide +kernel) rfl ?_
  intro p e s m args below meth c s₁ B hml hv
  obtain ⟨rfl, hsz, hP, hK, hD0⟩ := hv
  have hx := B.exec
  have hb := B.bytes
  have hr := B.returns
  have hlocks := B.notSynchronized
  have hg : ∀ w ∈ GW, w.before _ s = true := fun w h => atoms_spec (ws := Cond.code yX7_clash cX7_clash 1 (some .int) :: GW) B.pre w (List.mem_cons_of_mem _ h)
  have hown : s.vm.findClass RX7 = some m.cls := findClass_of_methodNamed B.named
  subst hsz
  obtain ⟨A, hAe⟩ : ∃ A, A = va_A (wX cI cJ cZ x0 n0 n1 n2 n3 n4 n5 n6 q0 q1 q2 q3 v_heapsOfNet v_pickerOfNet v_tallyOfNet N_postCount N_roadCount N_first N_second N_number N_allowed N_at N_beside Q_side Q_height Q_cell Q_taken Q_ways) s.heap.size := ⟨_, rfl⟩
  have hA : ∀ q : Nat, s.heap.size ≤ q → A q := fun q h => by rw [hAe]; exact Or.inr h
  have hI : WI D A s.heap (wX cI cJ cZ x0 n0 n1 n2 n3 n4 n5 n6 q0 q1 q2 q3 v_heapsOfNet v_pickerOfNet v_tallyOfNet N_postCount N_roadCount N_first N_second N_number N_allowed N_at N_beside Q_side Q_height Q_cell Q_taken Q_ways) s.heap [] := ⟨hP, by rw [hAe]; exact hD0.self, va_S.rf⟩
  have hl := lv_entry [.ref x0] (n := 1) (Nat.le_of_ble_eq_true rfl)
  rw [lg_entry_eq]
  generalize (lg_sl [.ref x0] ++ List.replicate (1 - (lg_sl [.ref x0]).length) Slot.unset).toArray = ls at hl ⊢
  replace hl : lv_has ls 1 [(0, .ref x0)] := hl
  obtain ⟨x, hf, hM⟩ : ∃ x, FX7_clash N_roadCount N_number N_beside = some x ∧ x = out := ⟨out, hf, rfl⟩
  refine lv_aload_n hx hb dX7_clash_0 rfl (lv_at hl 0 rfl) ?_
  refine w_get hx hb hg hown hK hI iX7 0 rfl rfl 0 (by decide) wF_RX7_12 rfl dX7_clash_1 ?_
  obtain ⟨o1, ho1, hf⟩ := bd_e hf
  refine w_Vi0 (wc := (wN cI cJ cZ n0 n1 n2 n3 n4 n5 n6 N_postCount N_roadCount N_first N_second N_number N_allowed N_at N_beside)) (wr := [(x0, .inr (7, [.ref n0, .ref q0, v_heapsOfNet, v_pickerOfNet, v_tallyOfNet])), (q0, .inr (5, [.int Q_side, .int Q_height, .ref q1, .ref q2, .ref q3])), (q1, .inl (cI, 81, .inl Q_cell)), (q2, .inl (cI, 9, .inl Q_taken)), (q3, .inl (cI, 512, .inl Q_ways))]) (rest := []) hx hb hml hg hown hK hA hI (kX3_leastClashing l D cI cJ cZ n0 n1 n2 n3 n4 n5 n6 N_postCount N_roadCount N_first N_second N_number N_allowed N_at N_beside  o1 ho1) kvX3_leastClashing wL_RX7_79 ⟨Nat.le_of_ble_eq_true rfl, Nat.le_of_ble_eq_true rfl⟩ rfl rfl [1, 2, 3, 4, 5, 6, 7] [0, 8, 9, 10, 11] rfl rfl rfl rfl (by decide) rfl rfl hl.1 (Nat.le_of_ble_eq_true rfl) dX7_clash_4 ⟨Nat.zero_le _, Nat.zero_le _⟩ ⟨rfl, rfl⟩ (fun r u H locs hp hI => ?_)
  replace hp : r = o1 := hp
  rw [hp]
  clear hp
  replace hI : WI D A s.heap (wX cI cJ cZ x0 n0 n1 n2 n3 n4 n5 n6 q0 q1 q2 q3 v_heapsOfNet v_pickerOfNet v_tallyOfNet N_postCount N_roadCount N_first N_second N_number N_allowed N_at N_beside Q_side Q_height Q_cell Q_taken Q_ways) H locs := hI.perm [0, 5, 6, 7, 8, 9, 10, 11, 1, 2, 3, 4] rfl rfl
  replace hf := Option.some.inj hf
  subst hf
  replace hM : o1 = out := hM
  subst hM
  exact rt_i (u := ()) hx hb hr hlocks rfl hI hAe rfl dX7_clash_7
noncomputable def FX7_hasChain (N_roadCount : Int32) (N_number : Nat → Int32) (a1 : Int32) (a2 : Int32) (a3 : Int32) : Option (Int32) :=
  (FX3_hasRoad N_roadCount a1).bind (fun o1 => if o1 = (0 : Int32) then (some (0 : Int32)) else (if a2 < (0 : Int32) then (some (0 : Int32)) else (if (16 : Int32) ≤ a2 then (some (0 : Int32)) else (if a3 < (0 : Int32) then (some (0 : Int32)) else (if (16 : Int32) ≤ a3 then (some (0 : Int32)) else (if a2 = a3 then (some (0 : Int32)) else (rd N_number 24 a1 (fun x2 => if x2 = a2 then (some (1 : Int32)) else (rd N_number 24 a1 (fun x3 => if x3 = a3 then (some (1 : Int32)) else (some (0 : Int32))))))))))))
abbrev GX7_hasChain (p : Program) (l : Launch) (e : Env) (s : State) (m : MethodId) (below : List Frame) (meth : Method) (c : Code) (D : va_G) (cI cJ cZ : ClassId) (x0 n0 n1 n2 n3 n4 n5 n6 q0 q1 q2 q3 : Nat) (v_heapsOfNet : Value) (v_pickerOfNet : Value) (v_tallyOfNet : Value) (N_postCount : Int32) (N_roadCount : Int32) (N_first : Nat → Int32) (N_second : Nat → Int32) (N_number : Nat → Int32) (N_allowed : Nat → Int32) (N_at : Nat → Int32) (N_beside : Nat → Int32) (Q_side : Int32) (Q_height : Int32) (Q_cell : Nat → Int32) (Q_taken : Nat → Int32) (Q_ways : Nat → Int32) (a1 : Int32) (a2 : Int32) (a3 : Int32) (out : Int32) (H : Heap) (locs : List Loc) (g : JFrame) : Prop := W p l e (headSpec (Cond.code yX7_hasChain cX7_hasChain 4 (some .boolean) :: GW) { frames := 1, cells := 0, slots := 0, locals := 21 }).room s m ([.ref x0, .int a1, .int a2, .int a3] : List Value).toArray below meth c H locs 0 0 (MQ below (va_Qi (fun r (_ : Unit) => r = out) (BW D (wX cI cJ cZ x0 n0 n1 n2 n3 n4 n5 n6 q0 q1 q2 q3 v_heapsOfNet v_pickerOfNet v_tallyOfNet N_postCount N_roadCount N_first N_second N_number N_allowed N_at N_beside Q_side Q_height Q_cell Q_taken Q_ways) s.heap.size (fun _ => (wX cI cJ cZ x0 n0 n1 n2 n3 n4 n5 n6 q0 q1 q2 q3 v_heapsOfNet v_pickerOfNet v_tallyOfNet N_postCount N_roadCount N_first N_second N_number N_allowed N_at N_beside Q_side Q_height Q_cell Q_taken Q_ways))) (va_A (wX cI cJ cZ x0 n0 n1 n2 n3 n4 n5 n6 q0 q1 q2 q3 v_heapsOfNet v_pickerOfNet v_tallyOfNet N_postCount N_roadCount N_first N_second N_number N_allowed N_at N_beside Q_side Q_height Q_cell Q_taken Q_ways) s.heap.size)) ([.ref x0, .int a1, .int a2, .int a3] : List Value).toArray s 0 0 (va_A (wX cI cJ cZ x0 n0 n1 n2 n3 n4 n5 n6 q0 q1 q2 q3 v_heapsOfNet v_pickerOfNet v_tallyOfNet N_postCount N_roadCount N_first N_second N_number N_allowed N_at N_beside Q_side Q_height Q_cell Q_taken Q_ways) s.heap.size)) g
theorem kvX7_hasChain : CalV RX7 yX7_hasChain cX7_hasChain 4 (some .boolean) 3 := ⟨wC_yX7_hasChain, wM_yX7_hasChain, wS_yX7_hasChain, wI_RX7, by decide +kernel⟩
set_option maxHeartbeats 4000000 in
set_option maxRecDepth 100000 in
theorem kX7_hasChain (l : Launch) (D : va_G) (cI cJ cZ : ClassId) (x0 n0 n1 n2 n3 n4 n5 n6 q0 q1 q2 q3 : Nat) (v_heapsOfNet : Value) (v_pickerOfNet : Value) (v_tallyOfNet : Value) (N_postCount : Int32) (N_roadCount : Int32) (N_first : Nat → Int32) (N_second : Nat → Int32) (N_number : Nat → Int32) (N_allowed : Nat → Int32) (N_at : Nat → Int32) (N_beside : Nat → Int32) (Q_side : Int32) (Q_height : Int32) (Q_cell : Nat → Int32) (Q_taken : Nat → Int32) (Q_ways : Nat → Int32) (a1 : Int32) (a2 : Int32) (a3 : Int32) (out : Int32) (hf : FX7_hasChain N_roadCount N_number a1 a2 a3 = some out) : MI l yX7_hasChain (Cond.code yX7_hasChain cX7_hasChain 4 (some .boolean) :: GW) { frames := 1, cells := 0, slots := 0, locals := 21 } D cI cJ cZ [.ref x0, .int a1, .int a2, .int a3] (wX cI cJ cZ x0 n0 n1 n2 n3 n4 n5 n6 q0 q1 q2 q3 v_heapsOfNet v_pickerOfNet v_tallyOfNet N_postCount N_roadCount N_first N_second N_number N_allowed N_at N_beside Q_side Q_height Q_cell Q_taken Q_ways) (fun r (_ : Unit) => r = out) (fun _ => (wX cI cJ cZ x0 n0 n1 n2 n3 n4 n5 n6 q0 q1 q2 q3 v_heapsOfNet v_pickerOfNet v_tallyOfNet N_postCount N_roadCount N_first N_second N_number N_allowed N_at N_beside Q_side Q_height Q_cell Q_taken Q_ways)) := by
  intro sz
  refine Met.ofW (cc := cX7_hasChain) (maxL := 4) (ret := (some .boolean)) (by decide +kernel) rfl ?_
  intro p e s m args below meth c s₁ B hml hv
  obtain ⟨rfl, hsz, hP, hK, hD0⟩ := hv
  have hx := B.exec
  have hb := B.bytes
  have hr := B.returns
  have hlocks := B.notSynchronized
  have hg : ∀ w ∈ GW, w.before _ s = true := fun w h => atoms_spec (ws := Cond.code yX7_hasChain cX7_hasChain 4 (some .boolean) :: GW) B.pre w (List.mem_cons_of_mem _ h)
  have hown : s.vm.findClass RX7 = some m.cls := findClass_of_methodNamed B.named
  subst hsz
  obtain ⟨A, hAe⟩ : ∃ A, A = va_A (wX cI cJ cZ x0 n0 n1 n2 n3 n4 n5 n6 q0 q1 q2 q3 v_heapsOfNet v_pickerOfNet v_tallyOfNet N_postCount N_roadCount N_first N_second N_number N_allowed N_at N_beside Q_side Q_height Q_cell Q_taken Q_ways) s.heap.size := ⟨_, rfl⟩
  have hA : ∀ q : Nat, s.heap.size ≤ q → A q := fun q h => by rw [hAe]; exact Or.inr h
  have hI : WI D A s.heap (wX cI cJ cZ x0 n0 n1 n2 n3 n4 n5 n6 q0 q1 q2 q3 v_heapsOfNet v_pickerOfNet v_tallyOfNet N_postCount N_roadCount N_first N_second N_number N_allowed N_at N_beside Q_side Q_height Q_cell Q_taken Q_ways) s.heap [] := ⟨hP, by rw [hAe]; exact hD0.self, va_S.rf⟩
  have hl := lv_entry [.ref x0, .int a1, .int a2, .int a3] (n := 4) (Nat.le_of_ble_eq_true rfl)
  rw [lg_entry_eq]
  generalize (lg_sl [.ref x0, .int a1, .int a2, .int a3] ++ List.replicate (4 - (lg_sl [.ref x0, .int a1, .int a2, .int a3]).length) Slot.unset).toArray = ls at hl ⊢
  replace hl : lv_has ls 4 [(0, .ref x0), (1, .int a1), (2, .int a2), (3, .int a3)] := hl
  obtain ⟨x, hf, hM⟩ : ∃ x, FX7_hasChain N_roadCount N_number a1 a2 a3 = some x ∧ x = out := ⟨out, hf, rfl⟩
  refine lv_aload_n hx hb dX7_hasChain_0 rfl (lv_at hl 0 rfl) ?_
  refine w_get hx hb hg hown hK hI iX7 0 rfl rfl 0 (by decide) wF_RX7_12 rfl dX7_hasChain_1 ?_
  refine lv_iload_n hx hb dX7_hasChain_4 rfl (lv_at hl 1 rfl) ?_
  obtain ⟨o1, ho1, hf⟩ := bd_e hf
  refine w_Vi0 (wc := (wN cI cJ cZ n0 n1 n2 n3 n4 n5 n6 N_postCount N_roadCount N_first N_second N_number N_allowed N_at N_beside)) (wr := [(x0, .inr (7, [.ref n0, .ref q0, v_heapsOfNet, v_pickerOfNet, v_tallyOfNet])), (q0, .inr (5, [.int Q_side, .int Q_height, .ref q1, .ref q2, .ref q3])), (q1, .inl (cI, 81, .inl Q_cell)), (q2, .inl (cI, 9, .inl Q_taken)), (q3, .inl (cI, 512, .inl Q_ways))]) (rest := []) hx hb hml hg hown hK hA hI (kX3_hasRoad l D cI cJ cZ n0 n1 n2 n3 n4 n5 n6 N_postCount N_roadCount N_first N_second N_number N_allowed N_at N_beside a1 o1 ho1) kvX3_hasRoad wL_RX7_45 ⟨Nat.le_of_ble_eq_true rfl, Nat.le_of_ble_eq_true rfl⟩ rfl rfl [1, 2, 3, 4, 5, 6, 7] [0, 8, 9, 10, 11] rfl rfl rfl rfl (by decide) rfl rfl hl.1 (Nat.le_of_ble_eq_true rfl) dX7_hasChain_5 ⟨Nat.zero_le _, Nat.zero_le _⟩ ⟨rfl, rfl⟩ (fun r u H locs hp hI => ?_)
  replace hp : r = o1 := hp
  rw [hp]
  clear hp
  replace hI : WI D A s.heap (wX cI cJ cZ x0 n0 n1 n2 n3 n4 n5 n6 q0 q1 q2 q3 v_heapsOfNet v_pickerOfNet v_tallyOfNet N_postCount N_roadCount N_first N_second N_number N_allowed N_at N_beside Q_side Q_height Q_cell Q_taken Q_ways) H locs := hI.perm [0, 5, 6, 7, 8, 9, 10, 11, 1, 2, 3, 4] rfl rfl
  refine lv_if_eq (tgt := 36) hx hb dX7_hasChain_8 (by decide) (fun hc => ?_) (fun hc => ?_)
  · replace hf := ite_t hc hf
    refine lv_iconst (v := 0) hx hb dX7_hasChain_36 (by decide) ?_
    replace hf := Option.some.inj hf
    subst hf
    replace hM : (0 : Int32) = out := hM
    subst hM
    exact rt_i (u := ()) hx hb hr hlocks (by decide) hI hAe rfl dX7_hasChain_37
  · replace hf := ite_f hc hf
    refine lv_iload_n hx hb dX7_hasChain_11 rfl (lv_at hl 2 rfl) ?_
    refine lv_if_lt (tgt := 36) hx hb dX7_hasChain_12 (by decide) (fun hc => ?_) (fun hc => ?_)
    · replace hf := ite_t hc hf
      refine lv_iconst (v := 0) hx hb dX7_hasChain_36 (by decide) ?_
      replace hf := Option.some.inj hf
      subst hf
      replace hM : (0 : Int32) = out := hM
      subst hM
      exact rt_i (u := ()) hx hb hr hlocks (by decide) hI hAe rfl dX7_hasChain_37
    · replace hf := ite_f hc hf
      refine lv_iload_n hx hb dX7_hasChain_15 rfl (lv_at hl 2 rfl) ?_
      refine lv_bipush (v := 16) hx hb dX7_hasChain_16 (by decide) ?_
      refine lv_icmp_ge (tgt := 36) hx hb dX7_hasChain_18 (by decide) (fun hc => ?_) (fun hc => ?_)
      · replace hf := ite_t hc hf
        refine lv_iconst (v := 0) hx hb dX7_hasChain_36 (by decide) ?_
        replace hf := Option.some.inj hf
        subst hf
        replace hM : (0 : Int32) = out := hM
        subst hM
        exact rt_i (u := ()) hx hb hr hlocks (by decide) hI hAe rfl dX7_hasChain_37
      · replace hf := ite_f hc hf
        refine lv_iload_n hx hb dX7_hasChain_21 rfl (lv_at hl 3 rfl) ?_
        refine lv_if_lt (tgt := 36) hx hb dX7_hasChain_22 (by decide) (fun hc => ?_) (fun hc => ?_)
        · replace hf := ite_t hc hf
          refine lv_iconst (v := 0) hx hb dX7_hasChain_36 (by decide) ?_
          replace hf := Option.some.inj hf
          subst hf
          replace hM : (0 : Int32) = out := hM
          subst hM
          exact rt_i (u := ()) hx hb hr hlocks (by decide) hI hAe rfl dX7_hasChain_37
        · replace hf := ite_f hc hf
          refine lv_iload_n hx hb dX7_hasChain_25 rfl (lv_at hl 3 rfl) ?_
          refine lv_bipush (v := 16) hx hb dX7_hasChain_26 (by decide) ?_
          refine lv_icmp_ge (tgt := 36) hx hb dX7_hasChain_28 (by decide) (fun hc => ?_) (fun hc => ?_)
          · replace hf := ite_t hc hf
            refine lv_iconst (v := 0) hx hb dX7_hasChain_36 (by decide) ?_
            replace hf := Option.some.inj hf
            subst hf
            replace hM : (0 : Int32) = out := hM
            subst hM
            exact rt_i (u := ()) hx hb hr hlocks (by decide) hI hAe rfl dX7_hasChain_37
          · replace hf := ite_f hc hf
            refine lv_iload_n hx hb dX7_hasChain_31 rfl (lv_at hl 2 rfl) ?_
            refine lv_iload_n hx hb dX7_hasChain_32 rfl (lv_at hl 3 rfl) ?_
            refine lv_icmp_ne (tgt := 38) hx hb dX7_hasChain_33 (by decide) (fun hc => ?_) (fun hc => ?_)
            · replace hf := ite_f hc hf
              refine lv_aload_n hx hb dX7_hasChain_38 rfl (lv_at hl 0 rfl) ?_
              refine w_get hx hb hg hown hK hI iX7 0 rfl rfl 0 (by decide) wF_RX7_12 rfl dX7_hasChain_39 ?_
              refine w_get hx hb hg hown hK hI iX3 1 rfl rfl 4 (by decide) wF_RX7_48 rfl dX7_hasChain_42 ?_
              refine lv_iload_n hx hb dX7_hasChain_45 rfl (lv_at hl 1 rfl) ?_
              obtain ⟨hin, hf⟩ := rd_e hf
              refine w_iald hx hb hK hI 4 rfl hin dX7_hasChain_46 (fun x2 ex2 => ?_)
              replace hf := hf x2 ex2
              refine lv_iload_n hx hb dX7_hasChain_47 rfl (lv_at hl 2 rfl) ?_
              refine lv_icmp_eq (tgt := 64) hx hb dX7_hasChain_48 (by decide) (fun hc => ?_) (fun hc => ?_)
              · replace hf := ite_t hc hf
                refine lv_iconst (v := 1) hx hb dX7_hasChain_64 (by decide) ?_
                refine lv_goto (tgt := 69) hx hb dX7_hasChain_65 (by decide) ?_
                replace hf := Option.some.inj hf
                subst hf
                replace hM : (1 : Int32) = out := hM
                subst hM
                exact rt_i (u := ()) hx hb hr hlocks (by decide) hI hAe rfl dX7_hasChain_69
              · replace hf := ite_f hc hf
                refine lv_aload_n hx hb dX7_hasChain_51 rfl (lv_at hl 0 rfl) ?_
                refine w_get hx hb hg hown hK hI iX7 0 rfl rfl 0 (by decide) wF_RX7_12 rfl dX7_hasChain_52 ?_
                refine w_get hx hb hg hown hK hI iX3 1 rfl rfl 4 (by decide) wF_RX7_48 rfl dX7_hasChain_55 ?_
                refine lv_iload_n hx hb dX7_hasChain_58 rfl (lv_at hl 1 rfl) ?_
                obtain ⟨hin, hf⟩ := rd_e hf
                refine w_iald hx hb hK hI 4 rfl hin dX7_hasChain_59 (fun x3 ex3 => ?_)
                replace hf := hf x3 ex3
                refine lv_iload_n hx hb dX7_hasChain_60 rfl (lv_at hl 3 rfl) ?_
                refine lv_icmp_ne (tgt := 68) hx hb dX7_hasChain_61 (by decide) (fun hc => ?_) (fun hc => ?_)
                · replace hf := ite_f hc hf
                  refine lv_iconst (v := 0) hx hb dX7_hasChain_68 (by decide) ?_
                  replace hf := Option.some.inj hf
                  subst hf
                  replace hM : (0 : Int32) = out := hM
                  subst hM
                  exact rt_i (u := ()) hx hb hr hlocks (by decide) hI hAe rfl dX7_hasChain_69
                · replace hf := ite_t hc hf
                  refine lv_iconst (v := 1) hx hb dX7_hasChain_64 (by decide) ?_
                  refine lv_goto (tgt := 69) hx hb dX7_hasChain_65 (by decide) ?_
                  replace hf := Option.some.inj hf
                  subst hf
                  replace hM : (1 : Int32) = out := hM
                  subst hM
                  exact rt_i (u := ()) hx hb hr hlocks (by decide) hI hAe rfl dX7_hasChain_69
            · replace hf := ite_t hc hf
              refine lv_iconst (v := 0) hx hb dX7_hasChain_36 (by decide) ?_
              replace hf := Option.some.inj hf
              subst hf
              replace hM : (0 : Int32) = out := hM
              subst hM
              exact rt_i (u := ()) hx hb hr hlocks (by decide) hI hAe rfl dX7_hasChain_37
noncomputable def FX7_chain (N_roadCount : Int32) (N_number : Nat → Int32) (N_beside : Nat → Int32) (a1 : Int32) (a2 : Int32) (a3 : Int32) : Option (Int32) :=
  (FX7_hasChain N_roadCount N_number a1 a2 a3).bind (fun o1 => if o1 = (0 : Int32) then (some (-2 : Int32)) else ((FX3_chainOf N_roadCount N_number N_beside a1 a2 a3).bind (fun o2 => (FJ6_bitCount_0f7a4 o2).bind (fun x3 => some x3))))
abbrev GX7_chain (p : Program) (l : Launch) (e : Env) (s : State) (m : MethodId) (below : List Frame) (meth : Method) (c : Code) (D : va_G) (cI cJ cZ : ClassId) (x0 n0 n1 n2 n3 n4 n5 n6 q0 q1 q2 q3 : Nat) (v_heapsOfNet : Value) (v_pickerOfNet : Value) (v_tallyOfNet : Value) (N_postCount : Int32) (N_roadCount : Int32) (N_first : Nat → Int32) (N_second : Nat → Int32) (N_number : Nat → Int32) (N_allowed : Nat → Int32) (N_at : Nat → Int32) (N_beside : Nat → Int32) (Q_side : Int32) (Q_height : Int32) (Q_cell : Nat → Int32) (Q_taken : Nat → Int32) (Q_ways : Nat → Int32) (a1 : Int32) (a2 : Int32) (a3 : Int32) (out : Int32) (H : Heap) (locs : List Loc) (g : JFrame) : Prop := W p l e (headSpec (Cond.code yX7_chain cX7_chain 4 (some .int) :: GW) { frames := 3, cells := 0, slots := 0, locals := 71 }).room s m ([.ref x0, .int a1, .int a2, .int a3] : List Value).toArray below meth c H locs 0 0 (MQ below (va_Qi (fun r (_ : Unit) => r = out) (BW D (wX cI cJ cZ x0 n0 n1 n2 n3 n4 n5 n6 q0 q1 q2 q3 v_heapsOfNet v_pickerOfNet v_tallyOfNet N_postCount N_roadCount N_first N_second N_number N_allowed N_at N_beside Q_side Q_height Q_cell Q_taken Q_ways) s.heap.size (fun _ => (wX cI cJ cZ x0 n0 n1 n2 n3 n4 n5 n6 q0 q1 q2 q3 v_heapsOfNet v_pickerOfNet v_tallyOfNet N_postCount N_roadCount N_first N_second N_number N_allowed N_at N_beside Q_side Q_height Q_cell Q_taken Q_ways))) (va_A (wX cI cJ cZ x0 n0 n1 n2 n3 n4 n5 n6 q0 q1 q2 q3 v_heapsOfNet v_pickerOfNet v_tallyOfNet N_postCount N_roadCount N_first N_second N_number N_allowed N_at N_beside Q_side Q_height Q_cell Q_taken Q_ways) s.heap.size)) ([.ref x0, .int a1, .int a2, .int a3] : List Value).toArray s 0 0 (va_A (wX cI cJ cZ x0 n0 n1 n2 n3 n4 n5 n6 q0 q1 q2 q3 v_heapsOfNet v_pickerOfNet v_tallyOfNet N_postCount N_roadCount N_first N_second N_number N_allowed N_at N_beside Q_side Q_height Q_cell Q_taken Q_ways) s.heap.size)) g
theorem kvX7_chain : CalV RX7 yX7_chain cX7_chain 4 (some .int) 3 := ⟨wC_yX7_chain, wM_yX7_chain, wS_yX7_chain, wI_RX7, by decide +kernel⟩
set_option maxHeartbeats 4000000 in
set_option maxRecDepth 100000 in
theorem kX7_chain (l : Launch) (D : va_G) (cI cJ cZ : ClassId) (x0 n0 n1 n2 n3 n4 n5 n6 q0 q1 q2 q3 : Nat) (v_heapsOfNet : Value) (v_pickerOfNet : Value) (v_tallyOfNet : Value) (N_postCount : Int32) (N_roadCount : Int32) (N_first : Nat → Int32) (N_second : Nat → Int32) (N_number : Nat → Int32) (N_allowed : Nat → Int32) (N_at : Nat → Int32) (N_beside : Nat → Int32) (Q_side : Int32) (Q_height : Int32) (Q_cell : Nat → Int32) (Q_taken : Nat → Int32) (Q_ways : Nat → Int32) (a1 : Int32) (a2 : Int32) (a3 : Int32) (out : Int32) (hf : FX7_chain N_roadCount N_number N_beside a1 a2 a3 = some out) : MI l yX7_chain (Cond.code yX7_chain cX7_chain 4 (some .int) :: GW) { frames := 3, cells := 0, slots := 0, locals := 71 } D cI cJ cZ [.ref x0, .int a1, .int a2, .int a3] (wX cI cJ cZ x0 n0 n1 n2 n3 n4 n5 n6 q0 q1 q2 q3 v_heapsOfNet v_pickerOfNet v_tallyOfNet N_postCount N_roadCount N_first N_second N_number N_allowed N_at N_beside Q_side Q_height Q_cell Q_taken Q_ways) (fun r (_ : Unit) => r = out) (fun _ => (wX cI cJ cZ x0 n0 n1 n2 n3 n4 n5 n6 q0 q1 q2 q3 v_heapsOfNet v_pickerOfNet v_tallyOfNet N_postCount N_roadCount N_first N_second N_number N_allowed N_at N_beside Q_side Q_height Q_cell Q_taken Q_ways)) := by
  intro sz
  refine Met.ofW (cc := cX7_chain) (maxL := 4) (ret := (some .int)) (by decide +kernel) rfl ?_
  intro p e s m args below meth c s₁ B hml hv
  obtain ⟨rfl, hsz, hP, hK, hD0⟩ := hv
  have hx := B.exec
  have hb := B.bytes
  have hr := B.returns
  have hlocks := B.notSynchronized
  have hg : ∀ w ∈ GW, w.before _ s = true := fun w h => atoms_spec (ws := Cond.code yX7_chain cX7_chain 4 (some .int) :: GW) B.pre w (List.mem_cons_of_mem _ h)
  have hown : s.vm.findClass RX7 = some m.cls := findClass_of_methodNamed B.named
  subst hsz
  obtain ⟨A, hAe⟩ : ∃ A, A = va_A (wX cI cJ cZ x0 n0 n1 n2 n3 n4 n5 n6 q0 q1 q2 q3 v_heapsOfNet v_pickerOfNet v_tallyOfNet N_postCount N_roadCount N_first N_second N_number N_allowed N_at N_beside Q_side Q_height Q_cell Q_taken Q_ways) s.heap.size := ⟨_, rfl⟩
  have hA : ∀ q : Nat, s.heap.size ≤ q → A q := fun q h => by rw [hAe]; exact Or.inr h
  have hI : WI D A s.heap (wX cI cJ cZ x0 n0 n1 n2 n3 n4 n5 n6 q0 q1 q2 q3 v_heapsOfNet v_pickerOfNet v_tallyOfNet N_postCount N_roadCount N_first N_second N_number N_allowed N_at N_beside Q_side Q_height Q_cell Q_taken Q_ways) s.heap [] := ⟨hP, by rw [hAe]; exact hD0.self, va_S.rf⟩
  have hl := lv_entry [.ref x0, .int a1, .int a2, .int a3] (n := 4) (Nat.le_of_ble_eq_true rfl)
  rw [lg_entry_eq]
  generalize (lg_sl [.ref x0, .int a1, .int a2, .int a3] ++ List.replicate (4 - (lg_sl [.ref x0, .int a1, .int a2, .int a3]).length) Slot.unset).toArray = ls at hl ⊢
  replace hl : lv_has ls 4 [(0, .ref x0), (1, .int a1), (2, .int a2), (3, .int a3)] := hl
  obtain ⟨x, hf, hM⟩ : ∃ x, FX7_chain N_roadCount N_number N_beside a1 a2 a3 = some x ∧ x = out := ⟨out, hf, rfl⟩
  refine lv_aload_n hx hb dX7_chain_0 rfl (lv_at hl 0 rfl) ?_
  refine lv_iload_n hx hb dX7_chain_1 rfl (lv_at hl 1 rfl) ?_
  refine lv_iload_n hx hb dX7_chain_2 rfl (lv_at hl 2 rfl) ?_
  refine lv_iload_n hx hb dX7_chain_3 rfl (lv_at hl 3 rfl) ?_
  obtain ⟨o1, ho1, hf⟩ := bd_e hf
  refine w_Vi0 (wc := (wX cI cJ cZ x0 n0 n1 n2 n3 n4 n5 n6 q0 q1 q2 q3 v_heapsOfNet v_pickerOfNet v_tallyOfNet N_postCount N_roadCount N_first N_second N_number N_allowed N_at N_beside Q_side Q_height Q_cell Q_taken Q_ways)) (wr := []) (rest := []) hx hb hml hg hown hK hA hI (kX7_hasChain l D cI cJ cZ x0 n0 n1 n2 n3 n4 n5 n6 q0 q1 q2 q3 v_heapsOfNet v_pickerOfNet v_tallyOfNet N_postCount N_roadCount N_first N_second N_number N_allowed N_at N_beside Q_side Q_height Q_cell Q_taken Q_ways a1 a2 a3 o1 ho1) kvX7_hasChain wL_RX7_82 ⟨Nat.le_of_ble_eq_true rfl, Nat.le_of_ble_eq_true rfl⟩ rfl rfl [0, 1, 2, 3, 4, 5, 6, 7, 8, 9, 10, 11] [] rfl rfl rfl rfl (by decide) rfl rfl hl.1 (Nat.le_of_ble_eq_true rfl) dX7_chain_4 ⟨Nat.zero_le _, Nat.zero_le _⟩ ⟨rfl, rfl⟩ (fun r u H locs hp hI => ?_)
  replace hp : r = o1 := hp
  rw [hp]
  clear hp
  replace hI : WI D A s.heap (wX cI cJ cZ x0 n0 n1 n2 n3 n4 n5 n6 q0 q1 q2 q3 v_heapsOfNet v_pickerOfNet v_tallyOfNet N_postCount N_roadCount N_first N_second N_number N_allowed N_at N_beside Q_side Q_height Q_cell Q_taken Q_ways) H locs := hI
  refine lv_if_ne (tgt := 13) hx hb dX7_chain_7 (by decide) (fun hc => ?_) (fun hc => ?_)
  · replace hf := ite_f hc hf
    refine lv_aload_n hx hb dX7_chain_13 rfl (lv_at hl 0 rfl) ?_
    refine w_get hx hb hg hown hK hI iX7 0 rfl rfl 0 (by decide) wF_RX7_12 rfl dX7_chain_14 ?_
    refine lv_iload_n hx hb dX7_chain_17 rfl (lv_at hl 1 rfl) ?_
    refine lv_iload_n hx hb dX7_chain_18 rfl (lv_at hl 2 rfl) ?_
    refine lv_iload_n hx hb dX7_chain_19 rfl (lv_at hl 3 rfl) ?_
    obtain ⟨o2, ho2, hf⟩ := bd_e hf
    refine w_Vi0 (wc := (wN cI cJ cZ n0 n1 n2 n3 n4 n5 n6 N_postCount N_roadCount N_first N_second N_number N_allowed N_at N_beside)) (wr := [(x0, .inr (7, [.ref n0, .ref q0, v_heapsOfNet, v_pickerOfNet, v_tallyOfNet])), (q0, .inr (5, [.int Q_side, .int Q_height, .ref q1, .ref q2, .ref q3])), (q1, .inl (cI, 81, .inl Q_cell)), (q2, .inl (cI, 9, .inl Q_taken)), (q3, .inl (cI, 512, .inl Q_ways))]) (rest := []) hx hb hml hg hown hK hA hI (kX3_chainOf l D cI cJ cZ n0 n1 n2 n3 n4 n5 n6 N_postCount N_roadCount N_first N_second N_number N_allowed N_at N_beside a1 a2 a3 o2 ho2) kvX3_chainOf wL_RX7_86 ⟨Nat.le_of_ble_eq_true rfl, Nat.le_of_ble_eq_true rfl⟩ rfl rfl [1, 2, 3, 4, 5, 6, 7] [0, 8, 9, 10, 11] rfl rfl rfl rfl (by decide) rfl rfl hl.1 (Nat.le_of_ble_eq_true rfl) dX7_chain_20 ⟨Nat.zero_le _, Nat.zero_le _⟩ ⟨rfl, rfl⟩ (fun r u H locs hp hI => ?_)
    replace hp : r = o2 := hp
    rw [hp]
    clear hp
    replace hI : WI D A s.heap (wX cI cJ cZ x0 n0 n1 n2 n3 n4 n5 n6 q0 q1 q2 q3 v_heapsOfNet v_pickerOfNet v_tallyOfNet N_postCount N_roadCount N_first N_second N_number N_allowed N_at N_beside Q_side Q_height Q_cell Q_taken Q_ways) H locs := hI.perm [0, 5, 6, 7, 8, 9, 10, 11, 1, 2, 3, 4] rfl rfl
    obtain ⟨x3, hx3, hf⟩ := bd_e hf
    refine w_S (rest := []) hx hb hml hg hown hK (kJ6_bitCount_0f7a4 l D cI cJ cZ o2 x3 hx3) ksJ6_bitCount_0f7a4 wL_RX7_70 ⟨Nat.le_of_ble_eq_true rfl, Nat.le_of_ble_eq_true rfl⟩ ⟨rfl, rfl⟩ rfl rfl hl.1 (Nat.le_of_ble_eq_true rfl) dX7_chain_23 ⟨Nat.zero_le _, Nat.zero_le _⟩ ?_
    replace hf := Option.some.inj hf
    subst hf
    replace hM : x3 = out := hM
    subst hM
    exact rt_i (u := ()) hx hb hr hlocks rfl hI hAe rfl dX7_chain_26
  · replace hf := ite_t hc hf
    refine lv_bipush (v := -2) hx hb dX7_chain_10 (by decide) ?_
    replace hf := Option.some.inj hf
    subst hf
    replace hM : (-2 : Int32) = out := hM
    subst hM
    exact rt_i (u := ()) hx hb hr hlocks rfl hI hAe rfl dX7_chain_12
noncomputable def FX7_swap (N_roadCount : Int32) (N_number_0 : Nat → Int32) (N_beside : Nat → Int32) (a1 : Int32) (a2 : Int32) (a3 : Int32) : Option (Int32 × (Nat → Int32)) :=
  (FX7_hasChain N_roadCount N_number_0 a1 a2 a3).bind (fun o1 => if o1 = (0 : Int32) then (some ((-2 : Int32), N_number_0)) else ((FX3_chainOf N_roadCount N_number_0 N_beside a1 a2 a3).bind (fun o2 => (FX3_exchange N_roadCount N_number_0 o2 a2 a3).bind (fun o3 => (FJ6_bitCount_0f7a4 o2).bind (fun x4 => some (x4, o3))))))
abbrev GX7_swap (p : Program) (l : Launch) (e : Env) (s : State) (m : MethodId) (below : List Frame) (meth : Method) (c : Code) (D : va_G) (cI cJ cZ : ClassId) (x0 n0 n1 n2 n3 n4 n5 n6 q0 q1 q2 q3 : Nat) (v_heapsOfNet : Value) (v_pickerOfNet : Value) (v_tallyOfNet : Value) (N_postCount : Int32) (N_roadCount : Int32) (N_first : Nat → Int32) (N_second : Nat → Int32) (N_number_0 : Nat → Int32) (N_allowed : Nat → Int32) (N_at : Nat → Int32) (N_beside : Nat → Int32) (Q_side : Int32) (Q_height : Int32) (Q_cell : Nat → Int32) (Q_taken : Nat → Int32) (Q_ways : Nat → Int32) (a1 : Int32) (a2 : Int32) (a3 : Int32) (out : Int32 × (Nat → Int32)) (H : Heap) (locs : List Loc) (g : JFrame) : Prop := W p l e (headSpec (Cond.code yX7_swap cX7_swap 5 (some .int) :: GW) { frames := 3, cells := 0, slots := 0, locals := 71 }).room s m ([.ref x0, .int a1, .int a2, .int a3] : List Value).toArray below meth c H locs 0 0 (MQ below (va_Qi (fun r (_ : Unit) => r = out.1) (BW D (wX cI cJ cZ x0 n0 n1 n2 n3 n4 n5 n6 q0 q1 q2 q3 v_heapsOfNet v_pickerOfNet v_tallyOfNet N_postCount N_roadCount N_first N_second N_number_0 N_allowed N_at N_beside Q_side Q_height Q_cell Q_taken Q_ways) s.heap.size (fun _ => (wX cI cJ cZ x0 n0 n1 n2 n3 n4 n5 n6 q0 q1 q2 q3 v_heapsOfNet v_pickerOfNet v_tallyOfNet N_postCount N_roadCount N_first N_second out.2 N_allowed N_at N_beside Q_side Q_height Q_cell Q_taken Q_ways))) (va_A (wX cI cJ cZ x0 n0 n1 n2 n3 n4 n5 n6 q0 q1 q2 q3 v_heapsOfNet v_pickerOfNet v_tallyOfNet N_postCount N_roadCount N_first N_second N_number_0 N_allowed N_at N_beside Q_side Q_height Q_cell Q_taken Q_ways) s.heap.size)) ([.ref x0, .int a1, .int a2, .int a3] : List Value).toArray s 0 0 (va_A (wX cI cJ cZ x0 n0 n1 n2 n3 n4 n5 n6 q0 q1 q2 q3 v_heapsOfNet v_pickerOfNet v_tallyOfNet N_postCount N_roadCount N_first N_second N_number_0 N_allowed N_at N_beside Q_side Q_height Q_cell Q_taken Q_ways) s.heap.size)) g
theorem kvX7_swap : CalV RX7 yX7_swap cX7_swap 5 (some .int) 3 := ⟨wC_yX7_swap, wM_yX7_swap, wS_yX7_swap, wI_RX7, by decide +kernel⟩
set_option maxHeartbeats 4000000 in
set_option maxRecDepth 100000 in
theorem kX7_swap (l : Launch) (D : va_G) (cI cJ cZ : ClassId) (x0 n0 n1 n2 n3 n4 n5 n6 q0 q1 q2 q3 : Nat) (v_heapsOfNet : Value) (v_pickerOfNet : Value) (v_tallyOfNet : Value) (N_postCount : Int32) (N_roadCount : Int32) (N_first : Nat → Int32) (N_second : Nat → Int32) (N_number_0 : Nat → Int32) (N_allowed : Nat → Int32) (N_at : Nat → Int32) (N_beside : Nat → Int32) (Q_side : Int32) (Q_height : Int32) (Q_cell : Nat → Int32) (Q_taken : Nat → Int32) (Q_ways : Nat → Int32) (a1 : Int32) (a2 : Int32) (a3 : Int32) (out : Int32 × (Nat → Int32)) (hf : FX7_swap N_roadCount N_number_0 N_beside a1 a2 a3 = some out) : MI l yX7_swap (Cond.code yX7_swap cX7_swap 5 (some .int) :: GW) { frames := 3, cells := 0, slots := 0, locals := 71 } D cI cJ cZ [.ref x0, .int a1, .int a2, .int a3] (wX cI cJ cZ x0 n0 n1 n2 n3 n4 n5 n6 q0 q1 q2 q3 v_heapsOfNet v_pickerOfNet v_tallyOfNet N_postCount N_roadCount N_first N_second N_number_0 N_allowed N_at N_beside Q_side Q_height Q_cell Q_taken Q_ways) (fun r (_ : Unit) => r = out.1) (fun _ => (wX cI cJ cZ x0 n0 n1 n2 n3 n4 n5 n6 q0 q1 q2 q3 v_heapsOfNet v_pickerOfNet v_tallyOfNet N_postCount N_roadCount N_first N_second out.2 N_allowed N_at N_beside Q_side Q_height Q_cell Q_taken Q_ways)) := by
  intro sz
  refine Met.ofW (cc := cX7_swap) (maxL := 5) (ret := (some .int)) (by decide +kernel) rfl ?_
  intro p e s m args below meth c s₁ B hml hv
  obtain ⟨rfl, hsz, hP, hK, hD0⟩ := hv
  have hx := B.exec
  have hb := B.bytes
  have hr := B.returns
  have hlocks := B.notSynchronized
  have hg : ∀ w ∈ GW, w.before _ s = true := fun w h => atoms_spec (ws := Cond.code yX7_swap cX7_swap 5 (some .int) :: GW) B.pre w (List.mem_cons_of_mem _ h)
  have hown : s.vm.findClass RX7 = some m.cls := findClass_of_methodNamed B.named
  subst hsz
  obtain ⟨A, hAe⟩ : ∃ A, A = va_A (wX cI cJ cZ x0 n0 n1 n2 n3 n4 n5 n6 q0 q1 q2 q3 v_heapsOfNet v_pickerOfNet v_tallyOfNet N_postCount N_roadCount N_first N_second N_number_0 N_allowed N_at N_beside Q_side Q_height Q_cell Q_taken Q_ways) s.heap.size := ⟨_, rfl⟩
  have hA : ∀ q : Nat, s.heap.size ≤ q → A q := fun q h => by rw [hAe]; exact Or.inr h
  have hI : WI D A s.heap (wX cI cJ cZ x0 n0 n1 n2 n3 n4 n5 n6 q0 q1 q2 q3 v_heapsOfNet v_pickerOfNet v_tallyOfNet N_postCount N_roadCount N_first N_second N_number_0 N_allowed N_at N_beside Q_side Q_height Q_cell Q_taken Q_ways) s.heap [] := ⟨hP, by rw [hAe]; exact hD0.self, va_S.rf⟩
  have hl := lv_entry [.ref x0, .int a1, .int a2, .int a3] (n := 5) (Nat.le_of_ble_eq_true rfl)
  rw [lg_entry_eq]
  generalize (lg_sl [.ref x0, .int a1, .int a2, .int a3] ++ List.replicate (5 - (lg_sl [.ref x0, .int a1, .int a2, .int a3]).length) Slot.unset).toArray = ls at hl ⊢
  replace hl : lv_has ls 5 [(0, .ref x0), (1, .int a1), (2, .int a2), (3, .int a3)] := hl
  obtain ⟨x, hf, hM⟩ : ∃ x, FX7_swap N_roadCount N_number_0 N_beside a1 a2 a3 = some x ∧ x = out := ⟨out, hf, rfl⟩
  refine lv_aload_n hx hb dX7_swap_0 rfl (lv_at hl 0 rfl) ?_
  refine lv_iload_n hx hb dX7_swap_1 rfl (lv_at hl 1 rfl) ?_
  refine lv_iload_n hx hb dX7_swap_2 rfl (lv_at hl 2 rfl) ?_
  refine lv_iload_n hx hb dX7_swap_3 rfl (lv_at hl 3 rfl) ?_
  obtain ⟨o1, ho1, hf⟩ := bd_e hf
  refine w_Vi0 (wc := (wX cI cJ cZ x0 n0 n1 n2 n3 n4 n5 n6 q0 q1 q2 q3 v_heapsOfNet v_pickerOfNet v_tallyOfNet N_postCount N_roadCount N_first N_second N_number_0 N_allowed N_at N_beside Q_side Q_height Q_cell Q_taken Q_ways)) (wr := []) (rest := []) hx hb hml hg hown hK hA hI (kX7_hasChain l D cI cJ cZ x0 n0 n1 n2 n3 n4 n5 n6 q0 q1 q2 q3 v_heapsOfNet v_pickerOfNet v_tallyOfNet N_postCount N_roadCount N_first N_second N_number_0 N_allowed N_at N_beside Q_side Q_height Q_cell Q_taken Q_ways a1 a2 a3 o1 ho1) kvX7_hasChain wL_RX7_82 ⟨Nat.le_of_ble_eq_true rfl, Nat.le_of_ble_eq_true rfl⟩ rfl rfl [0, 1, 2, 3, 4, 5, 6, 7, 8, 9, 10, 11] [] rfl rfl rfl rfl (by decide) rfl rfl hl.1 (Nat.le_of_ble_eq_true rfl) dX7_swap_4 ⟨Nat.zero_le _, Nat.zero_le _⟩ ⟨rfl, rfl⟩ (fun r u H locs hp hI => ?_)
  replace hp : r = o1 := hp
  rw [hp]
  clear hp
  replace hI : WI D A s.heap (wX cI cJ cZ x0 n0 n1 n2 n3 n4 n5 n6 q0 q1 q2 q3 v_heapsOfNet v_pickerOfNet v_tallyOfNet N_postCount N_roadCount N_first N_second N_number_0 N_allowed N_at N_beside Q_side Q_height Q_cell Q_taken Q_ways) H locs := hI
  refine lv_if_ne (tgt := 13) hx hb dX7_swap_7 (by decide) (fun hc => ?_) (fun hc => ?_)
  · replace hf := ite_f hc hf
    refine lv_aload_n hx hb dX7_swap_13 rfl (lv_at hl 0 rfl) ?_
    refine w_get hx hb hg hown hK hI iX7 0 rfl rfl 0 (by decide) wF_RX7_12 rfl dX7_swap_14 ?_
    refine lv_iload_n hx hb dX7_swap_17 rfl (lv_at hl 1 rfl) ?_
    refine lv_iload_n hx hb dX7_swap_18 rfl (lv_at hl 2 rfl) ?_
    refine lv_iload_n hx hb dX7_swap_19 rfl (lv_at hl 3 rfl) ?_
    obtain ⟨o2, ho2, hf⟩ := bd_e hf
    refine w_Vi0 (wc := (wN cI cJ cZ n0 n1 n2 n3 n4 n5 n6 N_postCount N_roadCount N_first N_second N_number_0 N_allowed N_at N_beside)) (wr := [(x0, .inr (7, [.ref n0, .ref q0, v_heapsOfNet, v_pickerOfNet, v_tallyOfNet])), (q0, .inr (5, [.int Q_side, .int Q_height, .ref q1, .ref q2, .ref q3])), (q1, .inl (cI, 81, .inl Q_cell)), (q2, .inl (cI, 9, .inl Q_taken)), (q3, .inl (cI, 512, .inl Q_ways))]) (rest := []) hx hb hml hg hown hK hA hI (kX3_chainOf l D cI cJ cZ n0 n1 n2 n3 n4 n5 n6 N_postCount N_roadCount N_first N_second N_number_0 N_allowed N_at N_beside a1 a2 a3 o2 ho2) kvX3_chainOf wL_RX7_86 ⟨Nat.le_of_ble_eq_true rfl, Nat.le_of_ble_eq_true rfl⟩ rfl rfl [1, 2, 3, 4, 5, 6, 7] [0, 8, 9, 10, 11] rfl rfl rfl rfl (by decide) rfl rfl hl.1 (Nat.le_of_ble_eq_true rfl) dX7_swap_20 ⟨Nat.zero_le _, Nat.zero_le _⟩ ⟨rfl, rfl⟩ (fun r u H locs hp hI => ?_)
    replace hp : r = o2 := hp
    rw [hp]
    clear hp
    replace hI : WI D A s.heap (wX cI cJ cZ x0 n0 n1 n2 n3 n4 n5 n6 q0 q1 q2 q3 v_heapsOfNet v_pickerOfNet v_tallyOfNet N_postCount N_roadCount N_first N_second N_number_0 N_allowed N_at N_beside Q_side Q_height Q_cell Q_taken Q_ways) H locs := hI.perm [0, 5, 6, 7, 8, 9, 10, 11, 1, 2, 3, 4] rfl rfl
    refine lv_istore (lv' := [(4, .int o2), (0, .ref x0), (1, .int a1), (2, .int a2), (3, .int a3)]) hx hb dX7_swap_23 hl (by decide) rfl (fun ls hl => ?_)
    refine lv_aload_n hx hb dX7_swap_25 rfl (lv_at hl 1 rfl) ?_
    refine w_get hx hb hg hown hK hI iX7 0 rfl rfl 0 (by decide) wF_RX7_12 rfl dX7_swap_26 ?_
    refine lv_iload hx hb dX7_swap_29 (lv_at hl 0 rfl) ?_
    refine lv_iload_n hx hb dX7_swap_31 rfl (lv_at hl 3 rfl) ?_
    refine lv_iload_n hx hb dX7_swap_32 rfl (lv_at hl 4 rfl) ?_
    obtain ⟨o3, ho3, hf⟩ := bd_e hf
    refine w_Vv0 (wc := (wN cI cJ cZ n0 n1 n2 n3 n4 n5 n6 N_postCount N_roadCount N_first N_second N_number_0 N_allowed N_at N_beside)) (wr := [(x0, .inr (7, [.ref n0, .ref q0, v_heapsOfNet, v_pickerOfNet, v_tallyOfNet])), (q0, .inr (5, [.int Q_side, .int Q_height, .ref q1, .ref q2, .ref q3])), (q1, .inl (cI, 81, .inl Q_cell)), (q2, .inl (cI, 9, .inl Q_taken)), (q3, .inl (cI, 512, .inl Q_ways))]) (rest := []) hx hb hml hg hown hK hA hI (kX3_exchange l D cI cJ cZ n0 n1 n2 n3 n4 n5 n6 N_postCount N_roadCount N_first N_second N_number_0 N_allowed N_at N_beside o2 a2 a3 o3 ho3) kvX3_exchange wL_RX7_90 ⟨Nat.le_of_ble_eq_true rfl, Nat.le_of_ble_eq_true rfl⟩ rfl rfl [1, 2, 3, 4, 5, 6, 7] [0, 8, 9, 10, 11] rfl rfl rfl rfl (by decide) rfl rfl hl.1 (Nat.le_of_ble_eq_true rfl) dX7_swap_33 ⟨Nat.zero_le _, Nat.zero_le _⟩ ⟨rfl, rfl⟩ (fun  u H locs hp hI => ?_)
    replace hI : WI D A s.heap (wX cI cJ cZ x0 n0 n1 n2 n3 n4 n5 n6 q0 q1 q2 q3 v_heapsOfNet v_pickerOfNet v_tallyOfNet N_postCount N_roadCount N_first N_second o3 N_allowed N_at N_beside Q_side Q_height Q_cell Q_taken Q_ways) H locs := hI.perm [0, 5, 6, 7, 8, 9, 10, 11, 1, 2, 3, 4] rfl rfl
    refine lv_iload hx hb dX7_swap_36 (lv_at hl 0 rfl) ?_
    obtain ⟨x4, hx4, hf⟩ := bd_e hf
    refine w_S (rest := []) hx hb hml hg hown hK (kJ6_bitCount_0f7a4 l D cI cJ cZ o2 x4 hx4) ksJ6_bitCount_0f7a4 wL_RX7_70 ⟨Nat.le_of_ble_eq_true rfl, Nat.le_of_ble_eq_true rfl⟩ ⟨rfl, rfl⟩ rfl rfl hl.1 (Nat.le_of_ble_eq_true rfl) dX7_swap_38 ⟨Nat.zero_le _, Nat.zero_le _⟩ ?_
    replace hf := Option.some.inj hf
    subst hf
    replace hM : (x4, o3) = out := hM
    subst hM
    exact rt_i (u := ()) hx hb hr hlocks rfl hI hAe rfl dX7_swap_41
  · replace hf := ite_t hc hf
    refine lv_bipush (v := -2) hx hb dX7_swap_10 (by decide) ?_
    replace hf := Option.some.inj hf
    subst hf
    replace hM : ((-2 : Int32), N_number_0) = out := hM
    subst hM
    exact rt_i (u := ()) hx hb hr hlocks rfl hI hAe rfl dX7_swap_12
noncomputable def FX7_heaps (N_postCount : Int32) (N_roadCount : Int32) (N_first : Nat → Int32) (N_second : Nat → Int32)  : Option (Int32) :=
  (FX3_isInTwoHeaps N_postCount N_roadCount N_first N_second).bind (fun o1 => (FX7_asBit o1).bind (fun x2 => some x2))
abbrev GX7_heaps (p : Program) (l : Launch) (e : Env) (s : State) (m : MethodId) (below : List Frame) (meth : Method) (c : Code) (D : va_G) (cI cJ cZ : ClassId) (x0 n0 n1 n2 n3 n4 n5 n6 q0 q1 q2 q3 : Nat) (v_heapsOfNet : Value) (v_pickerOfNet : Value) (v_tallyOfNet : Value) (N_postCount : Int32) (N_roadCount : Int32) (N_first : Nat → Int32) (N_second : Nat → Int32) (N_number : Nat → Int32) (N_allowed : Nat → Int32) (N_at : Nat → Int32) (N_beside : Nat → Int32) (Q_side : Int32) (Q_height : Int32) (Q_cell : Nat → Int32) (Q_taken : Nat → Int32) (Q_ways : Nat → Int32)  (out : Int32) (H : Heap) (locs : List Loc) (g : JFrame) : Prop := W p l e (headSpec (Cond.code yX7_heaps cX7_heaps 1 (some .int) :: GW) { frames := 3, cells := 0, slots := 0, locals := 69 }).room s m ([.ref x0] : List Value).toArray below meth c H locs 0 0 (MQ below (va_Qi (fun r (_ : Unit) => r = out) (BW D (wX cI cJ cZ x0 n0 n1 n2 n3 n4 n5 n6 q0 q1 q2 q3 v_heapsOfNet v_pickerOfNet v_tallyOfNet N_postCount N_roadCount N_first N_second N_number N_allowed N_at N_beside Q_side Q_height Q_cell Q_taken Q_ways) s.heap.size (fun _ => (wX cI cJ cZ x0 n0 n1 n2 n3 n4 n5 n6 q0 q1 q2 q3 v_heapsOfNet v_pickerOfNet v_tallyOfNet N_postCount N_roadCount N_first N_second N_number N_allowed N_at N_beside Q_side Q_height Q_cell Q_taken Q_ways))) (va_A (wX cI cJ cZ x0 n0 n1 n2 n3 n4 n5 n6 q0 q1 q2 q3 v_heapsOfNet v_pickerOfNet v_tallyOfNet N_postCount N_roadCount N_first N_second N_number N_allowed N_at N_beside Q_side Q_height Q_cell Q_taken Q_ways) s.heap.size)) ([.ref x0] : List Value).toArray s 0 0 (va_A (wX cI cJ cZ x0 n0 n1 n2 n3 n4 n5 n6 q0 q1 q2 q3 v_heapsOfNet v_pickerOfNet v_tallyOfNet N_postCount N_roadCount N_first N_second N_number N_allowed N_at N_beside Q_side Q_height Q_cell Q_taken Q_ways) s.heap.size)) g
theorem kvX7_heaps : CalV RX7 yX7_heaps cX7_heaps 1 (some .int) 0 := ⟨wC_yX7_heaps, wM_yX7_heaps, wS_yX7_heaps, wI_RX7, by decide +kernel⟩
set_option maxHeartbeats 4000000 in
set_option maxRecDepth 100000 in
theorem kX7_heaps (l : Launch) (D : va_G) (cI cJ cZ : ClassId) (x0 n0 n1 n2 n3 n4 n5 n6 q0 q1 q2 q3 : Nat) (v_heapsOfNet : Value) (v_pickerOfNet : Value) (v_tallyOfNet : Value) (N_postCount : Int32) (N_roadCount : Int32) (N_first : Nat → Int32) (N_second : Nat → Int32) (N_number : Nat → Int32) (N_allowed : Nat → Int32) (N_at : Nat → Int32) (N_beside : Nat → Int32) (Q_side : Int32) (Q_height : Int32) (Q_cell : Nat → Int32) (Q_taken : Nat → Int32) (Q_ways : Nat → Int32)  (out : Int32) (hf : FX7_heaps N_postCount N_roadCount N_first N_second = some out) : MI l yX7_heaps (Cond.code yX7_heaps cX7_heaps 1 (some .int) :: GW) { frames := 3, cells := 0, slots := 0, locals := 69 } D cI cJ cZ [.ref x0] (wX cI cJ cZ x0 n0 n1 n2 n3 n4 n5 n6 q0 q1 q2 q3 v_heapsOfNet v_pickerOfNet v_tallyOfNet N_postCount N_roadCount N_first N_second N_number N_allowed N_at N_beside Q_side Q_height Q_cell Q_taken Q_ways) (fun r (_ : Unit) => r = out) (fun _ => (wX cI cJ cZ x0 n0 n1 n2 n3 n4 n5 n6 q0 q1 q2 q3 v_heapsOfNet v_pickerOfNet v_tallyOfNet N_postCount N_roadCount N_first N_second N_number N_allowed N_at N_beside Q_side Q_height Q_cell Q_taken Q_ways)) := by
  intro sz
  refine Met.ofW (cc := cX7_heaps) (maxL := 1) (ret := (some .int)) (by decide +kernel) rfl ?_
  intro p e s m args below meth c s₁ B hml hv
  obtain ⟨rfl, hsz, hP, hK, hD0⟩ := hv
  have hx := B.exec
  have hb := B.bytes
  have hr := B.returns
  have hlocks := B.notSynchronized
  have hg : ∀ w ∈ GW, w.before _ s = true := fun w h => atoms_spec (ws := Cond.code yX7_heaps cX7_heaps 1 (some .int) :: GW) B.pre w (List.mem_cons_of_mem _ h)
  have hown : s.vm.findClass RX7 = some m.cls := findClass_of_methodNamed B.named
  subst hsz
  obtain ⟨A, hAe⟩ : ∃ A, A = va_A (wX cI cJ cZ x0 n0 n1 n2 n3 n4 n5 n6 q0 q1 q2 q3 v_heapsOfNet v_pickerOfNet v_tallyOfNet N_postCount N_roadCount N_first N_second N_number N_allowed N_at N_beside Q_side Q_height Q_cell Q_taken Q_ways) s.heap.size := ⟨_, rfl⟩
  have hA : ∀ q : Nat, s.heap.size ≤ q → A q := fun q h => by rw [hAe]; exact Or.inr h
  have hI : WI D A s.heap (wX cI cJ cZ x0 n0 n1 n2 n3 n4 n5 n6 q0 q1 q2 q3 v_heapsOfNet v_pickerOfNet v_tallyOfNet N_postCount N_roadCount N_first N_second N_number N_allowed N_at N_beside Q_side Q_height Q_cell Q_taken Q_ways) s.heap [] := ⟨hP, by rw [hAe]; exact hD0.self, va_S.rf⟩
  have hl := lv_entry [.ref x0] (n := 1) (Nat.le_of_ble_eq_true rfl)
  rw [lg_entry_eq]
  generalize (lg_sl [.ref x0] ++ List.replicate (1 - (lg_sl [.ref x0]).length) Slot.unset).toArray = ls at hl ⊢
  replace hl : lv_has ls 1 [(0, .ref x0)] := hl
  obtain ⟨x, hf, hM⟩ : ∃ x, FX7_heaps N_postCount N_roadCount N_first N_second = some x ∧ x = out := ⟨out, hf, rfl⟩
  refine lv_aload_n hx hb dX7_heaps_0 rfl (lv_at hl 0 rfl) ?_
  refine w_get hx hb hg hown hK hI iX7 0 rfl rfl 0 (by decide) wF_RX7_12 rfl dX7_heaps_1 ?_
  obtain ⟨o1, ho1, hf⟩ := bd_e hf
  refine w_Vi0 (wc := (wN cI cJ cZ n0 n1 n2 n3 n4 n5 n6 N_postCount N_roadCount N_first N_second N_number N_allowed N_at N_beside)) (wr := [(x0, .inr (7, [.ref n0, .ref q0, v_heapsOfNet, v_pickerOfNet, v_tallyOfNet])), (q0, .inr (5, [.int Q_side, .int Q_height, .ref q1, .ref q2, .ref q3])), (q1, .inl (cI, 81, .inl Q_cell)), (q2, .inl (cI, 9, .inl Q_taken)), (q3, .inl (cI, 512, .inl Q_ways))]) (rest := []) hx hb hml hg hown hK hA hI (kX3_isInTwoHeaps l D cI cJ cZ n0 n1 n2 n3 n4 n5 n6 N_postCount N_roadCount N_first N_second N_number N_allowed N_at N_beside  o1 ho1) kvX3_isInTwoHeaps wL_RX7_112 ⟨Nat.le_of_ble_eq_true rfl, Nat.le_of_ble_eq_true rfl⟩ rfl rfl [1, 2, 3, 4, 5, 6, 7] [0, 8, 9, 10, 11] rfl rfl rfl rfl (by decide) rfl rfl hl.1 (Nat.le_of_ble_eq_true rfl) dX7_heaps_4 ⟨Nat.zero_le _, Nat.zero_le _⟩ ⟨rfl, rfl⟩ (fun r u H locs hp hI => ?_)
  replace hp : r = o1 := hp
  rw [hp]
  clear hp
  replace hI : WI D A s.heap (wX cI cJ cZ x0 n0 n1 n2 n3 n4 n5 n6 q0 q1 q2 q3 v_heapsOfNet v_pickerOfNet v_tallyOfNet N_postCount N_roadCount N_first N_second N_number N_allowed N_at N_beside Q_side Q_height Q_cell Q_taken Q_ways) H locs := hI.perm [0, 5, 6, 7, 8, 9, 10, 11, 1, 2, 3, 4] rfl rfl
  obtain ⟨x2, hx2, hf⟩ := bd_e hf
  refine w_S (rest := []) hx hb hml hg hown hK (kX7_asBit l D cI cJ cZ o1 x2 hx2) ksX7_asBit wL_RX7_115 ⟨Nat.le_of_ble_eq_true rfl, Nat.le_of_ble_eq_true rfl⟩ ⟨rfl, rfl⟩ rfl rfl hl.1 (Nat.le_of_ble_eq_true rfl) dX7_heaps_7 ⟨Nat.zero_le _, Nat.zero_le _⟩ ?_
  replace hf := Option.some.inj hf
  subst hf
  replace hM : x2 = out := hM
  subst hM
  exact rt_i (u := ()) hx hb hr hlocks rfl hI hAe rfl dX7_heaps_10
noncomputable def FX7_two (N_postCount : Int32) (N_roadCount : Int32) (N_first : Nat → Int32) (N_second : Nat → Int32) (N_number_0 : Nat → Int32) (N_at : Nat → Int32) (N_beside : Nat → Int32)  : Option (Int32 × (Nat → Int32)) :=
  (FX3_fullest N_postCount N_at).bind (fun o1 => (FX3_isInTwoHeaps N_postCount N_roadCount N_first N_second).bind (fun o2 => if o2 = (0 : Int32) then (some ((-2 : Int32), N_number_0)) else (if o1 ≤ (16 : Int32) then ((FX3_colourTwoHeaps N_roadCount N_first N_second N_number_0 N_at N_beside o1).bind (fun o3 => some (o1, o3))) else (some ((-2 : Int32), N_number_0)))))
abbrev GX7_two (p : Program) (l : Launch) (e : Env) (s : State) (m : MethodId) (below : List Frame) (meth : Method) (c : Code) (D : va_G) (cI cJ cZ : ClassId) (x0 n0 n1 n2 n3 n4 n5 n6 q0 q1 q2 q3 : Nat) (v_heapsOfNet : Value) (v_pickerOfNet : Value) (v_tallyOfNet : Value) (N_postCount : Int32) (N_roadCount : Int32) (N_first : Nat → Int32) (N_second : Nat → Int32) (N_number_0 : Nat → Int32) (N_allowed : Nat → Int32) (N_at : Nat → Int32) (N_beside : Nat → Int32) (Q_side : Int32) (Q_height : Int32) (Q_cell : Nat → Int32) (Q_taken : Nat → Int32) (Q_ways : Nat → Int32)  (out : Int32 × (Nat → Int32)) (H : Heap) (locs : List Loc) (g : JFrame) : Prop := W p l e (headSpec (Cond.code yX7_two cX7_two 2 (some .int) :: GW) { frames := 5, cells := 0, slots := 0, locals := 121 }).room s m ([.ref x0] : List Value).toArray below meth c H locs 0 0 (MQ below (va_Qi (fun r (_ : Unit) => r = out.1) (BW D (wX cI cJ cZ x0 n0 n1 n2 n3 n4 n5 n6 q0 q1 q2 q3 v_heapsOfNet v_pickerOfNet v_tallyOfNet N_postCount N_roadCount N_first N_second N_number_0 N_allowed N_at N_beside Q_side Q_height Q_cell Q_taken Q_ways) s.heap.size (fun _ => (wX cI cJ cZ x0 n0 n1 n2 n3 n4 n5 n6 q0 q1 q2 q3 v_heapsOfNet v_pickerOfNet v_tallyOfNet N_postCount N_roadCount N_first N_second out.2 N_allowed N_at N_beside Q_side Q_height Q_cell Q_taken Q_ways))) (va_A (wX cI cJ cZ x0 n0 n1 n2 n3 n4 n5 n6 q0 q1 q2 q3 v_heapsOfNet v_pickerOfNet v_tallyOfNet N_postCount N_roadCount N_first N_second N_number_0 N_allowed N_at N_beside Q_side Q_height Q_cell Q_taken Q_ways) s.heap.size)) ([.ref x0] : List Value).toArray s 0 0 (va_A (wX cI cJ cZ x0 n0 n1 n2 n3 n4 n5 n6 q0 q1 q2 q3 v_heapsOfNet v_pickerOfNet v_tallyOfNet N_postCount N_roadCount N_first N_second N_number_0 N_allowed N_at N_beside Q_side Q_height Q_cell Q_taken Q_ways) s.heap.size)) g
theorem kvX7_two : CalV RX7 yX7_two cX7_two 2 (some .int) 0 := ⟨wC_yX7_two, wM_yX7_two, wS_yX7_two, wI_RX7, by decide +kernel⟩
set_option maxHeartbeats 4000000 in
set_option maxRecDepth 100000 in
theorem kX7_two (l : Launch) (D : va_G) (cI cJ cZ : ClassId) (x0 n0 n1 n2 n3 n4 n5 n6 q0 q1 q2 q3 : Nat) (v_heapsOfNet : Value) (v_pickerOfNet : Value) (v_tallyOfNet : Value) (N_postCount : Int32) (N_roadCount : Int32) (N_first : Nat → Int32) (N_second : Nat → Int32) (N_number_0 : Nat → Int32) (N_allowed : Nat → Int32) (N_at : Nat → Int32) (N_beside : Nat → Int32) (Q_side : Int32) (Q_height : Int32) (Q_cell : Nat → Int32) (Q_taken : Nat → Int32) (Q_ways : Nat → Int32)  (out : Int32 × (Nat → Int32)) (hf : FX7_two N_postCount N_roadCount N_first N_second N_number_0 N_at N_beside = some out) : MI l yX7_two (Cond.code yX7_two cX7_two 2 (some .int) :: GW) { frames := 5, cells := 0, slots := 0, locals := 121 } D cI cJ cZ [.ref x0] (wX cI cJ cZ x0 n0 n1 n2 n3 n4 n5 n6 q0 q1 q2 q3 v_heapsOfNet v_pickerOfNet v_tallyOfNet N_postCount N_roadCount N_first N_second N_number_0 N_allowed N_at N_beside Q_side Q_height Q_cell Q_taken Q_ways) (fun r (_ : Unit) => r = out.1) (fun _ => (wX cI cJ cZ x0 n0 n1 n2 n3 n4 n5 n6 q0 q1 q2 q3 v_heapsOfNet v_pickerOfNet v_tallyOfNet N_postCount N_roadCount N_first N_second out.2 N_allowed N_at N_beside Q_side Q_height Q_cell Q_taken Q_ways)) := by
  intro sz
  refine Met.ofW (cc := cX7_two) (maxL := 2) (ret := (some .int)) (by decide +kernel) rfl ?_
  intro p e s m args below meth c s₁ B hml hv
  obtain ⟨rfl, hsz, hP, hK, hD0⟩ := hv
  have hx := B.exec
  have hb := B.bytes
  have hr := B.returns
  have hlocks := B.notSynchronized
  have hg : ∀ w ∈ GW, w.before _ s = true := fun w h => atoms_spec (ws := Cond.code yX7_two cX7_two 2 (some .int) :: GW) B.pre w (List.mem_cons_of_mem _ h)
  have hown : s.vm.findClass RX7 = some m.cls := findClass_of_methodNamed B.named
  subst hsz
  obtain ⟨A, hAe⟩ : ∃ A, A = va_A (wX cI cJ cZ x0 n0 n1 n2 n3 n4 n5 n6 q0 q1 q2 q3 v_heapsOfNet v_pickerOfNet v_tallyOfNet N_postCount N_roadCount N_first N_second N_number_0 N_allowed N_at N_beside Q_side Q_height Q_cell Q_taken Q_ways) s.heap.size := ⟨_, rfl⟩
  have hA : ∀ q : Nat, s.heap.size ≤ q → A q := fun q h => by rw [hAe]; exact Or.inr h
  have hI : WI D A s.heap (wX cI cJ cZ x0 n0 n1 n2 n3 n4 n5 n6 q0 q1 q2 q3 v_heapsOfNet v_pickerOfNet v_tallyOfNet N_postCount N_roadCount N_first N_second N_number_0 N_allowed N_at N_beside Q_side Q_height Q_cell Q_taken Q_ways) s.heap [] := ⟨hP, by rw [hAe]; exact hD0.self, va_S.rf⟩
  have hl := lv_entry [.ref x0] (n := 2) (Nat.le_of_ble_eq_true rfl)
  rw [lg_entry_eq]
  generalize (lg_sl [.ref x0] ++ List.replicate (2 - (lg_sl [.ref x0]).length) Slot.unset).toArray = ls at hl ⊢
  replace hl : lv_has ls 2 [(0, .ref x0)] := hl
  obtain ⟨x, hf, hM⟩ : ∃ x, FX7_two N_postCount N_roadCount N_first N_second N_number_0 N_at N_beside = some x ∧ x = out := ⟨out, hf, rfl⟩
  refine lv_aload_n hx hb dX7_two_0 rfl (lv_at hl 0 rfl) ?_
  refine w_get hx hb hg hown hK hI iX7 0 rfl rfl 0 (by decide) wF_RX7_12 rfl dX7_two_1 ?_
  obtain ⟨o1, ho1, hf⟩ := bd_e hf
  refine w_Vi0 (wc := (wN cI cJ cZ n0 n1 n2 n3 n4 n5 n6 N_postCount N_roadCount N_first N_second N_number_0 N_allowed N_at N_beside)) (wr := [(x0, .inr (7, [.ref n0, .ref q0, v_heapsOfNet, v_pickerOfNet, v_tallyOfNet])), (q0, .inr (5, [.int Q_side, .int Q_height, .ref q1, .ref q2, .ref q3])), (q1, .inl (cI, 81, .inl Q_cell)), (q2, .inl (cI, 9, .inl Q_taken)), (q3, .inl (cI, 512, .inl Q_ways))]) (rest := []) hx hb hml hg hown hK hA hI (kX3_fullest l D cI cJ cZ n0 n1 n2 n3 n4 n5 n6 N_postCount N_roadCount N_first N_second N_number_0 N_allowed N_at N_beside  o1 ho1) kvX3_fullest wL_RX7_97 ⟨Nat.le_of_ble_eq_true rfl, Nat.le_of_ble_eq_true rfl⟩ rfl rfl [1, 2, 3, 4, 5, 6, 7] [0, 8, 9, 10, 11] rfl rfl rfl rfl (by decide) rfl rfl hl.1 (Nat.le_of_ble_eq_true rfl) dX7_two_4 ⟨Nat.zero_le _, Nat.zero_le _⟩ ⟨rfl, rfl⟩ (fun r u H locs hp hI => ?_)
  replace hp : r = o1 := hp
  rw [hp]
  clear hp
  replace hI : WI D A s.heap (wX cI cJ cZ x0 n0 n1 n2 n3 n4 n5 n6 q0 q1 q2 q3 v_heapsOfNet v_pickerOfNet v_tallyOfNet N_postCount N_roadCount N_first N_second N_number_0 N_allowed N_at N_beside Q_side Q_height Q_cell Q_taken Q_ways) H locs := hI.perm [0, 5, 6, 7, 8, 9, 10, 11, 1, 2, 3, 4] rfl rfl
  refine lv_istore_n (lv' := [(1, .int o1), (0, .ref x0)]) hx hb dX7_two_7 rfl hl (by decide) rfl (fun ls hl => ?_)
  refine lv_aload_n hx hb dX7_two_8 rfl (lv_at hl 1 rfl) ?_
  refine w_get hx hb hg hown hK hI iX7 0 rfl rfl 0 (by decide) wF_RX7_12 rfl dX7_two_9 ?_
  obtain ⟨o2, ho2, hf⟩ := bd_e hf
  refine w_Vi0 (wc := (wN cI cJ cZ n0 n1 n2 n3 n4 n5 n6 N_postCount N_roadCount N_first N_second N_number_0 N_allowed N_at N_beside)) (wr := [(x0, .inr (7, [.ref n0, .ref q0, v_heapsOfNet, v_pickerOfNet, v_tallyOfNet])), (q0, .inr (5, [.int Q_side, .int Q_height, .ref q1, .ref q2, .ref q3])), (q1, .inl (cI, 81, .inl Q_cell)), (q2, .inl (cI, 9, .inl Q_taken)), (q3, .inl (cI, 512, .inl Q_ways))]) (rest := []) hx hb hml hg hown hK hA hI (kX3_isInTwoHeaps l D cI cJ cZ n0 n1 n2 n3 n4 n5 n6 N_postCount N_roadCount N_first N_second N_number_0 N_allowed N_at N_beside  o2 ho2) kvX3_isInTwoHeaps wL_RX7_112 ⟨Nat.le_of_ble_eq_true rfl, Nat.le_of_ble_eq_true rfl⟩ rfl rfl [1, 2, 3, 4, 5, 6, 7] [0, 8, 9, 10, 11] rfl rfl rfl rfl (by decide) rfl rfl hl.1 (Nat.le_of_ble_eq_true rfl) dX7_two_12 ⟨Nat.zero_le _, Nat.zero_le _⟩ ⟨rfl, rfl⟩ (fun r u H locs hp hI => ?_)
  replace hp : r = o2 := hp
  rw [hp]
  clear hp
  replace hI : WI D A s.heap (wX cI cJ cZ x0 n0 n1 n2 n3 n4 n5 n6 q0 q1 q2 q3 v_heapsOfNet v_pickerOfNet v_tallyOfNet N_postCount N_roadCount N_first N_second N_number_0 N_allowed N_at N_beside Q_side Q_height Q_cell Q_taken Q_ways) H locs := hI.perm [0, 5, 6, 7, 8, 9, 10, 11, 1, 2, 3, 4] rfl rfl
  refine lv_if_eq (tgt := 24) hx hb dX7_two_15 (by decide) (fun hc => ?_) (fun hc => ?_)
  · replace hf := ite_t hc hf
    refine lv_bipush (v := -2) hx hb dX7_two_24 (by decide) ?_
    replace hf := Option.some.inj hf
    subst hf
    replace hM : ((-2 : Int32), N_number_0) = out := hM
    subst hM
    exact rt_i (u := ()) hx hb hr hlocks rfl hI hAe rfl dX7_two_26
  · replace hf := ite_f hc hf
    refine lv_iload_n hx hb dX7_two_18 rfl (lv_at hl 0 rfl) ?_
    refine lv_bipush (v := 16) hx hb dX7_two_19 (by decide) ?_
    refine lv_icmp_le (tgt := 27) hx hb dX7_two_21 (by decide) (fun hc => ?_) (fun hc => ?_)
    · replace hf := ite_t hc hf
      refine lv_aload_n hx hb dX7_two_27 rfl (lv_at hl 1 rfl) ?_
      refine w_get hx hb hg hown hK hI iX7 0 rfl rfl 0 (by decide) wF_RX7_12 rfl dX7_two_28 ?_
      refine lv_iload_n hx hb dX7_two_31 rfl (lv_at hl 0 rfl) ?_
      obtain ⟨o3, ho3, hf⟩ := bd_e hf
      refine w_Vv0 (wc := (wN cI cJ cZ n0 n1 n2 n3 n4 n5 n6 N_postCount N_roadCount N_first N_second N_number_0 N_allowed N_at N_beside)) (wr := [(x0, .inr (7, [.ref n0, .ref q0, v_heapsOfNet, v_pickerOfNet, v_tallyOfNet])), (q0, .inr (5, [.int Q_side, .int Q_height, .ref q1, .ref q2, .ref q3])), (q1, .inl (cI, 81, .inl Q_cell)), (q2, .inl (cI, 9, .inl Q_taken)), (q3, .inl (cI, 512, .inl Q_ways))]) (rest := []) hx hb hml hg hown hK hA hI (kX3_colourTwoHeaps l D cI cJ cZ n0 n1 n2 n3 n4 n5 n6 N_postCount N_roadCount N_first N_second N_number_0 N_allowed N_at N_beside o1 o3 ho3) kvX3_colourTwoHeaps wL_RX7_119 ⟨Nat.le_of_ble_eq_true rfl, Nat.le_of_ble_eq_true rfl⟩ rfl rfl [1, 2, 3, 4, 5, 6, 7] [0, 8, 9, 10, 11] rfl rfl rfl rfl (by decide) rfl rfl hl.1 (Nat.le_of_ble_eq_true rfl) dX7_two_32 ⟨Nat.zero_le _, Nat.zero_le _⟩ ⟨rfl, rfl⟩ (fun  u H locs hp hI => ?_)
      replace hI : WI D A s.heap (wX cI cJ cZ x0 n0 n1 n2 n3 n4 n5 n6 q0 q1 q2 q3 v_heapsOfNet v_pickerOfNet v_tallyOfNet N_postCount N_roadCount N_first N_second o3 N_allowed N_at N_beside Q_side Q_height Q_cell Q_taken Q_ways) H locs := hI.perm [0, 5, 6, 7, 8, 9, 10, 11, 1, 2, 3, 4] rfl rfl
      refine lv_iload_n hx hb dX7_two_35 rfl (lv_at hl 0 rfl) ?_
      replace hf := Option.some.inj hf
      subst hf
      replace hM : (o1, o3) = out := hM
      subst hM
      exact rt_i (u := ()) hx hb hr hlocks rfl hI hAe rfl dX7_two_36
    · replace hf := ite_f hc hf
      refine lv_bipush (v := -2) hx hb dX7_two_24 (by decide) ?_
      replace hf := Option.some.inj hf
      subst hf
      replace hM : ((-2 : Int32), N_number_0) = out := hM
      subst hM
      exact rt_i (u := ()) hx hb hr hlocks rfl hI hAe rfl dX7_two_26
noncomputable def FX7_need (N_postCount : Int32) (N_roadCount : Int32) (N_first : Nat → Int32) (N_second : Nat → Int32) (a1 : Int32) : Option (Int32) :=
  (FX3_allPosts N_postCount).bind (fun o1 => if (a1 &&& (o1 ^^^ (-1 : Int32))) = (0 : Int32) then ((FJ6_bitCount_0f7a4 a1).bind (fun x2 => if (3 : Int32) ≤ x2 then ((FX3_roadsInside N_roadCount N_first N_second a1).bind (fun o3 => (FJ6_bitCount_0f7a4 a1).bind (fun x4 => (FX7_needFor o3 x4).bind (fun x5 => some x5)))) else (some (-2 : Int32)))) else (some (-2 : Int32)))
abbrev GX7_need (p : Program) (l : Launch) (e : Env) (s : State) (m : MethodId) (below : List Frame) (meth : Method) (c : Code) (D : va_G) (cI cJ cZ : ClassId) (x0 n0 n1 n2 n3 n4 n5 n6 q0 q1 q2 q3 : Nat) (v_heapsOfNet : Value) (v_pickerOfNet : Value) (v_tallyOfNet : Value) (N_postCount : Int32) (N_roadCount : Int32) (N_first : Nat → Int32) (N_second : Nat → Int32) (N_number : Nat → Int32) (N_allowed : Nat → Int32) (N_at : Nat → Int32) (N_beside : Nat → Int32) (Q_side : Int32) (Q_height : Int32) (Q_cell : Nat → Int32) (Q_taken : Nat → Int32) (Q_ways : Nat → Int32) (a1 : Int32) (out : Int32) (H : Heap) (locs : List Loc) (g : JFrame) : Prop := W p l e (headSpec (Cond.code yX7_need cX7_need 2 (some .int) :: GW) { frames := 2, cells := 0, slots := 0, locals := 44 }).room s m ([.ref x0, .int a1] : List Value).toArray below meth c H locs 0 0 (MQ below (va_Qi (fun r (_ : Unit) => r = out) (BW D (wX cI cJ cZ x0 n0 n1 n2 n3 n4 n5 n6 q0 q1 q2 q3 v_heapsOfNet v_pickerOfNet v_tallyOfNet N_postCount N_roadCount N_first N_second N_number N_allowed N_at N_beside Q_side Q_height Q_cell Q_taken Q_ways) s.heap.size (fun _ => (wX cI cJ cZ x0 n0 n1 n2 n3 n4 n5 n6 q0 q1 q2 q3 v_heapsOfNet v_pickerOfNet v_tallyOfNet N_postCount N_roadCount N_first N_second N_number N_allowed N_at N_beside Q_side Q_height Q_cell Q_taken Q_ways))) (va_A (wX cI cJ cZ x0 n0 n1 n2 n3 n4 n5 n6 q0 q1 q2 q3 v_heapsOfNet v_pickerOfNet v_tallyOfNet N_postCount N_roadCount N_first N_second N_number N_allowed N_at N_beside Q_side Q_height Q_cell Q_taken Q_ways) s.heap.size)) ([.ref x0, .int a1] : List Value).toArray s 0 0 (va_A (wX cI cJ cZ x0 n0 n1 n2 n3 n4 n5 n6 q0 q1 q2 q3 v_heapsOfNet v_pickerOfNet v_tallyOfNet N_postCount N_roadCount N_first N_second N_number N_allowed N_at N_beside Q_side Q_height Q_cell Q_taken Q_ways) s.heap.size)) g
theorem kvX7_need : CalV RX7 yX7_need cX7_need 2 (some .int) 1 := ⟨wC_yX7_need, wM_yX7_need, wS_yX7_need, wI_RX7, by decide +kernel⟩
set_option maxHeartbeats 4000000 in
set_option maxRecDepth 100000 in
theorem kX7_need (l : Launch) (D : va_G) (cI cJ cZ : ClassId) (x0 n0 n1 n2 n3 n4 n5 n6 q0 q1 q2 q3 : Nat) (v_heapsOfNet : Value) (v_pickerOfNet : Value) (v_tallyOfNet : Value) (N_postCount : Int32) (N_roadCount : Int32) (N_first : Nat → Int32) (N_second : Nat → Int32) (N_number : Nat → Int32) (N_allowed : Nat → Int32) (N_at : Nat → Int32) (N_beside : Nat → Int32) (Q_side : Int32) (Q_height : Int32) (Q_cell : Nat → Int32) (Q_taken : Nat → Int32) (Q_ways : Nat → Int32) (a1 : Int32) (out : Int32) (hf : FX7_need N_postCount N_roadCount N_first N_second a1 = some out) : MI l yX7_need (Cond.code yX7_need cX7_need 2 (some .int) :: GW) { frames := 2, cells := 0, slots := 0, locals := 44 } D cI cJ cZ [.ref x0, .int a1] (wX cI cJ cZ x0 n0 n1 n2 n3 n4 n5 n6 q0 q1 q2 q3 v_heapsOfNet v_pickerOfNet v_tallyOfNet N_postCount N_roadCount N_first N_second N_number N_allowed N_at N_beside Q_side Q_height Q_cell Q_taken Q_ways) (fun r (_ : Unit) => r = out) (fun _ => (wX cI cJ cZ x0 n0 n1 n2 n3 n4 n5 n6 q0 q1 q2 q3 v_heapsOfNet v_pickerOfNet v_tallyOfNet N_postCount N_roadCount N_first N_second N_number N_allowed N_at N_beside Q_side Q_height Q_cell Q_taken Q_ways)) := by
  intro sz
  refine Met.ofW (cc := cX7_need) (maxL := 2) (ret := (some .int)) (by decide +kernel) rfl ?_
  intro p e s m args below meth c s₁ B hml hv
  obtain ⟨rfl, hsz, hP, hK, hD0⟩ := hv
  have hx := B.exec
  have hb := B.bytes
  have hr := B.returns
  have hlocks := B.notSynchronized
  have hg : ∀ w ∈ GW, w.before _ s = true := fun w h => atoms_spec (ws := Cond.code yX7_need cX7_need 2 (some .int) :: GW) B.pre w (List.mem_cons_of_mem _ h)
  have hown : s.vm.findClass RX7 = some m.cls := findClass_of_methodNamed B.named
  subst hsz
  obtain ⟨A, hAe⟩ : ∃ A, A = va_A (wX cI cJ cZ x0 n0 n1 n2 n3 n4 n5 n6 q0 q1 q2 q3 v_heapsOfNet v_pickerOfNet v_tallyOfNet N_postCount N_roadCount N_first N_second N_number N_allowed N_at N_beside Q_side Q_height Q_cell Q_taken Q_ways) s.heap.size := ⟨_, rfl⟩
  have hA : ∀ q : Nat, s.heap.size ≤ q → A q := fun q h => by rw [hAe]; exact Or.inr h
  have hI : WI D A s.heap (wX cI cJ cZ x0 n0 n1 n2 n3 n4 n5 n6 q0 q1 q2 q3 v_heapsOfNet v_pickerOfNet v_tallyOfNet N_postCount N_roadCount N_first N_second N_number N_allowed N_at N_beside Q_side Q_height Q_cell Q_taken Q_ways) s.heap [] := ⟨hP, by rw [hAe]; exact hD0.self, va_S.rf⟩
  have hl := lv_entry [.ref x0, .int a1] (n := 2) (Nat.le_of_ble_eq_true rfl)
  rw [lg_entry_eq]
  generalize (lg_sl [.ref x0, .int a1] ++ List.replicate (2 - (lg_sl [.ref x0, .int a1]).length) Slot.unset).toArray = ls at hl ⊢
  replace hl : lv_has ls 2 [(0, .ref x0), (1, .int a1)] := hl
  obtain ⟨x, hf, hM⟩ : ∃ x, FX7_need N_postCount N_roadCount N_first N_second a1 = some x ∧ x = out := ⟨out, hf, rfl⟩
  refine lv_iload_n hx hb dX7_need_0 rfl (lv_at hl 1 rfl) ?_
  refine lv_aload_n hx hb dX7_need_1 rfl (lv_at hl 0 rfl) ?_
  refine w_get hx hb hg hown hK hI iX7 0 rfl rfl 0 (by decide) wF_RX7_12 rfl dX7_need_2 ?_
  obtain ⟨o1, ho1, hf⟩ := bd_e hf
  refine w_Vi0 (wc := (wN cI cJ cZ n0 n1 n2 n3 n4 n5 n6 N_postCount N_roadCount N_first N_second N_number N_allowed N_at N_beside)) (wr := [(x0, .inr (7, [.ref n0, .ref q0, v_heapsOfNet, v_pickerOfNet, v_tallyOfNet])), (q0, .inr (5, [.int Q_side, .int Q_height, .ref q1, .ref q2, .ref q3])), (q1, .inl (cI, 81, .inl Q_cell)), (q2, .inl (cI, 9, .inl Q_taken)), (q3, .inl (cI, 512, .inl Q_ways))]) (rest := [.int a1]) hx hb hml hg hown hK hA hI (kX3_allPosts l D cI cJ cZ n0 n1 n2 n3 n4 n5 n6 N_postCount N_roadCount N_first N_second N_number N_allowed N_at N_beside  o1 ho1) kvX3_allPosts wL_RX7_176 ⟨Nat.le_of_ble_eq_true rfl, Nat.le_of_ble_eq_true rfl⟩ rfl rfl [1, 2, 3, 4, 5, 6, 7] [0, 8, 9, 10, 11] rfl rfl rfl rfl (by decide) rfl rfl hl.1 (Nat.le_of_ble_eq_true rfl) dX7_need_5 ⟨Nat.zero_le _, Nat.zero_le _⟩ ⟨rfl, rfl⟩ (fun r u H locs hp hI => ?_)
  replace hp : r = o1 := hp
  rw [hp]
  clear hp
  replace hI : WI D A s.heap (wX cI cJ cZ x0 n0 n1 n2 n3 n4 n5 n6 q0 q1 q2 q3 v_heapsOfNet v_pickerOfNet v_tallyOfNet N_postCount N_roadCount N_first N_second N_number N_allowed N_at N_beside Q_side Q_height Q_cell Q_taken Q_ways) H locs := hI.perm [0, 5, 6, 7, 8, 9, 10, 11, 1, 2, 3, 4] rfl rfl
  refine lv_iconst (v := -1) hx hb dX7_need_8 (by decide) ?_
  refine lv_ixor hx hb dX7_need_9 ?_
  refine lv_iand hx hb dX7_need_10 ?_
  refine lv_if_ne (tgt := 22) hx hb dX7_need_11 (by decide) (fun hc => ?_) (fun hc => ?_)
  · replace hf := ite_f hc hf
    refine lv_bipush (v := -2) hx hb dX7_need_22 (by decide) ?_
    replace hf := Option.some.inj hf
    subst hf
    replace hM : (-2 : Int32) = out := hM
    subst hM
    exact rt_i (u := ()) hx hb hr hlocks rfl hI hAe rfl dX7_need_24
  · replace hf := ite_t hc hf
    refine lv_iload_n hx hb dX7_need_14 rfl (lv_at hl 1 rfl) ?_
    obtain ⟨x2, hx2, hf⟩ := bd_e hf
    refine w_S (rest := []) hx hb hml hg hown hK (kJ6_bitCount_0f7a4 l D cI cJ cZ a1 x2 hx2) ksJ6_bitCount_0f7a4 wL_RX7_70 ⟨Nat.le_of_ble_eq_true rfl, Nat.le_of_ble_eq_true rfl⟩ ⟨rfl, rfl⟩ rfl rfl hl.1 (Nat.le_of_ble_eq_true rfl) dX7_need_15 ⟨Nat.zero_le _, Nat.zero_le _⟩ ?_
    refine lv_iconst (v := 3) hx hb dX7_need_18 (by decide) ?_
    refine lv_icmp_ge (tgt := 25) hx hb dX7_need_19 (by decide) (fun hc => ?_) (fun hc => ?_)
    · replace hf := ite_t hc hf
      refine lv_aload_n hx hb dX7_need_25 rfl (lv_at hl 0 rfl) ?_
      refine w_get hx hb hg hown hK hI iX7 0 rfl rfl 0 (by decide) wF_RX7_12 rfl dX7_need_26 ?_
      refine lv_iload_n hx hb dX7_need_29 rfl (lv_at hl 1 rfl) ?_
      obtain ⟨o3, ho3, hf⟩ := bd_e hf
      refine w_Vi0 (wc := (wN cI cJ cZ n0 n1 n2 n3 n4 n5 n6 N_postCount N_roadCount N_first N_second N_number N_allowed N_at N_beside)) (wr := [(x0, .inr (7, [.ref n0, .ref q0, v_heapsOfNet, v_pickerOfNet, v_tallyOfNet])), (q0, .inr (5, [.int Q_side, .int Q_height, .ref q1, .ref q2, .ref q3])), (q1, .inl (cI, 81, .inl Q_cell)), (q2, .inl (cI, 9, .inl Q_taken)), (q3, .inl (cI, 512, .inl Q_ways))]) (rest := []) hx hb hml hg hown hK hA hI (kX3_roadsInside l D cI cJ cZ n0 n1 n2 n3 n4 n5 n6 N_postCount N_roadCount N_first N_second N_number N_allowed N_at N_beside a1 o3 ho3) kvX3_roadsInside wL_RX7_179 ⟨Nat.le_of_ble_eq_true rfl, Nat.le_of_ble_eq_true rfl⟩ rfl rfl [1, 2, 3, 4, 5, 6, 7] [0, 8, 9, 10, 11] rfl rfl rfl rfl (by decide) rfl rfl hl.1 (Nat.le_of_ble_eq_true rfl) dX7_need_30 ⟨Nat.zero_le _, Nat.zero_le _⟩ ⟨rfl, rfl⟩ (fun r u H locs hp hI => ?_)
      replace hp : r = o3 := hp
      rw [hp]
      clear hp
      replace hI : WI D A s.heap (wX cI cJ cZ x0 n0 n1 n2 n3 n4 n5 n6 q0 q1 q2 q3 v_heapsOfNet v_pickerOfNet v_tallyOfNet N_postCount N_roadCount N_first N_second N_number N_allowed N_at N_beside Q_side Q_height Q_cell Q_taken Q_ways) H locs := hI.perm [0, 5, 6, 7, 8, 9, 10, 11, 1, 2, 3, 4] rfl rfl
      refine lv_iload_n hx hb dX7_need_33 rfl (lv_at hl 1 rfl) ?_
      obtain ⟨x4, hx4, hf⟩ := bd_e hf
      refine w_S (rest := [.int o3]) hx hb hml hg hown hK (kJ6_bitCount_0f7a4 l D cI cJ cZ a1 x4 hx4) ksJ6_bitCount_0f7a4 wL_RX7_70 ⟨Nat.le_of_ble_eq_true rfl, Nat.le_of_ble_eq_true rfl⟩ ⟨rfl, rfl⟩ rfl rfl hl.1 (Nat.le_of_ble_eq_true rfl) dX7_need_34 ⟨Nat.zero_le _, Nat.zero_le _⟩ ?_
      obtain ⟨x5, hx5, hf⟩ := bd_e hf
      refine w_S (rest := []) hx hb hml hg hown hK (kX7_needFor l D cI cJ cZ o3 x4 x5 hx5) ksX7_needFor wL_RX7_182 ⟨Nat.le_of_ble_eq_true rfl, Nat.le_of_ble_eq_true rfl⟩ ⟨rfl, rfl⟩ rfl rfl hl.1 (Nat.le_of_ble_eq_true rfl) dX7_need_37 ⟨Nat.zero_le _, Nat.zero_le _⟩ ?_
      replace hf := Option.some.inj hf
      subst hf
      replace hM : x5 = out := hM
      subst hM
      exact rt_i (u := ()) hx hb hr hlocks rfl hI hAe rfl dX7_need_40
    · replace hf := ite_f hc hf
      refine lv_bipush (v := -2) hx hb dX7_need_22 (by decide) ?_
      replace hf := Option.some.inj hf
      subst hf
      replace hM : (-2 : Int32) = out := hM
      subst hM
      exact rt_i (u := ()) hx hb hr hlocks rfl hI hAe rfl dX7_need_24
noncomputable def FX7_list (N_roadCount : Int32) (N_allowed_0 : Nat → Int32) (a1 : Int32) (a2 : Int32) : Option (Int32 × (Nat → Int32)) :=
  (FX3_hasRoad N_roadCount a1).bind (fun o1 => if o1 = (0 : Int32) then (some ((-2 : Int32), N_allowed_0)) else (if a2 < (0 : Int32) then (some ((-2 : Int32), N_allowed_0)) else (if a2 ≤ (65535 : Int32) then (rd N_allowed_0 24 a1 (fun x2 => wr N_allowed_0 24 a1 a2 (fun g3 => some (x2, g3)))) else (some ((-2 : Int32), N_allowed_0)))))
abbrev GX7_list (p : Program) (l : Launch) (e : Env) (s : State) (m : MethodId) (below : List Frame) (meth : Method) (c : Code) (D : va_G) (cI cJ cZ : ClassId) (x0 n0 n1 n2 n3 n4 n5 n6 q0 q1 q2 q3 : Nat) (v_heapsOfNet : Value) (v_pickerOfNet : Value) (v_tallyOfNet : Value) (N_postCount : Int32) (N_roadCount : Int32) (N_first : Nat → Int32) (N_second : Nat → Int32) (N_number : Nat → Int32) (N_allowed_0 : Nat → Int32) (N_at : Nat → Int32) (N_beside : Nat → Int32) (Q_side : Int32) (Q_height : Int32) (Q_cell : Nat → Int32) (Q_taken : Nat → Int32) (Q_ways : Nat → Int32) (a1 : Int32) (a2 : Int32) (out : Int32 × (Nat → Int32)) (H : Heap) (locs : List Loc) (g : JFrame) : Prop := W p l e (headSpec (Cond.code yX7_list cX7_list 4 (some .int) :: GW) { frames := 1, cells := 0, slots := 0, locals := 21 }).room s m ([.ref x0, .int a1, .int a2] : List Value).toArray below meth c H locs 0 0 (MQ below (va_Qi (fun r (_ : Unit) => r = out.1) (BW D (wX cI cJ cZ x0 n0 n1 n2 n3 n4 n5 n6 q0 q1 q2 q3 v_heapsOfNet v_pickerOfNet v_tallyOfNet N_postCount N_roadCount N_first N_second N_number N_allowed_0 N_at N_beside Q_side Q_height Q_cell Q_taken Q_ways) s.heap.size (fun _ => (wX cI cJ cZ x0 n0 n1 n2 n3 n4 n5 n6 q0 q1 q2 q3 v_heapsOfNet v_pickerOfNet v_tallyOfNet N_postCount N_roadCount N_first N_second N_number out.2 N_at N_beside Q_side Q_height Q_cell Q_taken Q_ways))) (va_A (wX cI cJ cZ x0 n0 n1 n2 n3 n4 n5 n6 q0 q1 q2 q3 v_heapsOfNet v_pickerOfNet v_tallyOfNet N_postCount N_roadCount N_first N_second N_number N_allowed_0 N_at N_beside Q_side Q_height Q_cell Q_taken Q_ways) s.heap.size)) ([.ref x0, .int a1, .int a2] : List Value).toArray s 0 0 (va_A (wX cI cJ cZ x0 n0 n1 n2 n3 n4 n5 n6 q0 q1 q2 q3 v_heapsOfNet v_pickerOfNet v_tallyOfNet N_postCount N_roadCount N_first N_second N_number N_allowed_0 N_at N_beside Q_side Q_height Q_cell Q_taken Q_ways) s.heap.size)) g
theorem kvX7_list : CalV RX7 yX7_list cX7_list 4 (some .int) 2 := ⟨wC_yX7_list, wM_yX7_list, wS_yX7_list, wI_RX7, by decide +kernel⟩
set_option maxHeartbeats 4000000 in
set_option maxRecDepth 100000 in
theorem kX7_list (l : Launch) (D : va_G) (cI cJ cZ : ClassId) (x0 n0 n1 n2 n3 n4 n5 n6 q0 q1 q2 q3 : Nat) (v_heapsOfNet : Value) (v_pickerOfNet : Value) (v_tallyOfNet : Value) (N_postCount : Int32) (N_roadCount : Int32) (N_first : Nat → Int32) (N_second : Nat → Int32) (N_number : Nat → Int32) (N_allowed_0 : Nat → Int32) (N_at : Nat → Int32) (N_beside : Nat → Int32) (Q_side : Int32) (Q_height : Int32) (Q_cell : Nat → Int32) (Q_taken : Nat → Int32) (Q_ways : Nat → Int32) (a1 : Int32) (a2 : Int32) (out : Int32 × (Nat → Int32)) (hf : FX7_list N_roadCount N_allowed_0 a1 a2 = some out) : MI l yX7_list (Cond.code yX7_list cX7_list 4 (some .int) :: GW) { frames := 1, cells := 0, slots := 0, locals := 21 } D cI cJ cZ [.ref x0, .int a1, .int a2] (wX cI cJ cZ x0 n0 n1 n2 n3 n4 n5 n6 q0 q1 q2 q3 v_heapsOfNet v_pickerOfNet v_tallyOfNet N_postCount N_roadCount N_first N_second N_number N_allowed_0 N_at N_beside Q_side Q_height Q_cell Q_taken Q_ways) (fun r (_ : Unit) => r = out.1) (fun _ => (wX cI cJ cZ x0 n0 n1 n2 n3 n4 n5 n6 q0 q1 q2 q3 v_heapsOfNet v_pickerOfNet v_tallyOfNet N_postCount N_roadCount N_first N_second N_number out.2 N_at N_beside Q_side Q_height Q_cell Q_taken Q_ways)) := by
  intro sz
  refine Met.ofW (cc := cX7_list) (maxL := 4) (ret := (some .int)) (by decide +kernel) rfl ?_
  intro p e s m args below meth c s₁ B hml hv
  obtain ⟨rfl, hsz, hP, hK, hD0⟩ := hv
  have hx := B.exec
  have hb := B.bytes
  have hr := B.returns
  have hlocks := B.notSynchronized
  have hg : ∀ w ∈ GW, w.before _ s = true := fun w h => atoms_spec (ws := Cond.code yX7_list cX7_list 4 (some .int) :: GW) B.pre w (List.mem_cons_of_mem _ h)
  have hown : s.vm.findClass RX7 = some m.cls := findClass_of_methodNamed B.named
  subst hsz
  obtain ⟨A, hAe⟩ : ∃ A, A = va_A (wX cI cJ cZ x0 n0 n1 n2 n3 n4 n5 n6 q0 q1 q2 q3 v_heapsOfNet v_pickerOfNet v_tallyOfNet N_postCount N_roadCount N_first N_second N_number N_allowed_0 N_at N_beside Q_side Q_height Q_cell Q_taken Q_ways) s.heap.size := ⟨_, rfl⟩
  have hA : ∀ q : Nat, s.heap.size ≤ q → A q := fun q h => by rw [hAe]; exact Or.inr h
  have hI : WI D A s.heap (wX cI cJ cZ x0 n0 n1 n2 n3 n4 n5 n6 q0 q1 q2 q3 v_heapsOfNet v_pickerOfNet v_tallyOfNet N_postCount N_roadCount N_first N_second N_number N_allowed_0 N_at N_beside Q_side Q_height Q_cell Q_taken Q_ways) s.heap [] := ⟨hP, by rw [hAe]; exact hD0.self, va_S.rf⟩
  have hl := lv_entry [.ref x0, .int a1, .int a2] (n := 4) (Nat.le_of_ble_eq_true rfl)
  rw [lg_entry_eq]
  generalize (lg_sl [.ref x0, .int a1, .int a2] ++ List.replicate (4 - (lg_sl [.ref x0, .int a1, .int a2]).length) Slot.unset).toArray = ls at hl ⊢
  replace hl : lv_has ls 4 [(0, .ref x0), (1, .int a1), (2, .int a2)] := hl
  obtain ⟨x, hf, hM⟩ : ∃ x, FX7_list N_roadCount N_allowed_0 a1 a2 = some x ∧ x = out := ⟨out, hf, rfl⟩
  refine lv_aload_n hx hb dX7_list_0 rfl (lv_at hl 0 rfl) ?_
  refine w_get hx hb hg hown hK hI iX7 0 rfl rfl 0 (by decide) wF_RX7_12 rfl dX7_list_1 ?_
  refine lv_iload_n hx hb dX7_list_4 rfl (lv_at hl 1 rfl) ?_
  obtain ⟨o1, ho1, hf⟩ := bd_e hf
  refine w_Vi0 (wc := (wN cI cJ cZ n0 n1 n2 n3 n4 n5 n6 N_postCount N_roadCount N_first N_second N_number N_allowed_0 N_at N_beside)) (wr := [(x0, .inr (7, [.ref n0, .ref q0, v_heapsOfNet, v_pickerOfNet, v_tallyOfNet])), (q0, .inr (5, [.int Q_side, .int Q_height, .ref q1, .ref q2, .ref q3])), (q1, .inl (cI, 81, .inl Q_cell)), (q2, .inl (cI, 9, .inl Q_taken)), (q3, .inl (cI, 512, .inl Q_ways))]) (rest := []) hx hb hml hg hown hK hA hI (kX3_hasRoad l D cI cJ cZ n0 n1 n2 n3 n4 n5 n6 N_postCount N_roadCount N_first N_second N_number N_allowed_0 N_at N_beside a1 o1 ho1) kvX3_hasRoad wL_RX7_45 ⟨Nat.le_of_ble_eq_true rfl, Nat.le_of_ble_eq_true rfl⟩ rfl rfl [1, 2, 3, 4, 5, 6, 7] [0, 8, 9, 10, 11] rfl rfl rfl rfl (by decide) rfl rfl hl.1 (Nat.le_of_ble_eq_true rfl) dX7_list_5 ⟨Nat.zero_le _, Nat.zero_le _⟩ ⟨rfl, rfl⟩ (fun r u H locs hp hI => ?_)
  replace hp : r = o1 := hp
  rw [hp]
  clear hp
  replace hI : WI D A s.heap (wX cI cJ cZ x0 n0 n1 n2 n3 n4 n5 n6 q0 q1 q2 q3 v_heapsOfNet v_pickerOfNet v_tallyOfNet N_postCount N_roadCount N_first N_second N_number N_allowed_0 N_at N_beside Q_side Q_height Q_cell Q_taken Q_ways) H locs := hI.perm [0, 5, 6, 7, 8, 9, 10, 11, 1, 2, 3, 4] rfl rfl
  refine lv_if_eq (tgt := 21) hx hb dX7_list_8 (by decide) (fun hc => ?_) (fun hc => ?_)
  · replace hf := ite_t hc hf
    refine lv_bipush (v := -2) hx hb dX7_list_21 (by decide) ?_
    replace hf := Option.some.inj hf
    subst hf
    replace hM : ((-2 : Int32), N_allowed_0) = out := hM
    subst hM
    exact rt_i (u := ()) hx hb hr hlocks rfl hI hAe rfl dX7_list_23
  · replace hf := ite_f hc hf
    refine lv_iload_n hx hb dX7_list_11 rfl (lv_at hl 2 rfl) ?_
    refine lv_if_lt (tgt := 21) hx hb dX7_list_12 (by decide) (fun hc => ?_) (fun hc => ?_)
    · replace hf := ite_t hc hf
      refine lv_bipush (v := -2) hx hb dX7_list_21 (by decide) ?_
      replace hf := Option.some.inj hf
      subst hf
      replace hM : ((-2 : Int32), N_allowed_0) = out := hM
      subst hM
      exact rt_i (u := ()) hx hb hr hlocks rfl hI hAe rfl dX7_list_23
    · replace hf := ite_f hc hf
      refine lv_iload_n hx hb dX7_list_15 rfl (lv_at hl 2 rfl) ?_
      refine lv_ldc hx hb hown (hg _ wV_RX7_188) dX7_list_16 ?_
      refine lv_icmp_le (tgt := 24) hx hb dX7_list_18 (by decide) (fun hc => ?_) (fun hc => ?_)
      · replace hf := ite_t hc hf
        refine lv_aload_n hx hb dX7_list_24 rfl (lv_at hl 0 rfl) ?_
        refine w_get hx hb hg hown hK hI iX7 0 rfl rfl 0 (by decide) wF_RX7_12 rfl dX7_list_25 ?_
        refine w_get hx hb hg hown hK hI iX3 1 rfl rfl 5 (by decide) wF_RX7_64 rfl dX7_list_28 ?_
        refine lv_iload_n hx hb dX7_list_31 rfl (lv_at hl 1 rfl) ?_
        obtain ⟨hin, hf⟩ := rd_e hf
        refine w_iald hx hb hK hI 5 rfl hin dX7_list_32 (fun x2 ex2 => ?_)
        replace hf := hf x2 ex2
        refine lv_istore_n (lv' := [(3, .int x2), (0, .ref x0), (1, .int a1), (2, .int a2)]) hx hb dX7_list_33 rfl hl (by decide) rfl (fun ls hl => ?_)
        refine lv_aload_n hx hb dX7_list_34 rfl (lv_at hl 1 rfl) ?_
        refine w_get hx hb hg hown hK hI iX7 0 rfl rfl 0 (by decide) wF_RX7_12 rfl dX7_list_35 ?_
        refine w_get hx hb hg hown hK hI iX3 1 rfl rfl 5 (by decide) wF_RX7_64 rfl dX7_list_38 ?_
        refine lv_iload_n hx hb dX7_list_41 rfl (lv_at hl 2 rfl) ?_
        refine lv_iload_n hx hb dX7_list_42 rfl (lv_at hl 3 rfl) ?_
        obtain ⟨hin, hf⟩ := wr_e hf
        obtain ⟨g3, eg3⟩ : ∃ g : Nat → Int32, g = upd N_allowed_0 (a1).toNatClampNeg a2 := ⟨_, rfl⟩
        replace hf := hf g3 eg3
        refine w_iast (g := g3) (W1 := (wX cI cJ cZ x0 n0 n1 n2 n3 n4 n5 n6 q0 q1 q2 q3 v_heapsOfNet v_pickerOfNet v_tallyOfNet N_postCount N_roadCount N_first N_second N_number g3 N_at N_beside Q_side Q_height Q_cell Q_taken Q_ways)) hx hb hK hI 5 rfl hin eg3 dX7_list_43 rfl (fun H locs hI => ?_)
        refine lv_iload_n hx hb dX7_list_44 rfl (lv_at hl 0 rfl) ?_
        replace hf := Option.some.inj hf
        subst hf
        replace hM : (x2, g3) = out := hM
        subst hM
        exact rt_i (u := ()) hx hb hr hlocks rfl hI hAe rfl dX7_list_45
      · replace hf := ite_f hc hf
        refine lv_bipush (v := -2) hx hb dX7_list_21 (by decide) ?_
        replace hf := Option.some.inj hf
        subst hf
        replace hM : ((-2 : Int32), N_allowed_0) = out := hM
        subst hM
        exact rt_i (u := ()) hx hb hr hlocks rfl hI hAe rfl dX7_list_23
noncomputable def FX7_square (Q_side_0 : Int32) (Q_height_0 : Int32) (Q_taken_0 : Nat → Int32) (a1 : Int32) : Option (Int32 × Int32 × Int32 × (Nat → Int32)) :=
  if a1 < (2 : Int32) then (some ((-2 : Int32), Q_side_0, Q_height_0, Q_taken_0)) else (if a1 ≤ (9 : Int32) then ((FX5_begin Q_side_0 Q_height_0 Q_taken_0 a1).bind (fun o1 => some (o1.1, o1.2.1, o1.2.2.1, o1.2.2.2))) else (some ((-2 : Int32), Q_side_0, Q_height_0, Q_taken_0)))
abbrev GX7_square (p : Program) (l : Launch) (e : Env) (s : State) (m : MethodId) (below : List Frame) (meth : Method) (c : Code) (D : va_G) (cI cJ cZ : ClassId) (x0 n0 n1 n2 n3 n4 n5 n6 q0 q1 q2 q3 : Nat) (v_heapsOfNet : Value) (v_pickerOfNet : Value) (v_tallyOfNet : Value) (N_postCount : Int32) (N_roadCount : Int32) (N_first : Nat → Int32) (N_second : Nat → Int32) (N_number : Nat → Int32) (N_allowed : Nat → Int32) (N_at : Nat → Int32) (N_beside : Nat → Int32) (Q_side_0 : Int32) (Q_height_0 : Int32) (Q_cell : Nat → Int32) (Q_taken_0 : Nat → Int32) (Q_ways : Nat → Int32) (a1 : Int32) (out : Int32 × Int32 × Int32 × (Nat → Int32)) (H : Heap) (locs : List Loc) (g : JFrame) : Prop := W p l e (headSpec (Cond.code yX7_square cX7_square 2 (some .int) :: GW) { frames := 1, cells := 0, slots := 0, locals := 23 }).room s m ([.ref x0, .int a1] : List Value).toArray below meth c H locs 0 0 (MQ below (va_Qi (fun r (_ : Unit) => r = out.1) (BW D (wX cI cJ cZ x0 n0 n1 n2 n3 n4 n5 n6 q0 q1 q2 q3 v_heapsOfNet v_pickerOfNet v_tallyOfNet N_postCount N_roadCount N_first N_second N_number N_allowed N_at N_beside Q_side_0 Q_height_0 Q_cell Q_taken_0 Q_ways) s.heap.size (fun _ => (wX cI cJ cZ x0 n0 n1 n2 n3 n4 n5 n6 q0 q1 q2 q3 v_heapsOfNet v_pickerOfNet v_tallyOfNet N_postCount N_roadCount N_first N_second N_number N_allowed N_at N_beside out.2.1 out.2.2.1 Q_cell out.2.2.2 Q_ways))) (va_A (wX cI cJ cZ x0 n0 n1 n2 n3 n4 n5 n6 q0 q1 q2 q3 v_heapsOfNet v_pickerOfNet v_tallyOfNet N_postCount N_roadCount N_first N_second N_number N_allowed N_at N_beside Q_side_0 Q_height_0 Q_cell Q_taken_0 Q_ways) s.heap.size)) ([.ref x0, .int a1] : List Value).toArray s 0 0 (va_A (wX cI cJ cZ x0 n0 n1 n2 n3 n4 n5 n6 q0 q1 q2 q3 v_heapsOfNet v_pickerOfNet v_tallyOfNet N_postCount N_roadCount N_first N_second N_number N_allowed N_at N_beside Q_side_0 Q_height_0 Q_cell Q_taken_0 Q_ways) s.heap.size)) g
theorem kvX7_square : CalV RX7 yX7_square cX7_square 2 (some .int) 1 := ⟨wC_yX7_square, wM_yX7_square, wS_yX7_square, wI_RX7, by decide +kernel⟩
set_option maxHeartbeats 4000000 in
set_option maxRecDepth 100000 in
theorem kX7_square (l : Launch) (D : va_G) (cI cJ cZ : ClassId) (x0 n0 n1 n2 n3 n4 n5 n6 q0 q1 q2 q3 : Nat) (v_heapsOfNet : Value) (v_pickerOfNet : Value) (v_tallyOfNet : Value) (N_postCount : Int32) (N_roadCount : Int32) (N_first : Nat → Int32) (N_second : Nat → Int32) (N_number : Nat → Int32) (N_allowed : Nat → Int32) (N_at : Nat → Int32) (N_beside : Nat → Int32) (Q_side_0 : Int32) (Q_height_0 : Int32) (Q_cell : Nat → Int32) (Q_taken_0 : Nat → Int32) (Q_ways : Nat → Int32) (a1 : Int32) (out : Int32 × Int32 × Int32 × (Nat → Int32)) (hf : FX7_square Q_side_0 Q_height_0 Q_taken_0 a1 = some out) : MI l yX7_square (Cond.code yX7_square cX7_square 2 (some .int) :: GW) { frames := 1, cells := 0, slots := 0, locals := 23 } D cI cJ cZ [.ref x0, .int a1] (wX cI cJ cZ x0 n0 n1 n2 n3 n4 n5 n6 q0 q1 q2 q3 v_heapsOfNet v_pickerOfNet v_tallyOfNet N_postCount N_roadCount N_first N_second N_number N_allowed N_at N_beside Q_side_0 Q_height_0 Q_cell Q_taken_0 Q_ways) (fun r (_ : Unit) => r = out.1) (fun _ => (wX cI cJ cZ x0 n0 n1 n2 n3 n4 n5 n6 q0 q1 q2 q3 v_heapsOfNet v_pickerOfNet v_tallyOfNet N_postCount N_roadCount N_first N_second N_number N_allowed N_at N_beside out.2.1 out.2.2.1 Q_cell out.2.2.2 Q_ways)) := by
  intro sz
  refine Met.ofW (cc := cX7_square) (maxL := 2) (ret := (some .int)) (by decide +kernel) rfl ?_
  intro p e s m args below meth c s₁ B hml hv
  obtain ⟨rfl, hsz, hP, hK, hD0⟩ := hv
  have hx := B.exec
  have hb := B.bytes
  have hr := B.returns
  have hlocks := B.notSynchronized
  have hg : ∀ w ∈ GW, w.before _ s = true := fun w h => atoms_spec (ws := Cond.code yX7_square cX7_square 2 (some .int) :: GW) B.pre w (List.mem_cons_of_mem _ h)
  have hown : s.vm.findClass RX7 = some m.cls := findClass_of_methodNamed B.named
  subst hsz
  obtain ⟨A, hAe⟩ : ∃ A, A = va_A (wX cI cJ cZ x0 n0 n1 n2 n3 n4 n5 n6 q0 q1 q2 q3 v_heapsOfNet v_pickerOfNet v_tallyOfNet N_postCount N_roadCount N_first N_second N_number N_allowed N_at N_beside Q_side_0 Q_height_0 Q_cell Q_taken_0 Q_ways) s.heap.size := ⟨_, rfl⟩
  have hA : ∀ q : Nat, s.heap.size ≤ q → A q := fun q h => by rw [hAe]; exact Or.inr h
  have hI : WI D A s.heap (wX cI cJ cZ x0 n0 n1 n2 n3 n4 n5 n6 q0 q1 q2 q3 v_heapsOfNet v_pickerOfNet v_tallyOfNet N_postCount N_roadCount N_first N_second N_number N_allowed N_at N_beside Q_side_0 Q_height_0 Q_cell Q_taken_0 Q_ways) s.heap [] := ⟨hP, by rw [hAe]; exact hD0.self, va_S.rf⟩
  have hl := lv_entry [.ref x0, .int a1] (n := 2) (Nat.le_of_ble_eq_true rfl)
  rw [lg_entry_eq]
  generalize (lg_sl [.ref x0, .int a1] ++ List.replicate (2 - (lg_sl [.ref x0, .int a1]).length) Slot.unset).toArray = ls at hl ⊢
  replace hl : lv_has ls 2 [(0, .ref x0), (1, .int a1)] := hl
  obtain ⟨x, hf, hM⟩ : ∃ x, FX7_square Q_side_0 Q_height_0 Q_taken_0 a1 = some x ∧ x = out := ⟨out, hf, rfl⟩
  refine lv_iload_n hx hb dX7_square_0 rfl (lv_at hl 1 rfl) ?_
  refine lv_iconst (v := 2) hx hb dX7_square_1 (by decide) ?_
  refine lv_icmp_lt (tgt := 11) hx hb dX7_square_2 (by decide) (fun hc => ?_) (fun hc => ?_)
  · replace hf := ite_t hc hf
    refine lv_bipush (v := -2) hx hb dX7_square_11 (by decide) ?_
    replace hf := Option.some.inj hf
    subst hf
    replace hM : ((-2 : Int32), Q_side_0, Q_height_0, Q_taken_0) = out := hM
    subst hM
    exact rt_i (u := ()) hx hb hr hlocks rfl hI hAe rfl dX7_square_13
  · replace hf := ite_f hc hf
    refine lv_iload_n hx hb dX7_square_5 rfl (lv_at hl 1 rfl) ?_
    refine lv_bipush (v := 9) hx hb dX7_square_6 (by decide) ?_
    refine lv_icmp_le (tgt := 14) hx hb dX7_square_8 (by decide) (fun hc => ?_) (fun hc => ?_)
    · replace hf := ite_t hc hf
      refine lv_aload_n hx hb dX7_square_14 rfl (lv_at hl 0 rfl) ?_
      refine w_get hx hb hg hown hK hI iX7 0 rfl rfl 1 (by decide) wF_RX7_19 rfl dX7_square_15 ?_
      refine lv_iload_n hx hb dX7_square_18 rfl (lv_at hl 1 rfl) ?_
      obtain ⟨o1, ho1, hf⟩ := bd_e hf
      refine w_Vi0 (wc := (wQ cI cJ cZ q0 q1 q2 q3 Q_side_0 Q_height_0 Q_cell Q_taken_0 Q_ways)) (wr := [(x0, .inr (7, [.ref n0, .ref q0, v_heapsOfNet, v_pickerOfNet, v_tallyOfNet])), (n0, .inr (3, [.int N_postCount, .int N_roadCount, .ref n1, .ref n2, .ref n3, .ref n4, .ref n5, .ref n6])), (n1, .inl (cI, 24, .inl N_first)), (n2, .inl (cI, 24, .inl N_second)), (n3, .inl (cI, 24, .inl N_number)), (n4, .inl (cI, 24, .inl N_allowed)), (n5, .inl (cI, 12, .inl N_at)), (n6, .inl (cI, 24, .inl N_beside))]) (rest := []) hx hb hml hg hown hK hA hI (kX5_begin l D cI cJ cZ q0 q1 q2 q3 Q_side_0 Q_height_0 Q_cell Q_taken_0 Q_ways a1 o1 ho1) kvX5_begin wL_RX7_192 ⟨Nat.le_of_ble_eq_true rfl, Nat.le_of_ble_eq_true rfl⟩ rfl rfl [8, 9, 10, 11] [0, 1, 2, 3, 4, 5, 6, 7] rfl rfl rfl rfl (by decide) rfl rfl hl.1 (Nat.le_of_ble_eq_true rfl) dX7_square_19 ⟨Nat.zero_le _, Nat.zero_le _⟩ ⟨rfl, rfl⟩ (fun r u H locs hp hI => ?_)
      replace hp : r = o1.1 := hp
      rw [hp]
      clear hp
      replace hI : WI D A s.heap (wX cI cJ cZ x0 n0 n1 n2 n3 n4 n5 n6 q0 q1 q2 q3 v_heapsOfNet v_pickerOfNet v_tallyOfNet N_postCount N_roadCount N_first N_second N_number N_allowed N_at N_beside o1.2.1 o1.2.2.1 Q_cell o1.2.2.2 Q_ways) H locs := hI
      replace hf := Option.some.inj hf
      subst hf
      replace hM : (o1.1, o1.2.1, o1.2.2.1, o1.2.2.2) = out := hM
      subst hM
      exact rt_i (u := ()) hx hb hr hlocks rfl hI hAe rfl dX7_square_22
    · replace hf := ite_f hc hf
      refine lv_bipush (v := -2) hx hb dX7_square_11 (by decide) ?_
      replace hf := Option.some.inj hf
      subst hf
      replace hM : ((-2 : Int32), Q_side_0, Q_height_0, Q_taken_0) = out := hM
      subst hM
      exact rt_i (u := ()) hx hb hr hlocks rfl hI hAe rfl dX7_square_13
noncomputable def FX7_hold (Q_side : Int32) (Q_height_0 : Int32) (Q_cell_0 : Nat → Int32) (Q_taken_0 : Nat → Int32) (a1 : Int32) : Option (Int32 × Int32 × (Nat → Int32) × (Nat → Int32)) :=
  (FX5_hasRoom Q_side Q_height_0).bind (fun o1 => if o1 = (0 : Int32) then (some ((-2 : Int32), Q_height_0, Q_cell_0, Q_taken_0)) else ((FX5_canStandNext Q_side Q_taken_0 a1).bind (fun o2 => if o2 = (0 : Int32) then (some ((-2 : Int32), Q_height_0, Q_cell_0, Q_taken_0)) else ((FX5_append Q_side Q_height_0 Q_cell_0 Q_taken_0 a1).bind (fun o3 => some (o3.1, o3.1, o3.2.1, o3.2.2))))))
abbrev GX7_hold (p : Program) (l : Launch) (e : Env) (s : State) (m : MethodId) (below : List Frame) (meth : Method) (c : Code) (D : va_G) (cI cJ cZ : ClassId) (x0 n0 n1 n2 n3 n4 n5 n6 q0 q1 q2 q3 : Nat) (v_heapsOfNet : Value) (v_pickerOfNet : Value) (v_tallyOfNet : Value) (N_postCount : Int32) (N_roadCount : Int32) (N_first : Nat → Int32) (N_second : Nat → Int32) (N_number : Nat → Int32) (N_allowed : Nat → Int32) (N_at : Nat → Int32) (N_beside : Nat → Int32) (Q_side : Int32) (Q_height_0 : Int32) (Q_cell_0 : Nat → Int32) (Q_taken_0 : Nat → Int32) (Q_ways : Nat → Int32) (a1 : Int32) (out : Int32 × Int32 × (Nat → Int32) × (Nat → Int32)) (H : Heap) (locs : List Loc) (g : JFrame) : Prop := W p l e (headSpec (Cond.code yX7_hold cX7_hold 2 (some .int) :: GW) { frames := 2, cells := 0, slots := 0, locals := 46 }).room s m ([.ref x0, .int a1] : List Value).toArray below meth c H locs 0 0 (MQ below (va_Qi (fun r (_ : Unit) => r = out.1) (BW D (wX cI cJ cZ x0 n0 n1 n2 n3 n4 n5 n6 q0 q1 q2 q3 v_heapsOfNet v_pickerOfNet v_tallyOfNet N_postCount N_roadCount N_first N_second N_number N_allowed N_at N_beside Q_side Q_height_0 Q_cell_0 Q_taken_0 Q_ways) s.heap.size (fun _ => (wX cI cJ cZ x0 n0 n1 n2 n3 n4 n5 n6 q0 q1 q2 q3 v_heapsOfNet v_pickerOfNet v_tallyOfNet N_postCount N_roadCount N_first N_second N_number N_allowed N_at N_beside Q_side out.2.1 out.2.2.1 out.2.2.2 Q_ways))) (va_A (wX cI cJ cZ x0 n0 n1 n2 n3 n4 n5 n6 q0 q1 q2 q3 v_heapsOfNet v_pickerOfNet v_tallyOfNet N_postCount N_roadCount N_first N_second N_number N_allowed N_at N_beside Q_side Q_height_0 Q_cell_0 Q_taken_0 Q_ways) s.heap.size)) ([.ref x0, .int a1] : List Value).toArray s 0 0 (va_A (wX cI cJ cZ x0 n0 n1 n2 n3 n4 n5 n6 q0 q1 q2 q3 v_heapsOfNet v_pickerOfNet v_tallyOfNet N_postCount N_roadCount N_first N_second N_number N_allowed N_at N_beside Q_side Q_height_0 Q_cell_0 Q_taken_0 Q_ways) s.heap.size)) g
theorem kvX7_hold : CalV RX7 yX7_hold cX7_hold 2 (some .int) 1 := ⟨wC_yX7_hold, wM_yX7_hold, wS_yX7_hold, wI_RX7, by decide +kernel⟩
set_option maxHeartbeats 4000000 in
set_option maxRecDepth 100000 in
theorem kX7_hold (l : Launch) (D : va_G) (cI cJ cZ : ClassId) (x0 n0 n1 n2 n3 n4 n5 n6 q0 q1 q2 q3 : Nat) (v_heapsOfNet : Value) (v_pickerOfNet : Value) (v_tallyOfNet : Value) (N_postCount : Int32) (N_roadCount : Int32) (N_first : Nat → Int32) (N_second : Nat → Int32) (N_number : Nat → Int32) (N_allowed : Nat → Int32) (N_at : Nat → Int32) (N_beside : Nat → Int32) (Q_side : Int32) (Q_height_0 : Int32) (Q_cell_0 : Nat → Int32) (Q_taken_0 : Nat → Int32) (Q_ways : Nat → Int32) (a1 : Int32) (out : Int32 × Int32 × (Nat → Int32) × (Nat → Int32)) (hf : FX7_hold Q_side Q_height_0 Q_cell_0 Q_taken_0 a1 = some out) : MI l yX7_hold (Cond.code yX7_hold cX7_hold 2 (some .int) :: GW) { frames := 2, cells := 0, slots := 0, locals := 46 } D cI cJ cZ [.ref x0, .int a1] (wX cI cJ cZ x0 n0 n1 n2 n3 n4 n5 n6 q0 q1 q2 q3 v_heapsOfNet v_pickerOfNet v_tallyOfNet N_postCount N_roadCount N_first N_second N_number N_allowed N_at N_beside Q_side Q_height_0 Q_cell_0 Q_taken_0 Q_ways) (fun r (_ : Unit) => r = out.1) (fun _ => (wX cI cJ cZ x0 n0 n1 n2 n3 n4 n5 n6 q0 q1 q2 q3 v_heapsOfNet v_pickerOfNet v_tallyOfNet N_postCount N_roadCount N_first N_second N_number N_allowed N_at N_beside Q_side out.2.1 out.2.2.1 out.2.2.2 Q_ways)) := by
  intro sz
  refine Met.ofW (cc := cX7_hold) (maxL := 2) (ret := (some .int)) (by decide +kernel) rfl ?_
  intro p e s m args below meth c s₁ B hml hv
  obtain ⟨rfl, hsz, hP, hK, hD0⟩ := hv
  have hx := B.exec
  have hb := B.bytes
  have hr := B.returns
  have hlocks := B.notSynchronized
  have hg : ∀ w ∈ GW, w.before _ s = true := fun w h => atoms_spec (ws := Cond.code yX7_hold cX7_hold 2 (some .int) :: GW) B.pre w (List.mem_cons_of_mem _ h)
  have hown : s.vm.findClass RX7 = some m.cls := findClass_of_methodNamed B.named
  subst hsz
  obtain ⟨A, hAe⟩ : ∃ A, A = va_A (wX cI cJ cZ x0 n0 n1 n2 n3 n4 n5 n6 q0 q1 q2 q3 v_heapsOfNet v_pickerOfNet v_tallyOfNet N_postCount N_roadCount N_first N_second N_number N_allowed N_at N_beside Q_side Q_height_0 Q_cell_0 Q_taken_0 Q_ways) s.heap.size := ⟨_, rfl⟩
  have hA : ∀ q : Nat, s.heap.size ≤ q → A q := fun q h => by rw [hAe]; exact Or.inr h
  have hI : WI D A s.heap (wX cI cJ cZ x0 n0 n1 n2 n3 n4 n5 n6 q0 q1 q2 q3 v_heapsOfNet v_pickerOfNet v_tallyOfNet N_postCount N_roadCount N_first N_second N_number N_allowed N_at N_beside Q_side Q_height_0 Q_cell_0 Q_taken_0 Q_ways) s.heap [] := ⟨hP, by rw [hAe]; exact hD0.self, va_S.rf⟩
  have hl := lv_entry [.ref x0, .int a1] (n := 2) (Nat.le_of_ble_eq_true rfl)
  rw [lg_entry_eq]
  generalize (lg_sl [.ref x0, .int a1] ++ List.replicate (2 - (lg_sl [.ref x0, .int a1]).length) Slot.unset).toArray = ls at hl ⊢
  replace hl : lv_has ls 2 [(0, .ref x0), (1, .int a1)] := hl
  obtain ⟨x, hf, hM⟩ : ∃ x, FX7_hold Q_side Q_height_0 Q_cell_0 Q_taken_0 a1 = some x ∧ x = out := ⟨out, hf, rfl⟩
  refine lv_aload_n hx hb dX7_hold_0 rfl (lv_at hl 0 rfl) ?_
  refine w_get hx hb hg hown hK hI iX7 0 rfl rfl 1 (by decide) wF_RX7_19 rfl dX7_hold_1 ?_
  obtain ⟨o1, ho1, hf⟩ := bd_e hf
  refine w_Vi0 (wc := (wQ cI cJ cZ q0 q1 q2 q3 Q_side Q_height_0 Q_cell_0 Q_taken_0 Q_ways)) (wr := [(x0, .inr (7, [.ref n0, .ref q0, v_heapsOfNet, v_pickerOfNet, v_tallyOfNet])), (n0, .inr (3, [.int N_postCount, .int N_roadCount, .ref n1, .ref n2, .ref n3, .ref n4, .ref n5, .ref n6])), (n1, .inl (cI, 24, .inl N_first)), (n2, .inl (cI, 24, .inl N_second)), (n3, .inl (cI, 24, .inl N_number)), (n4, .inl (cI, 24, .inl N_allowed)), (n5, .inl (cI, 12, .inl N_at)), (n6, .inl (cI, 24, .inl N_beside))]) (rest := []) hx hb hml hg hown hK hA hI (kX5_hasRoom l D cI cJ cZ q0 q1 q2 q3 Q_side Q_height_0 Q_cell_0 Q_taken_0 Q_ways  o1 ho1) kvX5_hasRoom wL_RX7_195 ⟨Nat.le_of_ble_eq_true rfl, Nat.le_of_ble_eq_true rfl⟩ rfl rfl [8, 9, 10, 11] [0, 1, 2, 3, 4, 5, 6, 7] rfl rfl rfl rfl (by decide) rfl rfl hl.1 (Nat.le_of_ble_eq_true rfl) dX7_hold_4 ⟨Nat.zero_le _, Nat.zero_le _⟩ ⟨rfl, rfl⟩ (fun r u H locs hp hI => ?_)
  replace hp : r = o1 := hp
  rw [hp]
  clear hp
  replace hI : WI D A s.heap (wX cI cJ cZ x0 n0 n1 n2 n3 n4 n5 n6 q0 q1 q2 q3 v_heapsOfNet v_pickerOfNet v_tallyOfNet N_postCount N_roadCount N_first N_second N_number N_allowed N_at N_beside Q_side Q_height_0 Q_cell_0 Q_taken_0 Q_ways) H locs := hI
  refine lv_if_eq (tgt := 21) hx hb dX7_hold_7 (by decide) (fun hc => ?_) (fun hc => ?_)
  · replace hf := ite_t hc hf
    refine lv_bipush (v := -2) hx hb dX7_hold_21 (by decide) ?_
    replace hf := Option.some.inj hf
    subst hf
    replace hM : ((-2 : Int32), Q_height_0, Q_cell_0, Q_taken_0) = out := hM
    subst hM
    exact rt_i (u := ()) hx hb hr hlocks rfl hI hAe rfl dX7_hold_23
  · replace hf := ite_f hc hf
    refine lv_aload_n hx hb dX7_hold_10 rfl (lv_at hl 0 rfl) ?_
    refine w_get hx hb hg hown hK hI iX7 0 rfl rfl 1 (by decide) wF_RX7_19 rfl dX7_hold_11 ?_
    refine lv_iload_n hx hb dX7_hold_14 rfl (lv_at hl 1 rfl) ?_
    obtain ⟨o2, ho2, hf⟩ := bd_e hf
    refine w_Vi0 (wc := (wQ cI cJ cZ q0 q1 q2 q3 Q_side Q_height_0 Q_cell_0 Q_taken_0 Q_ways)) (wr := [(x0, .inr (7, [.ref n0, .ref q0, v_heapsOfNet, v_pickerOfNet, v_tallyOfNet])), (n0, .inr (3, [.int N_postCount, .int N_roadCount, .ref n1, .ref n2, .ref n3, .ref n4, .ref n5, .ref n6])), (n1, .inl (cI, 24, .inl N_first)), (n2, .inl (cI, 24, .inl N_second)), (n3, .inl (cI, 24, .inl N_number)), (n4, .inl (cI, 24, .inl N_allowed)), (n5, .inl (cI, 12, .inl N_at)), (n6, .inl (cI, 24, .inl N_beside))]) (rest := []) hx hb hml hg hown hK hA hI (kX5_canStandNext l D cI cJ cZ q0 q1 q2 q3 Q_side Q_height_0 Q_cell_0 Q_taken_0 Q_ways a1 o2 ho2) kvX5_canStandNext wL_RX7_198 ⟨Nat.le_of_ble_eq_true rfl, Nat.le_of_ble_eq_true rfl⟩ rfl rfl [8, 9, 10, 11] [0, 1, 2, 3, 4, 5, 6, 7] rfl rfl rfl rfl (by decide) rfl rfl hl.1 (Nat.le_of_ble_eq_true rfl) dX7_hold_15 ⟨Nat.zero_le _, Nat.zero_le _⟩ ⟨rfl, rfl⟩ (fun r u H locs hp hI => ?_)
    replace hp : r = o2 := hp
    rw [hp]
    clear hp
    replace hI : WI D A s.heap (wX cI cJ cZ x0 n0 n1 n2 n3 n4 n5 n6 q0 q1 q2 q3 v_heapsOfNet v_pickerOfNet v_tallyOfNet N_postCount N_roadCount N_first N_second N_number N_allowed N_at N_beside Q_side Q_height_0 Q_cell_0 Q_taken_0 Q_ways) H locs := hI
    refine lv_if_ne (tgt := 24) hx hb dX7_hold_18 (by decide) (fun hc => ?_) (fun hc => ?_)
    · replace hf := ite_f hc hf
      refine lv_aload_n hx hb dX7_hold_24 rfl (lv_at hl 0 rfl) ?_
      refine w_get hx hb hg hown hK hI iX7 0 rfl rfl 1 (by decide) wF_RX7_19 rfl dX7_hold_25 ?_
      refine lv_iload_n hx hb dX7_hold_28 rfl (lv_at hl 1 rfl) ?_
      obtain ⟨o3, ho3, hf⟩ := bd_e hf
      refine w_Vv0 (wc := (wQ cI cJ cZ q0 q1 q2 q3 Q_side Q_height_0 Q_cell_0 Q_taken_0 Q_ways)) (wr := [(x0, .inr (7, [.ref n0, .ref q0, v_heapsOfNet, v_pickerOfNet, v_tallyOfNet])), (n0, .inr (3, [.int N_postCount, .int N_roadCount, .ref n1, .ref n2, .ref n3, .ref n4, .ref n5, .ref n6])), (n1, .inl (cI, 24, .inl N_first)), (n2, .inl (cI, 24, .inl N_second)), (n3, .inl (cI, 24, .inl N_number)), (n4, .inl (cI, 24, .inl N_allowed)), (n5, .inl (cI, 12, .inl N_at)), (n6, .inl (cI, 24, .inl N_beside))]) (rest := []) hx hb hml hg hown hK hA hI (kX5_append l D cI cJ cZ q0 q1 q2 q3 Q_side Q_height_0 Q_cell_0 Q_taken_0 Q_ways a1 o3 ho3) kvX5_append wL_RX7_201 ⟨Nat.le_of_ble_eq_true rfl, Nat.le_of_ble_eq_true rfl⟩ rfl rfl [8, 9, 10, 11] [0, 1, 2, 3, 4, 5, 6, 7] rfl rfl rfl rfl (by decide) rfl rfl hl.1 (Nat.le_of_ble_eq_true rfl) dX7_hold_29 ⟨Nat.zero_le _, Nat.zero_le _⟩ ⟨rfl, rfl⟩ (fun  u H locs hp hI => ?_)
      replace hI : WI D A s.heap (wX cI cJ cZ x0 n0 n1 n2 n3 n4 n5 n6 q0 q1 q2 q3 v_heapsOfNet v_pickerOfNet v_tallyOfNet N_postCount N_roadCount N_first N_second N_number N_allowed N_at N_beside Q_side o3.1 o3.2.1 o3.2.2 Q_ways) H locs := hI
      refine lv_aload_n hx hb dX7_hold_32 rfl (lv_at hl 0 rfl) ?_
      refine w_get hx hb hg hown hK hI iX7 0 rfl rfl 1 (by decide) wF_RX7_19 rfl dX7_hold_33 ?_
      refine w_get hx hb hg hown hK hI iX5 8 rfl rfl 1 (by decide) wF_RX7_204 rfl dX7_hold_36 ?_
      replace hf := Option.some.inj hf
      subst hf
      replace hM : (o3.1, o3.1, o3.2.1, o3.2.2) = out := hM
      subst hM
      exact rt_i (u := ()) hx hb hr hlocks rfl hI hAe rfl dX7_hold_39
    · replace hf := ite_t hc hf
      refine lv_bipush (v := -2) hx hb dX7_hold_21 (by decide) ?_
      replace hf := Option.some.inj hf
      subst hf
      replace hM : ((-2 : Int32), Q_height_0, Q_cell_0, Q_taken_0) = out := hM
      subst hM
      exact rt_i (u := ()) hx hb hr hlocks rfl hI hAe rfl dX7_hold_23
noncomputable def FX7_on (Q_side : Int32) (Q_height_0 : Int32) (Q_cell_0 : Nat → Int32) (Q_taken_0 : Nat → Int32) (Q_ways_0 : Nat → Int32)  : Option (Int32 × Int32 × (Nat → Int32) × (Nat → Int32) × (Nat → Int32)) :=
  (FX5_hasRoom Q_side Q_height_0).bind (fun o1 => if o1 = (0 : Int32) then (some ((-2 : Int32), Q_height_0, Q_cell_0, Q_taken_0, Q_ways_0)) else ((FX5_leastNext Q_side Q_taken_0 Q_ways_0).bind (fun o2 => (FX5_append Q_side Q_height_0 Q_cell_0 Q_taken_0 o2.1).bind (fun o3 => some (o2.1, o3.1, o3.2.1, o3.2.2, o2.2)))))
abbrev GX7_on (p : Program) (l : Launch) (e : Env) (s : State) (m : MethodId) (below : List Frame) (meth : Method) (c : Code) (D : va_G) (cI cJ cZ : ClassId) (x0 n0 n1 n2 n3 n4 n5 n6 q0 q1 q2 q3 : Nat) (v_heapsOfNet : Value) (v_pickerOfNet : Value) (v_tallyOfNet : Value) (N_postCount : Int32) (N_roadCount : Int32) (N_first : Nat → Int32) (N_second : Nat → Int32) (N_number : Nat → Int32) (N_allowed : Nat → Int32) (N_at : Nat → Int32) (N_beside : Nat → Int32) (Q_side : Int32) (Q_height_0 : Int32) (Q_cell_0 : Nat → Int32) (Q_taken_0 : Nat → Int32) (Q_ways_0 : Nat → Int32)  (out : Int32 × Int32 × (Nat → Int32) × (Nat → Int32) × (Nat → Int32)) (H : Heap) (locs : List Loc) (g : JFrame) : Prop := W p l e (headSpec (Cond.code yX7_on cX7_on 2 (some .int) :: GW) { frames := 4, cells := 0, slots := 0, locals := 90 }).room s m ([.ref x0] : List Value).toArray below meth c H locs 0 0 (MQ below (va_Qi (fun r (_ : Unit) => r = out.1) (BW D (wX cI cJ cZ x0 n0 n1 n2 n3 n4 n5 n6 q0 q1 q2 q3 v_heapsOfNet v_pickerOfNet v_tallyOfNet N_postCount N_roadCount N_first N_second N_number N_allowed N_at N_beside Q_side Q_height_0 Q_cell_0 Q_taken_0 Q_ways_0) s.heap.size (fun _ => (wX cI cJ cZ x0 n0 n1 n2 n3 n4 n5 n6 q0 q1 q2 q3 v_heapsOfNet v_pickerOfNet v_tallyOfNet N_postCount N_roadCount N_first N_second N_number N_allowed N_at N_beside Q_side out.2.1 out.2.2.1 out.2.2.2.1 out.2.2.2.2))) (va_A (wX cI cJ cZ x0 n0 n1 n2 n3 n4 n5 n6 q0 q1 q2 q3 v_heapsOfNet v_pickerOfNet v_tallyOfNet N_postCount N_roadCount N_first N_second N_number N_allowed N_at N_beside Q_side Q_height_0 Q_cell_0 Q_taken_0 Q_ways_0) s.heap.size)) ([.ref x0] : List Value).toArray s 0 0 (va_A (wX cI cJ cZ x0 n0 n1 n2 n3 n4 n5 n6 q0 q1 q2 q3 v_heapsOfNet v_pickerOfNet v_tallyOfNet N_postCount N_roadCount N_first N_second N_number N_allowed N_at N_beside Q_side Q_height_0 Q_cell_0 Q_taken_0 Q_ways_0) s.heap.size)) g
theorem kvX7_on : CalV RX7 yX7_on cX7_on 2 (some .int) 0 := ⟨wC_yX7_on, wM_yX7_on, wS_yX7_on, wI_RX7, by decide +kernel⟩
set_option maxHeartbeats 4000000 in
set_option maxRecDepth 100000 in
theorem kX7_on (l : Launch) (D : va_G) (cI cJ cZ : ClassId) (x0 n0 n1 n2 n3 n4 n5 n6 q0 q1 q2 q3 : Nat) (v_heapsOfNet : Value) (v_pickerOfNet : Value) (v_tallyOfNet : Value) (N_postCount : Int32) (N_roadCount : Int32) (N_first : Nat → Int32) (N_second : Nat → Int32) (N_number : Nat → Int32) (N_allowed : Nat → Int32) (N_at : Nat → Int32) (N_beside : Nat → Int32) (Q_side : Int32) (Q_height_0 : Int32) (Q_cell_0 : Nat → Int32) (Q_taken_0 : Nat → Int32) (Q_ways_0 : Nat → Int32)  (out : Int32 × Int32 × (Nat → Int32) × (Nat → Int32) × (Nat → Int32)) (hf : FX7_on Q_side Q_height_0 Q_cell_0 Q_taken_0 Q_ways_0 = some out) : MI l yX7_on (Cond.code yX7_on cX7_on 2 (some .int) :: GW) { frames := 4, cells := 0, slots := 0, locals := 90 } D cI cJ cZ [.ref x0] (wX cI cJ cZ x0 n0 n1 n2 n3 n4 n5 n6 q0 q1 q2 q3 v_heapsOfNet v_pickerOfNet v_tallyOfNet N_postCount N_roadCount N_first N_second N_number N_allowed N_at N_beside Q_side Q_height_0 Q_cell_0 Q_taken_0 Q_ways_0) (fun r (_ : Unit) => r = out.1) (fun _ => (wX cI cJ cZ x0 n0 n1 n2 n3 n4 n5 n6 q0 q1 q2 q3 v_heapsOfNet v_pickerOfNet v_tallyOfNet N_postCount N_roadCount N_first N_second N_number N_allowed N_at N_beside Q_side out.2.1 out.2.2.1 out.2.2.2.1 out.2.2.2.2)) := by
  intro sz
  refine Met.ofW (cc := cX7_on) (maxL := 2) (ret := (some .int)) (by decide +kernel) rfl ?_
  intro p e s m args below meth c s₁ B hml hv
  obtain ⟨rfl, hsz, hP, hK, hD0⟩ := hv
  have hx := B.exec
  have hb := B.bytes
  have hr := B.returns
  have hlocks := B.notSynchronized
  have hg : ∀ w ∈ GW, w.before _ s = true := fun w h => atoms_spec (ws := Cond.code yX7_on cX7_on 2 (some .int) :: GW) B.pre w (List.mem_cons_of_mem _ h)
  have hown : s.vm.findClass RX7 = some m.cls := findClass_of_methodNamed B.named
  subst hsz
  obtain ⟨A, hAe⟩ : ∃ A, A = va_A (wX cI cJ cZ x0 n0 n1 n2 n3 n4 n5 n6 q0 q1 q2 q3 v_heapsOfNet v_pickerOfNet v_tallyOfNet N_postCount N_roadCount N_first N_second N_number N_allowed N_at N_beside Q_side Q_height_0 Q_cell_0 Q_taken_0 Q_ways_0) s.heap.size := ⟨_, rfl⟩
  have hA : ∀ q : Nat, s.heap.size ≤ q → A q := fun q h => by rw [hAe]; exact Or.inr h
  have hI : WI D A s.heap (wX cI cJ cZ x0 n0 n1 n2 n3 n4 n5 n6 q0 q1 q2 q3 v_heapsOfNet v_pickerOfNet v_tallyOfNet N_postCount N_roadCount N_first N_second N_number N_allowed N_at N_beside Q_side Q_height_0 Q_cell_0 Q_taken_0 Q_ways_0) s.heap [] := ⟨hP, by rw [hAe]; exact hD0.self, va_S.rf⟩
  have hl := lv_entry [.ref x0] (n := 2) (Nat.le_of_ble_eq_true rfl)
  rw [lg_entry_eq]
  generalize (lg_sl [.ref x0] ++ List.replicate (2 - (lg_sl [.ref x0]).length) Slot.unset).toArray = ls at hl ⊢
  replace hl : lv_has ls 2 [(0, .ref x0)] := hl
  obtain ⟨x, hf, hM⟩ : ∃ x, FX7_on Q_side Q_height_0 Q_cell_0 Q_taken_0 Q_ways_0 = some x ∧ x = out := ⟨out, hf, rfl⟩
  refine lv_aload_n hx hb dX7_on_0 rfl (lv_at hl 0 rfl) ?_
  refine w_get hx hb hg hown hK hI iX7 0 rfl rfl 1 (by decide) wF_RX7_19 rfl dX7_on_1 ?_
  obtain ⟨o1, ho1, hf⟩ := bd_e hf
  refine w_Vi0 (wc := (wQ cI cJ cZ q0 q1 q2 q3 Q_side Q_height_0 Q_cell_0 Q_taken_0 Q_ways_0)) (wr := [(x0, .inr (7, [.ref n0, .ref q0, v_heapsOfNet, v_pickerOfNet, v_tallyOfNet])), (n0, .inr (3, [.int N_postCount, .int N_roadCount, .ref n1, .ref n2, .ref n3, .ref n4, .ref n5, .ref n6])), (n1, .inl (cI, 24, .inl N_first)), (n2, .inl (cI, 24, .inl N_second)), (n3, .inl (cI, 24, .inl N_number)), (n4, .inl (cI, 24, .inl N_allowed)), (n5, .inl (cI, 12, .inl N_at)), (n6, .inl (cI, 24, .inl N_beside))]) (rest := []) hx hb hml hg hown hK hA hI (kX5_hasRoom l D cI cJ cZ q0 q1 q2 q3 Q_side Q_height_0 Q_cell_0 Q_taken_0 Q_ways_0  o1 ho1) kvX5_hasRoom wL_RX7_195 ⟨Nat.le_of_ble_eq_true rfl, Nat.le_of_ble_eq_true rfl⟩ rfl rfl [8, 9, 10, 11] [0, 1, 2, 3, 4, 5, 6, 7] rfl rfl rfl rfl (by decide) rfl rfl hl.1 (Nat.le_of_ble_eq_true rfl) dX7_on_4 ⟨Nat.zero_le _, Nat.zero_le _⟩ ⟨rfl, rfl⟩ (fun r u H locs hp hI => ?_)
  replace hp : r = o1 := hp
  rw [hp]
  clear hp
  replace hI : WI D A s.heap (wX cI cJ cZ x0 n0 n1 n2 n3 n4 n5 n6 q0 q1 q2 q3 v_heapsOfNet v_pickerOfNet v_tallyOfNet N_postCount N_roadCount N_first N_second N_number N_allowed N_at N_beside Q_side Q_height_0 Q_cell_0 Q_taken_0 Q_ways_0) H locs := hI
  refine lv_if_ne (tgt := 13) hx hb dX7_on_7 (by decide) (fun hc => ?_) (fun hc => ?_)
  · replace hf := ite_f hc hf
    refine lv_aload_n hx hb dX7_on_13 rfl (lv_at hl 0 rfl) ?_
    refine w_get hx hb hg hown hK hI iX7 0 rfl rfl 1 (by decide) wF_RX7_19 rfl dX7_on_14 ?_
    obtain ⟨o2, ho2, hf⟩ := bd_e hf
    refine w_Vi0 (wc := (wQ cI cJ cZ q0 q1 q2 q3 Q_side Q_height_0 Q_cell_0 Q_taken_0 Q_ways_0)) (wr := [(x0, .inr (7, [.ref n0, .ref q0, v_heapsOfNet, v_pickerOfNet, v_tallyOfNet])), (n0, .inr (3, [.int N_postCount, .int N_roadCount, .ref n1, .ref n2, .ref n3, .ref n4, .ref n5, .ref n6])), (n1, .inl (cI, 24, .inl N_first)), (n2, .inl (cI, 24, .inl N_second)), (n3, .inl (cI, 24, .inl N_number)), (n4, .inl (cI, 24, .inl N_allowed)), (n5, .inl (cI, 12, .inl N_at)), (n6, .inl (cI, 24, .inl N_beside))]) (rest := []) hx hb hml hg hown hK hA hI (kX5_leastNext l D cI cJ cZ q0 q1 q2 q3 Q_side Q_height_0 Q_cell_0 Q_taken_0 Q_ways_0  o2 ho2) kvX5_leastNext wL_RX7_207 ⟨Nat.le_of_ble_eq_true rfl, Nat.le_of_ble_eq_true rfl⟩ rfl rfl [8, 9, 10, 11] [0, 1, 2, 3, 4, 5, 6, 7] rfl rfl rfl rfl (by decide) rfl rfl hl.1 (Nat.le_of_ble_eq_true rfl) dX7_on_17 ⟨Nat.zero_le _, Nat.zero_le _⟩ ⟨rfl, rfl⟩ (fun r u H locs hp hI => ?_)
    replace hp : r = o2.1 := hp
    rw [hp]
    clear hp
    replace hI : WI D A s.heap (wX cI cJ cZ x0 n0 n1 n2 n3 n4 n5 n6 q0 q1 q2 q3 v_heapsOfNet v_pickerOfNet v_tallyOfNet N_postCount N_roadCount N_first N_second N_number N_allowed N_at N_beside Q_side Q_height_0 Q_cell_0 Q_taken_0 o2.2) H locs := hI
    refine lv_istore_n (lv' := [(1, .int o2.1), (0, .ref x0)]) hx hb dX7_on_20 rfl hl (by decide) rfl (fun ls hl => ?_)
    refine lv_aload_n hx hb dX7_on_21 rfl (lv_at hl 1 rfl) ?_
    refine w_get hx hb hg hown hK hI iX7 0 rfl rfl 1 (by decide) wF_RX7_19 rfl dX7_on_22 ?_
    refine lv_iload_n hx hb dX7_on_25 rfl (lv_at hl 0 rfl) ?_
    obtain ⟨o3, ho3, hf⟩ := bd_e hf
    refine w_Vv0 (wc := (wQ cI cJ cZ q0 q1 q2 q3 Q_side Q_height_0 Q_cell_0 Q_taken_0 o2.2)) (wr := [(x0, .inr (7, [.ref n0, .ref q0, v_heapsOfNet, v_pickerOfNet, v_tallyOfNet])), (n0, .inr (3, [.int N_postCount, .int N_roadCount, .ref n1, .ref n2, .ref n3, .ref n4, .ref n5, .ref n6])), (n1, .inl (cI, 24, .inl N_first)), (n2, .inl (cI, 24, .inl N_second)), (n3, .inl (cI, 24, .inl N_number)), (n4, .inl (cI, 24, .inl N_allowed)), (n5, .inl (cI, 12, .inl N_at)), (n6, .inl (cI, 24, .inl N_beside))]) (rest := []) hx hb hml hg hown hK hA hI (kX5_append l D cI cJ cZ q0 q1 q2 q3 Q_side Q_height_0 Q_cell_0 Q_taken_0 o2.2 o2.1 o3 ho3) kvX5_append wL_RX7_201 ⟨Nat.le_of_ble_eq_true rfl, Nat.le_of_ble_eq_true rfl⟩ rfl rfl [8, 9, 10, 11] [0, 1, 2, 3, 4, 5, 6, 7] rfl rfl rfl rfl (by decide) rfl rfl hl.1 (Nat.le_of_ble_eq_true rfl) dX7_on_26 ⟨Nat.zero_le _, Nat.zero_le _⟩ ⟨rfl, rfl⟩ (fun  u H locs hp hI => ?_)
    replace hI : WI D A s.heap (wX cI cJ cZ x0 n0 n1 n2 n3 n4 n5 n6 q0 q1 q2 q3 v_heapsOfNet v_pickerOfNet v_tallyOfNet N_postCount N_roadCount N_first N_second N_number N_allowed N_at N_beside Q_side o3.1 o3.2.1 o3.2.2 o2.2) H locs := hI
    refine lv_iload_n hx hb dX7_on_29 rfl (lv_at hl 0 rfl) ?_
    replace hf := Option.some.inj hf
    subst hf
    replace hM : (o2.1, o3.1, o3.2.1, o3.2.2, o2.2) = out := hM
    subst hM
    exact rt_i (u := ()) hx hb hr hlocks rfl hI hAe rfl dX7_on_30
  · replace hf := ite_t hc hf
    refine lv_bipush (v := -2) hx hb dX7_on_10 (by decide) ?_
    replace hf := Option.some.inj hf
    subst hf
    replace hM : ((-2 : Int32), Q_height_0, Q_cell_0, Q_taken_0, Q_ways_0) = out := hM
    subst hM
    exact rt_i (u := ()) hx hb hr hlocks rfl hI hAe rfl dX7_on_12
noncomputable def FX7_rows (Q_side : Int32) (Q_height : Int32) (Q_taken : Nat → Int32) (Q_ways_0 : Nat → Int32)  : Option (Int32 × (Nat → Int32)) :=
  (FX5_hasRoom Q_side Q_height).bind (fun o1 => if o1 = (0 : Int32) then (some ((-2 : Int32), Q_ways_0)) else ((FX5_waysNext Q_side Q_taken Q_ways_0).bind (fun o2 => some (o2.1, o2.2))))
abbrev GX7_rows (p : Program) (l : Launch) (e : Env) (s : State) (m : MethodId) (below : List Frame) (meth : Method) (c : Code) (D : va_G) (cI cJ cZ : ClassId) (x0 n0 n1 n2 n3 n4 n5 n6 q0 q1 q2 q3 : Nat) (v_heapsOfNet : Value) (v_pickerOfNet : Value) (v_tallyOfNet : Value) (N_postCount : Int32) (N_roadCount : Int32) (N_first : Nat → Int32) (N_second : Nat → Int32) (N_number : Nat → Int32) (N_allowed : Nat → Int32) (N_at : Nat → Int32) (N_beside : Nat → Int32) (Q_side : Int32) (Q_height : Int32) (Q_cell : Nat → Int32) (Q_taken : Nat → Int32) (Q_ways_0 : Nat → Int32)  (out : Int32 × (Nat → Int32)) (H : Heap) (locs : List Loc) (g : JFrame) : Prop := W p l e (headSpec (Cond.code yX7_rows cX7_rows 1 (some .int) :: GW) { frames := 4, cells := 0, slots := 0, locals := 86 }).room s m ([.ref x0] : List Value).toArray below meth c H locs 0 0 (MQ below (va_Qi (fun r (_ : Unit) => r = out.1) (BW D (wX cI cJ cZ x0 n0 n1 n2 n3 n4 n5 n6 q0 q1 q2 q3 v_heapsOfNet v_pickerOfNet v_tallyOfNet N_postCount N_roadCount N_first N_second N_number N_allowed N_at N_beside Q_side Q_height Q_cell Q_taken Q_ways_0) s.heap.size (fun _ => (wX cI cJ cZ x0 n0 n1 n2 n3 n4 n5 n6 q0 q1 q2 q3 v_heapsOfNet v_pickerOfNet v_tallyOfNet N_postCount N_roadCount N_first N_second N_number N_allowed N_at N_beside Q_side Q_height Q_cell Q_taken out.2))) (va_A (wX cI cJ cZ x0 n0 n1 n2 n3 n4 n5 n6 q0 q1 q2 q3 v_heapsOfNet v_pickerOfNet v_tallyOfNet N_postCount N_roadCount N_first N_second N_number N_allowed N_at N_beside Q_side Q_height Q_cell Q_taken Q_ways_0) s.heap.size)) ([.ref x0] : List Value).toArray s 0 0 (va_A (wX cI cJ cZ x0 n0 n1 n2 n3 n4 n5 n6 q0 q1 q2 q3 v_heapsOfNet v_pickerOfNet v_tallyOfNet N_postCount N_roadCount N_first N_second N_number N_allowed N_at N_beside Q_side Q_height Q_cell Q_taken Q_ways_0) s.heap.size)) g
theorem kvX7_rows : CalV RX7 yX7_rows cX7_rows 1 (some .int) 0 := ⟨wC_yX7_rows, wM_yX7_rows, wS_yX7_rows, wI_RX7, by decide +kernel⟩
set_option maxHeartbeats 4000000 in
set_option maxRecDepth 100000 in
theorem kX7_rows (l : Launch) (D : va_G) (cI cJ cZ : ClassId) (x0 n0 n1 n2 n3 n4 n5 n6 q0 q1 q2 q3 : Nat) (v_heapsOfNet : Value) (v_pickerOfNet : Value) (v_tallyOfNet : Value) (N_postCount : Int32) (N_roadCount : Int32) (N_first : Nat → Int32) (N_second : Nat → Int32) (N_number : Nat → Int32) (N_allowed : Nat → Int32) (N_at : Nat → Int32) (N_beside : Nat → Int32) (Q_side : Int32) (Q_height : Int32) (Q_cell : Nat → Int32) (Q_taken : Nat → Int32) (Q_ways_0 : Nat → Int32)  (out : Int32 × (Nat → Int32)) (hf : FX7_rows Q_side Q_height Q_taken Q_ways_0 = some out) : MI l yX7_rows (Cond.code yX7_rows cX7_rows 1 (some .int) :: GW) { frames := 4, cells := 0, slots := 0, locals := 86 } D cI cJ cZ [.ref x0] (wX cI cJ cZ x0 n0 n1 n2 n3 n4 n5 n6 q0 q1 q2 q3 v_heapsOfNet v_pickerOfNet v_tallyOfNet N_postCount N_roadCount N_first N_second N_number N_allowed N_at N_beside Q_side Q_height Q_cell Q_taken Q_ways_0) (fun r (_ : Unit) => r = out.1) (fun _ => (wX cI cJ cZ x0 n0 n1 n2 n3 n4 n5 n6 q0 q1 q2 q3 v_heapsOfNet v_pickerOfNet v_tallyOfNet N_postCount N_roadCount N_first N_second N_number N_allowed N_at N_beside Q_side Q_height Q_cell Q_taken out.2)) := by
  intro sz
  refine Met.ofW (cc := cX7_rows) (maxL := 1) (ret := (some .int)) (by decide +kernel) rfl ?_
  intro p e s m args below meth c s₁ B hml hv
  obtain ⟨rfl, hsz, hP, hK, hD0⟩ := hv
  have hx := B.exec
  have hb := B.bytes
  have hr := B.returns
  have hlocks := B.notSynchronized
  have hg : ∀ w ∈ GW, w.before _ s = true := fun w h => atoms_spec (ws := Cond.code yX7_rows cX7_rows 1 (some .int) :: GW) B.pre w (List.mem_cons_of_mem _ h)
  have hown : s.vm.findClass RX7 = some m.cls := findClass_of_methodNamed B.named
  subst hsz
  obtain ⟨A, hAe⟩ : ∃ A, A = va_A (wX cI cJ cZ x0 n0 n1 n2 n3 n4 n5 n6 q0 q1 q2 q3 v_heapsOfNet v_pickerOfNet v_tallyOfNet N_postCount N_roadCount N_first N_second N_number N_allowed N_at N_beside Q_side Q_height Q_cell Q_taken Q_ways_0) s.heap.size := ⟨_, rfl⟩
  have hA : ∀ q : Nat, s.heap.size ≤ q → A q := fun q h => by rw [hAe]; exact Or.inr h
  have hI : WI D A s.heap (wX cI cJ cZ x0 n0 n1 n2 n3 n4 n5 n6 q0 q1 q2 q3 v_heapsOfNet v_pickerOfNet v_tallyOfNet N_postCount N_roadCount N_first N_second N_number N_allowed N_at N_beside Q_side Q_height Q_cell Q_taken Q_ways_0) s.heap [] := ⟨hP, by rw [hAe]; exact hD0.self, va_S.rf⟩
  have hl := lv_entry [.ref x0] (n := 1) (Nat.le_of_ble_eq_true rfl)
  rw [lg_entry_eq]
  generalize (lg_sl [.ref x0] ++ List.replicate (1 - (lg_sl [.ref x0]).length) Slot.unset).toArray = ls at hl ⊢
  replace hl : lv_has ls 1 [(0, .ref x0)] := hl
  obtain ⟨x, hf, hM⟩ : ∃ x, FX7_rows Q_side Q_height Q_taken Q_ways_0 = some x ∧ x = out := ⟨out, hf, rfl⟩
  refine lv_aload_n hx hb dX7_rows_0 rfl (lv_at hl 0 rfl) ?_
  refine w_get hx hb hg hown hK hI iX7 0 rfl rfl 1 (by decide) wF_RX7_19 rfl dX7_rows_1 ?_
  obtain ⟨o1, ho1, hf⟩ := bd_e hf
  refine w_Vi0 (wc := (wQ cI cJ cZ q0 q1 q2 q3 Q_side Q_height Q_cell Q_taken Q_ways_0)) (wr := [(x0, .inr (7, [.ref n0, .ref q0, v_heapsOfNet, v_pickerOfNet, v_tallyOfNet])), (n0, .inr (3, [.int N_postCount, .int N_roadCount, .ref n1, .ref n2, .ref n3, .ref n4, .ref n5, .ref n6])), (n1, .inl (cI, 24, .inl N_first)), (n2, .inl (cI, 24, .inl N_second)), (n3, .inl (cI, 24, .inl N_number)), (n4, .inl (cI, 24, .inl N_allowed)), (n5, .inl (cI, 12, .inl N_at)), (n6, .inl (cI, 24, .inl N_beside))]) (rest := []) hx hb hml hg hown hK hA hI (kX5_hasRoom l D cI cJ cZ q0 q1 q2 q3 Q_side Q_height Q_cell Q_taken Q_ways_0  o1 ho1) kvX5_hasRoom wL_RX7_195 ⟨Nat.le_of_ble_eq_true rfl, Nat.le_of_ble_eq_true rfl⟩ rfl rfl [8, 9, 10, 11] [0, 1, 2, 3, 4, 5, 6, 7] rfl rfl rfl rfl (by decide) rfl rfl hl.1 (Nat.le_of_ble_eq_true rfl) dX7_rows_4 ⟨Nat.zero_le _, Nat.zero_le _⟩ ⟨rfl, rfl⟩ (fun r u H locs hp hI => ?_)
  replace hp : r = o1 := hp
  rw [hp]
  clear hp
  replace hI : WI D A s.heap (wX cI cJ cZ x0 n0 n1 n2 n3 n4 n5 n6 q0 q1 q2 q3 v_heapsOfNet v_pickerOfNet v_tallyOfNet N_postCount N_roadCount N_first N_second N_number N_allowed N_at N_beside Q_side Q_height Q_cell Q_taken Q_ways_0) H locs := hI
  refine lv_if_ne (tgt := 13) hx hb dX7_rows_7 (by decide) (fun hc => ?_) (fun hc => ?_)
  · replace hf := ite_f hc hf
    refine lv_aload_n hx hb dX7_rows_13 rfl (lv_at hl 0 rfl) ?_
    refine w_get hx hb hg hown hK hI iX7 0 rfl rfl 1 (by decide) wF_RX7_19 rfl dX7_rows_14 ?_
    obtain ⟨o2, ho2, hf⟩ := bd_e hf
    refine w_Vi0 (wc := (wQ cI cJ cZ q0 q1 q2 q3 Q_side Q_height Q_cell Q_taken Q_ways_0)) (wr := [(x0, .inr (7, [.ref n0, .ref q0, v_heapsOfNet, v_pickerOfNet, v_tallyOfNet])), (n0, .inr (3, [.int N_postCount, .int N_roadCount, .ref n1, .ref n2, .ref n3, .ref n4, .ref n5, .ref n6])), (n1, .inl (cI, 24, .inl N_first)), (n2, .inl (cI, 24, .inl N_second)), (n3, .inl (cI, 24, .inl N_number)), (n4, .inl (cI, 24, .inl N_allowed)), (n5, .inl (cI, 12, .inl N_at)), (n6, .inl (cI, 24, .inl N_beside))]) (rest := []) hx hb hml hg hown hK hA hI (kX5_waysNext l D cI cJ cZ q0 q1 q2 q3 Q_side Q_height Q_cell Q_taken Q_ways_0  o2 ho2) kvX5_waysNext wL_RX7_210 ⟨Nat.le_of_ble_eq_true rfl, Nat.le_of_ble_eq_true rfl⟩ rfl rfl [8, 9, 10, 11] [0, 1, 2, 3, 4, 5, 6, 7] rfl rfl rfl rfl (by decide) rfl rfl hl.1 (Nat.le_of_ble_eq_true rfl) dX7_rows_17 ⟨Nat.zero_le _, Nat.zero_le _⟩ ⟨rfl, rfl⟩ (fun r u H locs hp hI => ?_)
    replace hp : r = o2.1 := hp
    rw [hp]
    clear hp
    replace hI : WI D A s.heap (wX cI cJ cZ x0 n0 n1 n2 n3 n4 n5 n6 q0 q1 q2 q3 v_heapsOfNet v_pickerOfNet v_tallyOfNet N_postCount N_roadCount N_first N_second N_number N_allowed N_at N_beside Q_side Q_height Q_cell Q_taken o2.2) H locs := hI
    replace hf := Option.some.inj hf
    subst hf
    replace hM : (o2.1, o2.2) = out := hM
    subst hM
    exact rt_i (u := ()) hx hb hr hlocks rfl hI hAe rfl dX7_rows_20
  · replace hf := ite_t hc hf
    refine lv_bipush (v := -2) hx hb dX7_rows_10 (by decide) ?_
    replace hf := Option.some.inj hf
    subst hf
    replace hM : ((-2 : Int32), Q_ways_0) = out := hM
    subst hM
    exact rt_i (u := ()) hx hb hr hlocks rfl hI hAe rfl dX7_rows_12
noncomputable def FX7_at (Q_side : Int32) (Q_height : Int32) (Q_cell : Nat → Int32) (a1 : Int32) (a2 : Int32) : Option (Int32) :=
  if a1 < (0 : Int32) then (some (-1 : Int32)) else (if Q_height ≤ a1 then (some (-1 : Int32)) else (if a2 < (0 : Int32) then (some (-1 : Int32)) else (if a2 < Q_side then (rd Q_cell 81 ((a1 * (9 : Int32)) + a2) (fun x1 => some x1)) else (some (-1 : Int32)))))
abbrev GX7_at (p : Program) (l : Launch) (e : Env) (s : State) (m : MethodId) (below : List Frame) (meth : Method) (c : Code) (D : va_G) (cI cJ cZ : ClassId) (x0 n0 n1 n2 n3 n4 n5 n6 q0 q1 q2 q3 : Nat) (v_heapsOfNet : Value) (v_pickerOfNet : Value) (v_tallyOfNet : Value) (N_postCount : Int32) (N_roadCount : Int32) (N_first : Nat → Int32) (N_second : Nat → Int32) (N_number : Nat → Int32) (N_allowed : Nat → Int32) (N_at : Nat → Int32) (N_beside : Nat → Int32) (Q_side : Int32) (Q_height : Int32) (Q_cell : Nat → Int32) (Q_taken : Nat → Int32) (Q_ways : Nat → Int32) (a1 : Int32) (a2 : Int32) (out : Int32) (H : Heap) (locs : List Loc) (g : JFrame) : Prop := W p l e (headSpec (Cond.code yX7_at cX7_at 3 (some .int) :: GW) { frames := 0, cells := 0, slots := 0, locals := 0 }).room s m ([.ref x0, .int a1, .int a2] : List Value).toArray below meth c H locs 0 0 (MQ below (va_Qi (fun r (_ : Unit) => r = out) (BW D (wX cI cJ cZ x0 n0 n1 n2 n3 n4 n5 n6 q0 q1 q2 q3 v_heapsOfNet v_pickerOfNet v_tallyOfNet N_postCount N_roadCount N_first N_second N_number N_allowed N_at N_beside Q_side Q_height Q_cell Q_taken Q_ways) s.heap.size (fun _ => (wX cI cJ cZ x0 n0 n1 n2 n3 n4 n5 n6 q0 q1 q2 q3 v_heapsOfNet v_pickerOfNet v_tallyOfNet N_postCount N_roadCount N_first N_second N_number N_allowed N_at N_beside Q_side Q_height Q_cell Q_taken Q_ways))) (va_A (wX cI cJ cZ x0 n0 n1 n2 n3 n4 n5 n6 q0 q1 q2 q3 v_heapsOfNet v_pickerOfNet v_tallyOfNet N_postCount N_roadCount N_first N_second N_number N_allowed N_at N_beside Q_side Q_height Q_cell Q_taken Q_ways) s.heap.size)) ([.ref x0, .int a1, .int a2] : List Value).toArray s 0 0 (va_A (wX cI cJ cZ x0 n0 n1 n2 n3 n4 n5 n6 q0 q1 q2 q3 v_heapsOfNet v_pickerOfNet v_tallyOfNet N_postCount N_roadCount N_first N_second N_number N_allowed N_at N_beside Q_side Q_height Q_cell Q_taken Q_ways) s.heap.size)) g
theorem kvX7_at : CalV RX7 yX7_at cX7_at 3 (some .int) 2 := ⟨wC_yX7_at, wM_yX7_at, wS_yX7_at, wI_RX7, by decide +kernel⟩
set_option maxHeartbeats 4000000 in
set_option maxRecDepth 100000 in
theorem kX7_at (l : Launch) (D : va_G) (cI cJ cZ : ClassId) (x0 n0 n1 n2 n3 n4 n5 n6 q0 q1 q2 q3 : Nat) (v_heapsOfNet : Value) (v_pickerOfNet : Value) (v_tallyOfNet : Value) (N_postCount : Int32) (N_roadCount : Int32) (N_first : Nat → Int32) (N_second : Nat → Int32) (N_number : Nat → Int32) (N_allowed : Nat → Int32) (N_at : Nat → Int32) (N_beside : Nat → Int32) (Q_side : Int32) (Q_height : Int32) (Q_cell : Nat → Int32) (Q_taken : Nat → Int32) (Q_ways : Nat → Int32) (a1 : Int32) (a2 : Int32) (out : Int32) (hf : FX7_at Q_side Q_height Q_cell a1 a2 = some out) : MI l yX7_at (Cond.code yX7_at cX7_at 3 (some .int) :: GW) { frames := 0, cells := 0, slots := 0, locals := 0 } D cI cJ cZ [.ref x0, .int a1, .int a2] (wX cI cJ cZ x0 n0 n1 n2 n3 n4 n5 n6 q0 q1 q2 q3 v_heapsOfNet v_pickerOfNet v_tallyOfNet N_postCount N_roadCount N_first N_second N_number N_allowed N_at N_beside Q_side Q_height Q_cell Q_taken Q_ways) (fun r (_ : Unit) => r = out) (fun _ => (wX cI cJ cZ x0 n0 n1 n2 n3 n4 n5 n6 q0 q1 q2 q3 v_heapsOfNet v_pickerOfNet v_tallyOfNet N_postCount N_roadCount N_first N_second N_number N_allowed N_at N_beside Q_side Q_height Q_cell Q_taken Q_ways)) := by
  intro sz
  refine Met.ofW (cc := cX7_at) (maxL := 3) (ret := (some .int)) (by decide +kernel) rfl ?_
  intro p e s m args below meth c s₁ B hml hv
  obtain ⟨rfl, hsz, hP, hK, hD0⟩ := hv
  have hx := B.exec
  have hb := B.bytes
  have hr := B.returns
  have hlocks := B.notSynchronized
  have hg : ∀ w ∈ GW, w.before _ s = true := fun w h => atoms_spec (ws := Cond.code yX7_at cX7_at 3 (some .int) :: GW) B.pre w (List.mem_cons_of_mem _ h)
  have hown : s.vm.findClass RX7 = some m.cls := findClass_of_methodNamed B.named
  subst hsz
  obtain ⟨A, hAe⟩ : ∃ A, A = va_A (wX cI cJ cZ x0 n0 n1 n2 n3 n4 n5 n6 q0 q1 q2 q3 v_heapsOfNet v_pickerOfNet v_tallyOfNet N_postCount N_roadCount N_first N_second N_number N_allowed N_at N_beside Q_side Q_height Q_cell Q_taken Q_ways) s.heap.size := ⟨_, rfl⟩
  have hA : ∀ q : Nat, s.heap.size ≤ q → A q := fun q h => by rw [hAe]; exact Or.inr h
  have hI : WI D A s.heap (wX cI cJ cZ x0 n0 n1 n2 n3 n4 n5 n6 q0 q1 q2 q3 v_heapsOfNet v_pickerOfNet v_tallyOfNet N_postCount N_roadCount N_first N_second N_number N_allowed N_at N_beside Q_side Q_height Q_cell Q_taken Q_ways) s.heap [] := ⟨hP, by rw [hAe]; exact hD0.self, va_S.rf⟩
  have hl := lv_entry [.ref x0, .int a1, .int a2] (n := 3) (Nat.le_of_ble_eq_true rfl)
  rw [lg_entry_eq]
  generalize (lg_sl [.ref x0, .int a1, .int a2] ++ List.replicate (3 - (lg_sl [.ref x0, .int a1, .int a2]).length) Slot.unset).toArray = ls at hl ⊢
  replace hl : lv_has ls 3 [(0, .ref x0), (1, .int a1), (2, .int a2)] := hl
  obtain ⟨x, hf, hM⟩ : ∃ x, FX7_at Q_side Q_height Q_cell a1 a2 = some x ∧ x = out := ⟨out, hf, rfl⟩
  refine lv_iload_n hx hb dX7_at_0 rfl (lv_at hl 1 rfl) ?_
  refine lv_if_lt (tgt := 30) hx hb dX7_at_1 (by decide) (fun hc => ?_) (fun hc => ?_)
  · replace hf := ite_t hc hf
    refine lv_iconst (v := -1) hx hb dX7_at_30 (by decide) ?_
    replace hf := Option.some.inj hf
    subst hf
    replace hM : (-1 : Int32) = out := hM
    subst hM
    exact rt_i (u := ()) hx hb hr hlocks rfl hI hAe rfl dX7_at_31
  · replace hf := ite_f hc hf
    refine lv_iload_n hx hb dX7_at_4 rfl (lv_at hl 1 rfl) ?_
    refine lv_aload_n hx hb dX7_at_5 rfl (lv_at hl 0 rfl) ?_
    refine w_get hx hb hg hown hK hI iX7 0 rfl rfl 1 (by decide) wF_RX7_19 rfl dX7_at_6 ?_
    refine w_get hx hb hg hown hK hI iX5 8 rfl rfl 1 (by decide) wF_RX7_204 rfl dX7_at_9 ?_
    refine lv_icmp_ge (tgt := 30) hx hb dX7_at_12 (by decide) (fun hc => ?_) (fun hc => ?_)
    · replace hf := ite_t hc hf
      refine lv_iconst (v := -1) hx hb dX7_at_30 (by decide) ?_
      replace hf := Option.some.inj hf
      subst hf
      replace hM : (-1 : Int32) = out := hM
      subst hM
      exact rt_i (u := ()) hx hb hr hlocks rfl hI hAe rfl dX7_at_31
    · replace hf := ite_f hc hf
      refine lv_iload_n hx hb dX7_at_15 rfl (lv_at hl 2 rfl) ?_
      refine lv_if_lt (tgt := 30) hx hb dX7_at_16 (by decide) (fun hc => ?_) (fun hc => ?_)
      · replace hf := ite_t hc hf
        refine lv_iconst (v := -1) hx hb dX7_at_30 (by decide) ?_
        replace hf := Option.some.inj hf
        subst hf
        replace hM : (-1 : Int32) = out := hM
        subst hM
        exact rt_i (u := ()) hx hb hr hlocks rfl hI hAe rfl dX7_at_31
      · replace hf := ite_f hc hf
        refine lv_iload_n hx hb dX7_at_19 rfl (lv_at hl 2 rfl) ?_
        refine lv_aload_n hx hb dX7_at_20 rfl (lv_at hl 0 rfl) ?_
        refine w_get hx hb hg hown hK hI iX7 0 rfl rfl 1 (by decide) wF_RX7_19 rfl dX7_at_21 ?_
        refine w_get hx hb hg hown hK hI iX5 8 rfl rfl 0 (by decide) wF_RX7_213 rfl dX7_at_24 ?_
        refine lv_icmp_lt (tgt := 32) hx hb dX7_at_27 (by decide) (fun hc => ?_) (fun hc => ?_)
        · replace hf := ite_t hc hf
          refine lv_aload_n hx hb dX7_at_32 rfl (lv_at hl 0 rfl) ?_
          refine w_get hx hb hg hown hK hI iX7 0 rfl rfl 1 (by decide) wF_RX7_19 rfl dX7_at_33 ?_
          refine w_get hx hb hg hown hK hI iX5 8 rfl rfl 2 (by decide) wF_RX7_216 rfl dX7_at_36 ?_
          refine lv_iload_n hx hb dX7_at_39 rfl (lv_at hl 1 rfl) ?_
          refine lv_bipush (v := 9) hx hb dX7_at_40 (by decide) ?_
          refine lv_imul hx hb dX7_at_42 ?_
          refine lv_iload_n hx hb dX7_at_43 rfl (lv_at hl 2 rfl) ?_
          refine lv_iadd hx hb dX7_at_44 ?_
          obtain ⟨hin, hf⟩ := rd_e hf
          refine w_iald hx hb hK hI 9 rfl hin dX7_at_45 (fun x1 ex1 => ?_)
          replace hf := hf x1 ex1
          replace hf := Option.some.inj hf
          subst hf
          replace hM : x1 = out := hM
          subst hM
          exact rt_i (u := ()) hx hb hr hlocks rfl hI hAe rfl dX7_at_46
        · replace hf := ite_f hc hf
          refine lv_iconst (v := -1) hx hb dX7_at_30 (by decide) ?_
          replace hf := Option.some.inj hf
          subst hf
          replace hM : (-1 : Int32) = out := hM
          subst hM
          exact rt_i (u := ()) hx hb hr hlocks rfl hI hAe rfl dX7_at_31
noncomputable def FX7_meets  (a1 : Int32) (a2 : Int32) (a3 : Int32) : Option (Int32) :=
  rm_ a1 (2 : Int32) (fun x1 => if x1 = (0 : Int32) then (if a1 < (2 : Int32) then (some (-2 : Int32)) else (if (20 : Int32) < a1 then (some (-2 : Int32)) else (if a2 < (0 : Int32) then (some (-2 : Int32)) else (if (a1 - (2 : Int32)) < a2 then (some (-2 : Int32)) else (if a3 < (0 : Int32) then (some (-2 : Int32)) else (if a3 < a1 then (if a3 = (a1 - (1 : Int32)) then (some a2) else (if a3 = a2 then (some (a1 - (1 : Int32))) else ((FJ9_floorMod_7cf53 (((2 : Int32) * a2) - a3) (a1 - (1 : Int32))).bind (fun x2 => some x2)))) else (some (-2 : Int32)))))))) else (some (-2 : Int32)))
abbrev GX7_meets (p : Program) (l : Launch) (e : Env) (s : State) (m : MethodId) (below : List Frame) (meth : Method) (c : Code) (D : va_G) (cI cJ cZ : ClassId) (x0 n0 n1 n2 n3 n4 n5 n6 q0 q1 q2 q3 : Nat) (v_heapsOfNet : Value) (v_pickerOfNet : Value) (v_tallyOfNet : Value) (N_postCount : Int32) (N_roadCount : Int32) (N_first : Nat → Int32) (N_second : Nat → Int32) (N_number : Nat → Int32) (N_allowed : Nat → Int32) (N_at : Nat → Int32) (N_beside : Nat → Int32) (Q_side : Int32) (Q_height : Int32) (Q_cell : Nat → Int32) (Q_taken : Nat → Int32) (Q_ways : Nat → Int32) (a1 : Int32) (a2 : Int32) (a3 : Int32) (out : Int32) (H : Heap) (locs : List Loc) (g : JFrame) : Prop := W p l e (headSpec (Cond.code yX7_meets cX7_meets 4 (some .int) :: GW) { frames := 1, cells := 0, slots := 0, locals := 22 }).room s m ([.ref x0, .int a1, .int a2, .int a3] : List Value).toArray below meth c H locs 0 0 (MQ below (va_Qi (fun r (_ : Unit) => r = out) (BW D (wX cI cJ cZ x0 n0 n1 n2 n3 n4 n5 n6 q0 q1 q2 q3 v_heapsOfNet v_pickerOfNet v_tallyOfNet N_postCount N_roadCount N_first N_second N_number N_allowed N_at N_beside Q_side Q_height Q_cell Q_taken Q_ways) s.heap.size (fun _ => (wX cI cJ cZ x0 n0 n1 n2 n3 n4 n5 n6 q0 q1 q2 q3 v_heapsOfNet v_pickerOfNet v_tallyOfNet N_postCount N_roadCount N_first N_second N_number N_allowed N_at N_beside Q_side Q_height Q_cell Q_taken Q_ways))) (va_A (wX cI cJ cZ x0 n0 n1 n2 n3 n4 n5 n6 q0 q1 q2 q3 v_heapsOfNet v_pickerOfNet v_tallyOfNet N_postCount N_roadCount N_first N_second N_number N_allowed N_at N_beside Q_side Q_height Q_cell Q_taken Q_ways) s.heap.size)) ([.ref x0, .int a1, .int a2, .int a3] : List Value).toArray s 0 0 (va_A (wX cI cJ cZ x0 n0 n1 n2 n3 n4 n5 n6 q0 q1 q2 q3 v_heapsOfNet v_pickerOfNet v_tallyOfNet N_postCount N_roadCount N_first N_second N_number N_allowed N_at N_beside Q_side Q_height Q_cell Q_taken Q_ways) s.heap.size)) g
theorem kvX7_meets : CalV RX7 yX7_meets cX7_meets 4 (some .int) 3 := ⟨wC_yX7_meets, wM_yX7_meets, wS_yX7_meets, wI_RX7, by decide +kernel⟩
set_option maxHeartbeats 4000000 in
set_option maxRecDepth 100000 in
theorem kX7_meets (l : Launch) (D : va_G) (cI cJ cZ : ClassId) (x0 n0 n1 n2 n3 n4 n5 n6 q0 q1 q2 q3 : Nat) (v_heapsOfNet : Value) (v_pickerOfNet : Value) (v_tallyOfNet : Value) (N_postCount : Int32) (N_roadCount : Int32) (N_first : Nat → Int32) (N_second : Nat → Int32) (N_number : Nat → Int32) (N_allowed : Nat → Int32) (N_at : Nat → Int32) (N_beside : Nat → Int32) (Q_side : Int32) (Q_height : Int32) (Q_cell : Nat → Int32) (Q_taken : Nat → Int32) (Q_ways : Nat → Int32) (a1 : Int32) (a2 : Int32) (a3 : Int32) (out : Int32) (hf : FX7_meets a1 a2 a3 = some out) : MI l yX7_meets (Cond.code yX7_meets cX7_meets 4 (some .int) :: GW) { frames := 1, cells := 0, slots := 0, locals := 22 } D cI cJ cZ [.ref x0, .int a1, .int a2, .int a3] (wX cI cJ cZ x0 n0 n1 n2 n3 n4 n5 n6 q0 q1 q2 q3 v_heapsOfNet v_pickerOfNet v_tallyOfNet N_postCount N_roadCount N_first N_second N_number N_allowed N_at N_beside Q_side Q_height Q_cell Q_taken Q_ways) (fun r (_ : Unit) => r = out) (fun _ => (wX cI cJ cZ x0 n0 n1 n2 n3 n4 n5 n6 q0 q1 q2 q3 v_heapsOfNet v_pickerOfNet v_tallyOfNet N_postCount N_roadCount N_first N_second N_number N_allowed N_at N_beside Q_side Q_height Q_cell Q_taken Q_ways)) := by
  intro sz
  refine Met.ofW (cc := cX7_meets) (maxL := 4) (ret := (some .int)) (by decide +kernel) rfl ?_
  intro p e s m args below meth c s₁ B hml hv
  obtain ⟨rfl, hsz, hP, hK, hD0⟩ := hv
  have hx := B.exec
  have hb := B.bytes
  have hr := B.returns
  have hlocks := B.notSynchronized
  have hg : ∀ w ∈ GW, w.before _ s = true := fun w h => atoms_spec (ws := Cond.code yX7_meets cX7_meets 4 (some .int) :: GW) B.pre w (List.mem_cons_of_mem _ h)
  have hown : s.vm.findClass RX7 = some m.cls := findClass_of_methodNamed B.named
  subst hsz
  obtain ⟨A, hAe⟩ : ∃ A, A = va_A (wX cI cJ cZ x0 n0 n1 n2 n3 n4 n5 n6 q0 q1 q2 q3 v_heapsOfNet v_pickerOfNet v_tallyOfNet N_postCount N_roadCount N_first N_second N_number N_allowed N_at N_beside Q_side Q_height Q_cell Q_taken Q_ways) s.heap.size := ⟨_, rfl⟩
  have hA : ∀ q : Nat, s.heap.size ≤ q → A q := fun q h => by rw [hAe]; exact Or.inr h
  have hI : WI D A s.heap (wX cI cJ cZ x0 n0 n1 n2 n3 n4 n5 n6 q0 q1 q2 q3 v_heapsOfNet v_pickerOfNet v_tallyOfNet N_postCount N_roadCount N_first N_second N_number N_allowed N_at N_beside Q_side Q_height Q_cell Q_taken Q_ways) s.heap [] := ⟨hP, by rw [hAe]; exact hD0.self, va_S.rf⟩
  have hl := lv_entry [.ref x0, .int a1, .int a2, .int a3] (n := 4) (Nat.le_of_ble_eq_true rfl)
  rw [lg_entry_eq]
  generalize (lg_sl [.ref x0, .int a1, .int a2, .int a3] ++ List.replicate (4 - (lg_sl [.ref x0, .int a1, .int a2, .int a3]).length) Slot.unset).toArray = ls at hl ⊢
  replace hl : lv_has ls 4 [(0, .ref x0), (1, .int a1), (2, .int a2), (3, .int a3)] := hl
  obtain ⟨x, hf, hM⟩ : ∃ x, FX7_meets a1 a2 a3 = some x ∧ x = out := ⟨out, hf, rfl⟩
  refine lv_iload_n hx hb dX7_meets_0 rfl (lv_at hl 1 rfl) ?_
  refine lv_iconst (v := 2) hx hb dX7_meets_1 (by decide) ?_
  obtain ⟨hne, hf⟩ := rm_e hf
  refine lv_irem hx hb dX7_meets_2 hne ?_
  refine lv_topi (fun x1 ex1 => ?_)
  replace hf := hf x1 ex1
  refine lv_if_ne (tgt := 37) hx hb dX7_meets_3 (by decide) (fun hc => ?_) (fun hc => ?_)
  · replace hf := ite_f hc hf
    refine lv_bipush (v := -2) hx hb dX7_meets_37 (by decide) ?_
    replace hf := Option.some.inj hf
    subst hf
    replace hM : (-2 : Int32) = out := hM
    subst hM
    exact rt_i (u := ()) hx hb hr hlocks rfl hI hAe rfl dX7_meets_39
  · replace hf := ite_t hc hf
    refine lv_iload_n hx hb dX7_meets_6 rfl (lv_at hl 1 rfl) ?_
    refine lv_iconst (v := 2) hx hb dX7_meets_7 (by decide) ?_
    refine lv_icmp_lt (tgt := 37) hx hb dX7_meets_8 (by decide) (fun hc => ?_) (fun hc => ?_)
    · replace hf := ite_t hc hf
      refine lv_bipush (v := -2) hx hb dX7_meets_37 (by decide) ?_
      replace hf := Option.some.inj hf
      subst hf
      replace hM : (-2 : Int32) = out := hM
      subst hM
      exact rt_i (u := ()) hx hb hr hlocks rfl hI hAe rfl dX7_meets_39
    · replace hf := ite_f hc hf
      refine lv_iload_n hx hb dX7_meets_11 rfl (lv_at hl 1 rfl) ?_
      refine lv_bipush (v := 20) hx hb dX7_meets_12 (by decide) ?_
      refine lv_icmp_gt (tgt := 37) hx hb dX7_meets_14 (by decide) (fun hc => ?_) (fun hc => ?_)
      · replace hf := ite_t hc hf
        refine lv_bipush (v := -2) hx hb dX7_meets_37 (by decide) ?_
        replace hf := Option.some.inj hf
        subst hf
        replace hM : (-2 : Int32) = out := hM
        subst hM
        exact rt_i (u := ()) hx hb hr hlocks rfl hI hAe rfl dX7_meets_39
      · replace hf := ite_f hc hf
        refine lv_iload_n hx hb dX7_meets_17 rfl (lv_at hl 2 rfl) ?_
        refine lv_if_lt (tgt := 37) hx hb dX7_meets_18 (by decide) (fun hc => ?_) (fun hc => ?_)
        · replace hf := ite_t hc hf
          refine lv_bipush (v := -2) hx hb dX7_meets_37 (by decide) ?_
          replace hf := Option.some.inj hf
          subst hf
          replace hM : (-2 : Int32) = out := hM
          subst hM
          exact rt_i (u := ()) hx hb hr hlocks rfl hI hAe rfl dX7_meets_39
        · replace hf := ite_f hc hf
          refine lv_iload_n hx hb dX7_meets_21 rfl (lv_at hl 2 rfl) ?_
          refine lv_iload_n hx hb dX7_meets_22 rfl (lv_at hl 1 rfl) ?_
          refine lv_iconst (v := 2) hx hb dX7_meets_23 (by decide) ?_
          refine lv_isub hx hb dX7_meets_24 ?_
          refine lv_icmp_gt (tgt := 37) hx hb dX7_meets_25 (by decide) (fun hc => ?_) (fun hc => ?_)
          · replace hf := ite_t hc hf
            refine lv_bipush (v := -2) hx hb dX7_meets_37 (by decide) ?_
            replace hf := Option.some.inj hf
            subst hf
            replace hM : (-2 : Int32) = out := hM
            subst hM
            exact rt_i (u := ()) hx hb hr hlocks rfl hI hAe rfl dX7_meets_39
          · replace hf := ite_f hc hf
            refine lv_iload_n hx hb dX7_meets_28 rfl (lv_at hl 3 rfl) ?_
            refine lv_if_lt (tgt := 37) hx hb dX7_meets_29 (by decide) (fun hc => ?_) (fun hc => ?_)
            · replace hf := ite_t hc hf
              refine lv_bipush (v := -2) hx hb dX7_meets_37 (by decide) ?_
              replace hf := Option.some.inj hf
              subst hf
              replace hM : (-2 : Int32) = out := hM
              subst hM
              exact rt_i (u := ()) hx hb hr hlocks rfl hI hAe rfl dX7_meets_39
            · replace hf := ite_f hc hf
              refine lv_iload_n hx hb dX7_meets_32 rfl (lv_at hl 3 rfl) ?_
              refine lv_iload_n hx hb dX7_meets_33 rfl (lv_at hl 1 rfl) ?_
              refine lv_icmp_lt (tgt := 40) hx hb dX7_meets_34 (by decide) (fun hc => ?_) (fun hc => ?_)
              · replace hf := ite_t hc hf
                refine lv_iload_n hx hb dX7_meets_40 rfl (lv_at hl 3 rfl) ?_
                refine lv_iload_n hx hb dX7_meets_41 rfl (lv_at hl 1 rfl) ?_
                refine lv_iconst (v := 1) hx hb dX7_meets_42 (by decide) ?_
                refine lv_isub hx hb dX7_meets_43 ?_
                refine lv_icmp_ne (tgt := 49) hx hb dX7_meets_44 (by decide) (fun hc => ?_) (fun hc => ?_)
                · replace hf := ite_f hc hf
                  refine lv_iload_n hx hb dX7_meets_49 rfl (lv_at hl 3 rfl) ?_
                  refine lv_iload_n hx hb dX7_meets_50 rfl (lv_at hl 2 rfl) ?_
                  refine lv_icmp_ne (tgt := 58) hx hb dX7_meets_51 (by decide) (fun hc => ?_) (fun hc => ?_)
                  · replace hf := ite_f hc hf
                    refine lv_iconst (v := 2) hx hb dX7_meets_58 (by decide) ?_
                    refine lv_iload_n hx hb dX7_meets_59 rfl (lv_at hl 2 rfl) ?_
                    refine lv_imul hx hb dX7_meets_60 ?_
                    refine lv_iload_n hx hb dX7_meets_61 rfl (lv_at hl 3 rfl) ?_
                    refine lv_isub hx hb dX7_meets_62 ?_
                    refine lv_iload_n hx hb dX7_meets_63 rfl (lv_at hl 1 rfl) ?_
                    refine lv_iconst (v := 1) hx hb dX7_meets_64 (by decide) ?_
                    refine lv_isub hx hb dX7_meets_65 ?_
                    obtain ⟨x2, hx2, hf⟩ := bd_e hf
                    refine w_S (rest := []) hx hb hml hg hown hK (kJ9_floorMod_7cf53 l D cI cJ cZ (((2 : Int32) * a2) - a3) (a1 - (1 : Int32)) x2 hx2) ksJ9_floorMod_7cf53 wL_RX7_219 ⟨Nat.le_of_ble_eq_true rfl, Nat.le_of_ble_eq_true rfl⟩ ⟨rfl, rfl⟩ rfl rfl hl.1 (Nat.le_of_ble_eq_true rfl) dX7_meets_66 ⟨Nat.zero_le _, Nat.zero_le _⟩ ?_
                    replace hf := Option.some.inj hf
                    subst hf
                    replace hM : x2 = out := hM
                    subst hM
                    exact rt_i (u := ()) hx hb hr hlocks rfl hI hAe rfl dX7_meets_69
                  · replace hf := ite_t hc hf
                    refine lv_iload_n hx hb dX7_meets_54 rfl (lv_at hl 1 rfl) ?_
                    refine lv_iconst (v := 1) hx hb dX7_meets_55 (by decide) ?_
                    refine lv_isub hx hb dX7_meets_56 ?_
                    replace hf := Option.some.inj hf
                    subst hf
                    replace hM : (a1 - (1 : Int32)) = out := hM
                    subst hM
                    exact rt_i (u := ()) hx hb hr hlocks rfl hI hAe rfl dX7_meets_57
                · replace hf := ite_t hc hf
                  refine lv_iload_n hx hb dX7_meets_47 rfl (lv_at hl 2 rfl) ?_
                  replace hf := Option.some.inj hf
                  subst hf
                  replace hM : a2 = out := hM
                  subst hM
                  exact rt_i (u := ()) hx hb hr hlocks rfl hI hAe rfl dX7_meets_48
              · replace hf := ite_f hc hf
                refine lv_bipush (v := -2) hx hb dX7_meets_37 (by decide) ?_
                replace hf := Option.some.inj hf
                subst hf
                replace hM : (-2 : Int32) = out := hM
                subst hM
                exact rt_i (u := ()) hx hb hr hlocks rfl hI hAe rfl dX7_meets_39
noncomputable def FX7_many (N_postCount : Int32) (N_roadCount : Int32) (Q_height : Int32) (a1 : Int32) : Option (Int32) :=
  if a1 = (0 : Int32) then (some N_postCount) else if a1 = (1 : Int32) then (some N_roadCount) else if a1 = (2 : Int32) then (some Q_height) else (some (-2 : Int32))
abbrev GX7_many (p : Program) (l : Launch) (e : Env) (s : State) (m : MethodId) (below : List Frame) (meth : Method) (c : Code) (D : va_G) (cI cJ cZ : ClassId) (x0 n0 n1 n2 n3 n4 n5 n6 q0 q1 q2 q3 : Nat) (v_heapsOfNet : Value) (v_pickerOfNet : Value) (v_tallyOfNet : Value) (N_postCount : Int32) (N_roadCount : Int32) (N_first : Nat → Int32) (N_second : Nat → Int32) (N_number : Nat → Int32) (N_allowed : Nat → Int32) (N_at : Nat → Int32) (N_beside : Nat → Int32) (Q_side : Int32) (Q_height : Int32) (Q_cell : Nat → Int32) (Q_taken : Nat → Int32) (Q_ways : Nat → Int32) (a1 : Int32) (out : Int32) (H : Heap) (locs : List Loc) (g : JFrame) : Prop := W p l e (headSpec (Cond.code yX7_many cX7_many 2 (some .int) :: GW) { frames := 0, cells := 0, slots := 0, locals := 0 }).room s m ([.ref x0, .int a1] : List Value).toArray below meth c H locs 0 0 (MQ below (va_Qi (fun r (_ : Unit) => r = out) (BW D (wX cI cJ cZ x0 n0 n1 n2 n3 n4 n5 n6 q0 q1 q2 q3 v_heapsOfNet v_pickerOfNet v_tallyOfNet N_postCount N_roadCount N_first N_second N_number N_allowed N_at N_beside Q_side Q_height Q_cell Q_taken Q_ways) s.heap.size (fun _ => (wX cI cJ cZ x0 n0 n1 n2 n3 n4 n5 n6 q0 q1 q2 q3 v_heapsOfNet v_pickerOfNet v_tallyOfNet N_postCount N_roadCount N_first N_second N_number N_allowed N_at N_beside Q_side Q_height Q_cell Q_taken Q_ways))) (va_A (wX cI cJ cZ x0 n0 n1 n2 n3 n4 n5 n6 q0 q1 q2 q3 v_heapsOfNet v_pickerOfNet v_tallyOfNet N_postCount N_roadCount N_first N_second N_number N_allowed N_at N_beside Q_side Q_height Q_cell Q_taken Q_ways) s.heap.size)) ([.ref x0, .int a1] : List Value).toArray s 0 0 (va_A (wX cI cJ cZ x0 n0 n1 n2 n3 n4 n5 n6 q0 q1 q2 q3 v_heapsOfNet v_pickerOfNet v_tallyOfNet N_postCount N_roadCount N_first N_second N_number N_allowed N_at N_beside Q_side Q_height Q_cell Q_taken Q_ways) s.heap.size)) g
theorem kvX7_many : CalV RX7 yX7_many cX7_many 2 (some .int) 1 := ⟨wC_yX7_many, wM_yX7_many, wS_yX7_many, wI_RX7, by decide +kernel⟩
set_option maxHeartbeats 4000000 in
set_option maxRecDepth 100000 in
theorem kX7_many (l : Launch) (D : va_G) (cI cJ cZ : ClassId) (x0 n0 n1 n2 n3 n4 n5 n6 q0 q1 q2 q3 : Nat) (v_heapsOfNet : Value) (v_pickerOfNet : Value) (v_tallyOfNet : Value) (N_postCount : Int32) (N_roadCount : Int32) (N_first : Nat → Int32) (N_second : Nat → Int32) (N_number : Nat → Int32) (N_allowed : Nat → Int32) (N_at : Nat → Int32) (N_beside : Nat → Int32) (Q_side : Int32) (Q_height : Int32) (Q_cell : Nat → Int32) (Q_taken : Nat → Int32) (Q_ways : Nat → Int32) (a1 : Int32) (out : Int32) (hf : FX7_many N_postCount N_roadCount Q_height a1 = some out) : MI l yX7_many (Cond.code yX7_many cX7_many 2 (some .int) :: GW) { frames := 0, cells := 0, slots := 0, locals := 0 } D cI cJ cZ [.ref x0, .int a1] (wX cI cJ cZ x0 n0 n1 n2 n3 n4 n5 n6 q0 q1 q2 q3 v_heapsOfNet v_pickerOfNet v_tallyOfNet N_postCount N_roadCount N_first N_second N_number N_allowed N_at N_beside Q_side Q_height Q_cell Q_taken Q_ways) (fun r (_ : Unit) => r = out) (fun _ => (wX cI cJ cZ x0 n0 n1 n2 n3 n4 n5 n6 q0 q1 q2 q3 v_heapsOfNet v_pickerOfNet v_tallyOfNet N_postCount N_roadCount N_first N_second N_number N_allowed N_at N_beside Q_side Q_height Q_cell Q_taken Q_ways)) := by
  intro sz
  refine Met.ofW (cc := cX7_many) (maxL := 2) (ret := (some .int)) (by decide +kernel) rfl ?_
  intro p e s m args below meth c s₁ B hml hv
  obtain ⟨rfl, hsz, hP, hK, hD0⟩ := hv
  have hx := B.exec
  have hb := B.bytes
  have hr := B.returns
  have hlocks := B.notSynchronized
  have hg : ∀ w ∈ GW, w.before _ s = true := fun w h => atoms_spec (ws := Cond.code yX7_many cX7_many 2 (some .int) :: GW) B.pre w (List.mem_cons_of_mem _ h)
  have hown : s.vm.findClass RX7 = some m.cls := findClass_of_methodNamed B.named
  subst hsz
  obtain ⟨A, hAe⟩ : ∃ A, A = va_A (wX cI cJ cZ x0 n0 n1 n2 n3 n4 n5 n6 q0 q1 q2 q3 v_heapsOfNet v_pickerOfNet v_tallyOfNet N_postCount N_roadCount N_first N_second N_number N_allowed N_at N_beside Q_side Q_height Q_cell Q_taken Q_ways) s.heap.size := ⟨_, rfl⟩
  have hA : ∀ q : Nat, s.heap.size ≤ q → A q := fun q h => by rw [hAe]; exact Or.inr h
  have hI : WI D A s.heap (wX cI cJ cZ x0 n0 n1 n2 n3 n4 n5 n6 q0 q1 q2 q3 v_heapsOfNet v_pickerOfNet v_tallyOfNet N_postCount N_roadCount N_first N_second N_number N_allowed N_at N_beside Q_side Q_height Q_cell Q_taken Q_ways) s.heap [] := ⟨hP, by rw [hAe]; exact hD0.self, va_S.rf⟩
  have hl := lv_entry [.ref x0, .int a1] (n := 2) (Nat.le_of_ble_eq_true rfl)
  rw [lg_entry_eq]
  generalize (lg_sl [.ref x0, .int a1] ++ List.replicate (2 - (lg_sl [.ref x0, .int a1]).length) Slot.unset).toArray = ls at hl ⊢
  replace hl : lv_has ls 2 [(0, .ref x0), (1, .int a1)] := hl
  obtain ⟨x, hf, hM⟩ : ∃ x, FX7_many N_postCount N_roadCount Q_height a1 = some x ∧ x = out := ⟨out, hf, rfl⟩
  refine lv_iload_n hx hb dX7_many_0 rfl (lv_at hl 1 rfl) ?_
  by_cases hc0 : a1 = (0 : Int32)
  · replace hf := ite_t hc0 hf
    refine lv_tableIn (tgt := 28) hx hb dX7_many_1 (by rw [hc0]; decide) (by rw [hc0]; decide) (by rw [hc0]; rfl) (by decide) ?_
    refine lv_aload_n hx hb dX7_many_28 rfl (lv_at hl 0 rfl) ?_
    refine w_get hx hb hg hown hK hI iX7 0 rfl rfl 0 (by decide) wF_RX7_12 rfl dX7_many_29 ?_
    refine w_get hx hb hg hown hK hI iX3 1 rfl rfl 0 (by decide) wF_RX7_23 rfl dX7_many_32 ?_
    replace hf := Option.some.inj hf
    subst hf
    replace hM : N_postCount = out := hM
    subst hM
    exact rt_i (u := ()) hx hb hr hlocks rfl hI hAe rfl dX7_many_35
  replace hf := ite_f hc0 hf
  by_cases hc1 : a1 = (1 : Int32)
  · replace hf := ite_t hc1 hf
    refine lv_tableIn (tgt := 36) hx hb dX7_many_1 (by rw [hc1]; decide) (by rw [hc1]; decide) (by rw [hc1]; rfl) (by decide) ?_
    refine lv_aload_n hx hb dX7_many_36 rfl (lv_at hl 0 rfl) ?_
    refine w_get hx hb hg hown hK hI iX7 0 rfl rfl 0 (by decide) wF_RX7_12 rfl dX7_many_37 ?_
    refine w_get hx hb hg hown hK hI iX3 1 rfl rfl 1 (by decide) wF_RX7_35 rfl dX7_many_40 ?_
    replace hf := Option.some.inj hf
    subst hf
    replace hM : N_roadCount = out := hM
    subst hM
    exact rt_i (u := ()) hx hb hr hlocks rfl hI hAe rfl dX7_many_43
  replace hf := ite_f hc1 hf
  by_cases hc2 : a1 = (2 : Int32)
  · replace hf := ite_t hc2 hf
    refine lv_tableIn (tgt := 44) hx hb dX7_many_1 (by rw [hc2]; decide) (by rw [hc2]; decide) (by rw [hc2]; rfl) (by decide) ?_
    refine lv_aload_n hx hb dX7_many_44 rfl (lv_at hl 0 rfl) ?_
    refine w_get hx hb hg hown hK hI iX7 0 rfl rfl 1 (by decide) wF_RX7_19 rfl dX7_many_45 ?_
    refine w_get hx hb hg hown hK hI iX5 8 rfl rfl 1 (by decide) wF_RX7_204 rfl dX7_many_48 ?_
    replace hf := Option.some.inj hf
    subst hf
    replace hM : Q_height = out := hM
    subst hM
    exact rt_i (u := ()) hx hb hr hlocks rfl hI hAe rfl dX7_many_51
  replace hf := ite_f hc2 hf
  have hn0 := lv_neT (a := 0) hc0 (by decide)
  have hn1 := lv_neT (a := 1) hc1 (by decide)
  have hn2 := lv_neT (a := 2) hc2 (by decide)
  refine lv_tableOut (tgt := 52) hx hb dX7_many_1 (by omega) (by decide) ?_
  refine lv_bipush (v := -2) hx hb dX7_many_52 (by decide) ?_
  replace hf := Option.some.inj hf
  subst hf
  replace hM : (-2 : Int32) = out := hM
  subst hM
  exact rt_i (u := ()) hx hb hr hlocks rfl hI hAe rfl dX7_many_54
