theorem kiX7_init : CalI yX7_init cX7_init 1 0 := ⟨wC_yX7_init, wM_yX7_init, wI_RX7, rfl, by decide +kernel⟩
set_option maxHeartbeats 4000000 in
set_option maxRecDepth 100000 in
theorem kIX7_init (l : Launch) (D : va_G) (cI cJ cZ : ClassId) (x0 : Nat) : MV l yX7_init (Cond.code yX7_init cX7_init 1 none :: GW) { frames := 2, cells := 11, slots := 747, locals := 60 } D cI cJ cZ [.ref x0] [(x0, .inr (7, [.null, .null, .null, .null, .null]))] (fun (_ : Nat × Nat × Nat × Nat × Nat × Nat × Nat × Nat × Nat × Nat × Nat) => True) (fun u => (wX cI cJ cZ x0 u.1 u.2.1 u.2.2.1 u.2.2.2.1 u.2.2.2.2.1 u.2.2.2.2.2.1 u.2.2.2.2.2.2.1 u.2.2.2.2.2.2.2.1 u.2.2.2.2.2.2.2.2.1 u.2.2.2.2.2.2.2.2.2.1 u.2.2.2.2.2.2.2.2.2.2 .null .null .null 0 0 (fun _ => 0) (fun _ => 0) (fun _ => 0) (fun _ => 0) (fun _ => 0) (fun _ => 0) (-1) 0 (fun _ => 0) (fun _ => 0) (fun _ => 0))) := by
  intro sz
  refine Met.ofW (cc := cX7_init) (maxL := 1) (ret := none) (by decide +kernel) rfl ?_
  intro p e s m args below meth c s₁ B hml hv
  obtain ⟨rfl, hsz, hP, hK, hD0⟩ := hv
  have hx := B.exec
  have hb := B.bytes
  have hr := B.returns
  have hlocks := B.notSynchronized
  have hin : meth.name = "<init>" := (name_of_methodNamed B.named B.method).1
  have hg : ∀ w ∈ GW, w.before _ s = true := fun w h => atoms_spec (ws := Cond.code yX7_init cX7_init 1 none :: GW) B.pre w (List.mem_cons_of_mem _ h)
  have hown : s.vm.findClass RX7 = some m.cls := findClass_of_methodNamed B.named
  subst hsz
  obtain ⟨A, hAe⟩ : ∃ A, A = va_A [(x0, .inr (7, [.null, .null, .null, .null, .null]))] s.heap.size := ⟨_, rfl⟩
  have hA : ∀ q : Nat, s.heap.size ≤ q → A q := fun q h => by rw [hAe]; exact Or.inr h
  have hI : WI D A s.heap [(x0, .inr (7, [.null, .null, .null, .null, .null]))] s.heap [] := ⟨hP, by rw [hAe]; exact hD0.self, va_S.rf⟩
  have hl := lv_entry [.ref x0] (n := 1) (Nat.le_of_ble_eq_true rfl)
  rw [lg_entry_eq]
  generalize (lg_sl [.ref x0] ++ List.replicate (1 - (lg_sl [.ref x0]).length) Slot.unset).toArray = ls at hl ⊢
  replace hl : lv_has ls 1 [(0, .ref x0)] := hl
  refine lv_aload_n hx hb dX7_init_0 rfl (lv_at hl 0 rfl) ?_
  refine W.objInit hx hb hown (hg _ wL_RX7_3) (hg _ wM_objectInit) (hg _ wC_objectInit) rfl (by rw [hml]; exact hl.1) rfl dX7_init_1 (Nat.le_of_ble_eq_true rfl) (Nat.le_of_ble_eq_true rfl) ?_
  refine W.eq (g2 := F0 m 4 ls []) rfl ?_
  refine lv_aload_n hx hb dX7_init_4 rfl (lv_at hl 0 rfl) ?_
  refine va_new (ci := 3) (fs := [.int (0 : Int32), .int (0 : Int32), .null, .null, .null, .null, .null, .null]) (C := RX3) (T := TX3) (N := 8) hx hb hg iX3 tyX3 tyX3_ok hown (hg _ wK_RX7_9) (hg _ wN_RX3) (hg _ wI_RX3) hK.1 hI.1 hI.2.1 hI.2.2 hA rfl (by intro j hj; match j, hj with | 0, _ => rfl | 1, _ => rfl | 2, _ => rfl | 3, _ => rfl | 4, _ => rfl | 5, _ => rfl | 6, _ => rfl | 7, _ => rfl | (j + 8), hj => exact absurd hj (by omega)) (Nat.le_of_ble_eq_true rfl) (Nat.le_of_ble_eq_true rfl) dX7_init_5 (fun b1 H hP hD hS => ?_)
  replace hI : WI D A s.heap [(x0, .inr (7, [.null, .null, .null, .null, .null])), (b1, .inr (3, [.int (0 : Int32), .int (0 : Int32), .null, .null, .null, .null, .null, .null]))] H _ := ⟨hP, hD, hS⟩
  clear hP hD hS
  refine lv_dup hx hb dX7_init_8 rfl ?_
  refine w_I (wc := [(b1, .inr (3, [.int (0 : Int32), .int (0 : Int32), .null, .null, .null, .null, .null, .null]))]) (wr := [(x0, .inr (7, [.null, .null, .null, .null, .null]))]) (rest := [.ref b1, .ref x0]) hx hb hml hg hown hK hA hI (kIX3_init l D cI cJ cZ b1) kiX3_init wL_RX7_11 ⟨Nat.le_of_ble_eq_true rfl, Nat.le_of_ble_eq_true rfl⟩ [1] [0] rfl rfl rfl rfl (by decide) rfl rfl hl.1 (Nat.le_of_ble_eq_true rfl) dX7_init_9 ⟨Nat.le_of_ble_eq_true rfl, Nat.le_of_ble_eq_true rfl⟩ (fun u H locs hp hI => ?_)
  obtain ⟨b2, b3, b4, b5, b6, b7⟩ := u
  replace hI : WI D A s.heap [(x0, .inr (7, [.null, .null, .null, .null, .null])), (b1, .inr (3, [.int (0), .int (0), .ref b2, .ref b3, .ref b4, .ref b5, .ref b6, .ref b7])), (b2, .inl (cI, 24, .inl (fun _ => 0))), (b3, .inl (cI, 24, .inl (fun _ => 0))), (b4, .inl (cI, 24, .inl (fun _ => 0))), (b5, .inl (cI, 24, .inl (fun _ => 0))), (b6, .inl (cI, 12, .inl (fun _ => 0))), (b7, .inl (cI, 24, .inl (fun _ => 0)))] H locs := hI
  clear hp
  refine w_putF (W1 := [(x0, .inr (7, [.ref b1, .null, .null, .null, .null])), (b1, .inr (3, [.int (0), .int (0), .ref b2, .ref b3, .ref b4, .ref b5, .ref b6, .ref b7])), (b2, .inl (cI, 24, .inl (fun _ => 0))), (b3, .inl (cI, 24, .inl (fun _ => 0))), (b4, .inl (cI, 24, .inl (fun _ => 0))), (b5, .inl (cI, 24, .inl (fun _ => 0))), (b6, .inl (cI, 12, .inl (fun _ => 0))), (b7, .inl (cI, 24, .inl (fun _ => 0)))]) hx hb hg hown hK hI iX7 tyX7 tyX7_ok nmX7 0 rfl rfl 0 (by decide) wF_RX7_12 rfl hin rfl (tyX7_ok 0 (by decide)) rfl rfl (Nat.le_of_ble_eq_true rfl) dX7_init_12 rfl (fun H locs hI => ?_)
  refine lv_aload_n hx hb dX7_init_15 rfl (lv_at hl 0 rfl) ?_
  refine va_new (ci := 5) (fs := [.int (0 : Int32), .int (0 : Int32), .null, .null, .null]) (C := RX5) (T := TX5) (N := 5) hx hb hg iX5 tyX5 tyX5_ok hown (hg _ wK_RX7_16) (hg _ wN_RX5) (hg _ wI_RX5) hK.1 hI.1 hI.2.1 hI.2.2 hA rfl (by intro j hj; match j, hj with | 0, _ => rfl | 1, _ => rfl | 2, _ => rfl | 3, _ => rfl | 4, _ => rfl | (j + 5), hj => exact absurd hj (by omega)) (Nat.le_of_ble_eq_true rfl) (Nat.le_of_ble_eq_true rfl) dX7_init_16 (fun b8 H hP hD hS => ?_)
  replace hI : WI D A s.heap [(x0, .inr (7, [.ref b1, .null, .null, .null, .null])), (b1, .inr (3, [.int (0), .int (0), .ref b2, .ref b3, .ref b4, .ref b5, .ref b6, .ref b7])), (b2, .inl (cI, 24, .inl (fun _ => 0))), (b3, .inl (cI, 24, .inl (fun _ => 0))), (b4, .inl (cI, 24, .inl (fun _ => 0))), (b5, .inl (cI, 24, .inl (fun _ => 0))), (b6, .inl (cI, 12, .inl (fun _ => 0))), (b7, .inl (cI, 24, .inl (fun _ => 0))), (b8, .inr (5, [.int (0 : Int32), .int (0 : Int32), .null, .null, .null]))] H _ := ⟨hP, hD, hS⟩
  clear hP hD hS
  refine lv_dup hx hb dX7_init_19 rfl ?_
  refine w_I (wc := [(b8, .inr (5, [.int (0 : Int32), .int (0 : Int32), .null, .null, .null]))]) (wr := [(x0, .inr (7, [.ref b1, .null, .null, .null, .null])), (b1, .inr (3, [.int (0), .int (0), .ref b2, .ref b3, .ref b4, .ref b5, .ref b6, .ref b7])), (b2, .inl (cI, 24, .inl (fun _ => 0))), (b3, .inl (cI, 24, .inl (fun _ => 0))), (b4, .inl (cI, 24, .inl (fun _ => 0))), (b5, .inl (cI, 24, .inl (fun _ => 0))), (b6, .inl (cI, 12, .inl (fun _ => 0))), (b7, .inl (cI, 24, .inl (fun _ => 0)))]) (rest := [.ref b8, .ref x0]) hx hb hml hg hown hK hA hI (kIX5_init l D cI cJ cZ b8) kiX5_init wL_RX7_18 ⟨Nat.le_of_ble_eq_true rfl, Nat.le_of_ble_eq_true rfl⟩ [8] [0, 1, 2, 3, 4, 5, 6, 7] rfl rfl rfl rfl (by decide) rfl rfl hl.1 (Nat.le_of_ble_eq_true rfl) dX7_init_20 ⟨Nat.le_of_ble_eq_true rfl, Nat.le_of_ble_eq_true rfl⟩ (fun u H locs hp hI => ?_)
  obtain ⟨b9, b10, b11⟩ := u
  replace hI : WI D A s.heap [(x0, .inr (7, [.ref b1, .null, .null, .null, .null])), (b1, .inr (3, [.int (0), .int (0), .ref b2, .ref b3, .ref b4, .ref b5, .ref b6, .ref b7])), (b2, .inl (cI, 24, .inl (fun _ => 0))), (b3, .inl (cI, 24, .inl (fun _ => 0))), (b4, .inl (cI, 24, .inl (fun _ => 0))), (b5, .inl (cI, 24, .inl (fun _ => 0))), (b6, .inl (cI, 12, .inl (fun _ => 0))), (b7, .inl (cI, 24, .inl (fun _ => 0))), (b8, .inr (5, [.int (-1), .int (0), .ref b9, .ref b10, .ref b11])), (b9, .inl (cI, 81, .inl (fun _ => 0))), (b10, .inl (cI, 9, .inl (fun _ => 0))), (b11, .inl (cI, 512, .inl (fun _ => 0)))] H locs := hI
  clear hp
  refine w_putF (W1 := [(x0, .inr (7, [.ref b1, .ref b8, .null, .null, .null])), (b1, .inr (3, [.int (0), .int (0), .ref b2, .ref b3, .ref b4, .ref b5, .ref b6, .ref b7])), (b2, .inl (cI, 24, .inl (fun _ => 0))), (b3, .inl (cI, 24, .inl (fun _ => 0))), (b4, .inl (cI, 24, .inl (fun _ => 0))), (b5, .inl (cI, 24, .inl (fun _ => 0))), (b6, .inl (cI, 12, .inl (fun _ => 0))), (b7, .inl (cI, 24, .inl (fun _ => 0))), (b8, .inr (5, [.int (-1), .int (0), .ref b9, .ref b10, .ref b11])), (b9, .inl (cI, 81, .inl (fun _ => 0))), (b10, .inl (cI, 9, .inl (fun _ => 0))), (b11, .inl (cI, 512, .inl (fun _ => 0)))]) hx hb hg hown hK hI iX7 tyX7 tyX7_ok nmX7 0 rfl rfl 1 (by decide) wF_RX7_19 rfl hin rfl (tyX7_ok 1 (by decide)) rfl rfl (Nat.le_of_ble_eq_true rfl) dX7_init_23 rfl (fun H locs hI => ?_)
  refine W.widen (k := 11) (n := 747) (Nat.le_of_ble_eq_true rfl) (Nat.le_of_ble_eq_true rfl) ?_
  replace hI := hI.perm (w2 := [(x0, .inr (7, [.ref b1, .ref b8, .null, .null, .null])), (b1, .inr (3, [.int (0), .int (0), .ref b2, .ref b3, .ref b4, .ref b5, .ref b6, .ref b7])), (b2, .inl (cI, 24, .inl (fun _ => 0))), (b3, .inl (cI, 24, .inl (fun _ => 0))), (b4, .inl (cI, 24, .inl (fun _ => 0))), (b5, .inl (cI, 24, .inl (fun _ => 0))), (b6, .inl (cI, 12, .inl (fun _ => 0))), (b7, .inl (cI, 24, .inl (fun _ => 0))), (b8, .inr (5, [.int (-1), .int (0), .ref b9, .ref b10, .ref b11])), (b9, .inl (cI, 81, .inl (fun _ => 0))), (b10, .inl (cI, 9, .inl (fun _ => 0))), (b11, .inl (cI, 512, .inl (fun _ => 0)))]) [0, 1, 2, 3, 4, 5, 6, 7, 8, 9, 10, 11] rfl rfl
  exact rt_v (u := (b1, b2, b3, b4, b5, b6, b7, b8, b9, b10, b11)) hx hb hr hlocks hI hAe trivial dX7_init_26
theorem kvX7_heapsHere : CalV RX7 yX7_heapsHere cX7_heapsHere 1 (some (.object "RoadColours$Heaps")) 0 := ⟨wC_yX7_heapsHere, wM_yX7_heapsHere, wS_yX7_heapsHere, wI_RX7, by decide +kernel⟩
set_option maxHeartbeats 4000000 in
set_option maxRecDepth 100000 in
theorem kRX7_heapsHere_n (l : Launch) (D : va_G) (cI cJ cZ : ClassId) (x0 n0 n1 n2 n3 n4 n5 n6 q0 q1 q2 q3 : Nat) (v_pickerOfNet : Value) (v_tallyOfNet : Value) (N_postCount : Int32) (N_roadCount : Int32) (N_first : Nat → Int32) (N_second : Nat → Int32) (N_number : Nat → Int32) (N_allowed : Nat → Int32) (N_at : Nat → Int32) (N_beside : Nat → Int32) (Q_side : Int32) (Q_height : Int32) (Q_cell : Nat → Int32) (Q_taken : Nat → Int32) (Q_ways : Nat → Int32) : MR l yX7_heapsHere (Cond.code yX7_heapsHere cX7_heapsHere 1 (some (.object "RoadColours$Heaps")) :: GW) { frames := 2, cells := 2, slots := 4098, locals := 61 } D cI cJ cZ [.ref x0] [(x0, .inr (7, [.ref n0, .ref q0, .null, v_pickerOfNet, v_tallyOfNet])), (n0, .inr (3, [.int N_postCount, .int N_roadCount, .ref n1, .ref n2, .ref n3, .ref n4, .ref n5, .ref n6])), (n1, .inl (cI, 24, .inl N_first)), (n2, .inl (cI, 24, .inl N_second)), (n3, .inl (cI, 24, .inl N_number)), (n4, .inl (cI, 24, .inl N_allowed)), (n5, .inl (cI, 12, .inl N_at)), (n6, .inl (cI, 24, .inl N_beside)), (q0, .inr (5, [.int Q_side, .int Q_height, .ref q1, .ref q2, .ref q3])), (q1, .inl (cI, 81, .inl Q_cell)), (q2, .inl (cI, 9, .inl Q_taken)), (q3, .inl (cI, 512, .inl Q_ways))] (fun (u : Nat × Nat) => [(x0, .inr (7, [.ref n0, .ref q0, .ref u.1, v_pickerOfNet, v_tallyOfNet])), (n0, .inr (3, [.int N_postCount, .int N_roadCount, .ref n1, .ref n2, .ref n3, .ref n4, .ref n5, .ref n6])), (n1, .inl (cI, 24, .inl N_first)), (n2, .inl (cI, 24, .inl N_second)), (n3, .inl (cI, 24, .inl N_number)), (n4, .inl (cI, 24, .inl N_allowed)), (n5, .inl (cI, 12, .inl N_at)), (n6, .inl (cI, 24, .inl N_beside)), (q0, .inr (5, [.int Q_side, .int Q_height, .ref q1, .ref q2, .ref q3])), (q1, .inl (cI, 81, .inl Q_cell)), (q2, .inl (cI, 9, .inl Q_taken)), (q3, .inl (cI, 512, .inl Q_ways)), (u.1, .inr (2, [.ref n0, .ref u.2])), (u.2, .inl (cI, 4096, .inl (fun _ => 0)))]) (fun u => u.1) := by
  intro sz
  refine Met.ofW (cc := cX7_heapsHere) (maxL := 1) (ret := (some (.object "RoadColours$Heaps"))) (by decide +kernel) rfl ?_
  intro p e s m args below meth c s₁ B hml hv
  obtain ⟨rfl, hsz, hP, hK, hD0⟩ := hv
  have hx := B.exec
  have hb := B.bytes
  have hr := B.returns
  have hlocks := B.notSynchronized
  have hg : ∀ w ∈ GW, w.before _ s = true := fun w h => atoms_spec (ws := Cond.code yX7_heapsHere cX7_heapsHere 1 (some (.object "RoadColours$Heaps")) :: GW) B.pre w (List.mem_cons_of_mem _ h)
  have hown : s.vm.findClass RX7 = some m.cls := findClass_of_methodNamed B.named
  subst hsz
  obtain ⟨A, hAe⟩ : ∃ A, A = va_A [(x0, .inr (7, [.ref n0, .ref q0, .null, v_pickerOfNet, v_tallyOfNet])), (n0, .inr (3, [.int N_postCount, .int N_roadCount, .ref n1, .ref n2, .ref n3, .ref n4, .ref n5, .ref n6])), (n1, .inl (cI, 24, .inl N_first)), (n2, .inl (cI, 24, .inl N_second)), (n3, .inl (cI, 24, .inl N_number)), (n4, .inl (cI, 24, .inl N_allowed)), (n5, .inl (cI, 12, .inl N_at)), (n6, .inl (cI, 24, .inl N_beside)), (q0, .inr (5, [.int Q_side, .int Q_height, .ref q1, .ref q2, .ref q3])), (q1, .inl (cI, 81, .inl Q_cell)), (q2, .inl (cI, 9, .inl Q_taken)), (q3, .inl (cI, 512, .inl Q_ways))] s.heap.size := ⟨_, rfl⟩
  have hA : ∀ q : Nat, s.heap.size ≤ q → A q := fun q h => by rw [hAe]; exact Or.inr h
  have hI : WI D A s.heap [(x0, .inr (7, [.ref n0, .ref q0, .null, v_pickerOfNet, v_tallyOfNet])), (n0, .inr (3, [.int N_postCount, .int N_roadCount, .ref n1, .ref n2, .ref n3, .ref n4, .ref n5, .ref n6])), (n1, .inl (cI, 24, .inl N_first)), (n2, .inl (cI, 24, .inl N_second)), (n3, .inl (cI, 24, .inl N_number)), (n4, .inl (cI, 24, .inl N_allowed)), (n5, .inl (cI, 12, .inl N_at)), (n6, .inl (cI, 24, .inl N_beside)), (q0, .inr (5, [.int Q_side, .int Q_height, .ref q1, .ref q2, .ref q3])), (q1, .inl (cI, 81, .inl Q_cell)), (q2, .inl (cI, 9, .inl Q_taken)), (q3, .inl (cI, 512, .inl Q_ways))] s.heap [] := ⟨hP, by rw [hAe]; exact hD0.self, va_S.rf⟩
  have hl := lv_entry [.ref x0] (n := 1) (Nat.le_of_ble_eq_true rfl)
  rw [lg_entry_eq]
  generalize (lg_sl [.ref x0] ++ List.replicate (1 - (lg_sl [.ref x0]).length) Slot.unset).toArray = ls at hl ⊢
  replace hl : lv_has ls 1 [(0, .ref x0)] := hl
  refine lv_aload_n hx hb dX7_heapsHere_0 rfl (lv_at hl 0 rfl) ?_
  refine w_get hx hb hg hown hK hI iX7 0 rfl rfl 2 (by decide) wF_RX7_222 rfl dX7_heapsHere_1 ?_
  refine lv_ifnonnullN hx hb dX7_heapsHere_4 ?_
  refine lv_aload_n hx hb dX7_heapsHere_7 rfl (lv_at hl 0 rfl) ?_
  refine va_new (ci := 2) (fs := [.null, .null]) (C := RX2) (T := TX2) (N := 2) hx hb hg iX2 tyX2 tyX2_ok hown (hg _ wK_RX7_134) (hg _ wN_RX2) (hg _ wI_RX2) hK.1 hI.1 hI.2.1 hI.2.2 hA rfl (by intro j hj; match j, hj with | 0, _ => rfl | 1, _ => rfl | (j + 2), hj => exact absurd hj (by omega)) (Nat.le_of_ble_eq_true rfl) (Nat.le_of_ble_eq_true rfl) dX7_heapsHere_8 (fun b1 H hP hD hS => ?_)
  replace hI : WI D A s.heap [(x0, .inr (7, [.ref n0, .ref q0, .null, v_pickerOfNet, v_tallyOfNet])), (n0, .inr (3, [.int N_postCount, .int N_roadCount, .ref n1, .ref n2, .ref n3, .ref n4, .ref n5, .ref n6])), (n1, .inl (cI, 24, .inl N_first)), (n2, .inl (cI, 24, .inl N_second)), (n3, .inl (cI, 24, .inl N_number)), (n4, .inl (cI, 24, .inl N_allowed)), (n5, .inl (cI, 12, .inl N_at)), (n6, .inl (cI, 24, .inl N_beside)), (q0, .inr (5, [.int Q_side, .int Q_height, .ref q1, .ref q2, .ref q3])), (q1, .inl (cI, 81, .inl Q_cell)), (q2, .inl (cI, 9, .inl Q_taken)), (q3, .inl (cI, 512, .inl Q_ways)), (b1, .inr (2, [.null, .null]))] H _ := ⟨hP, hD, hS⟩
  clear hP hD hS
  refine lv_dup hx hb dX7_heapsHere_11 rfl ?_
  refine lv_aload_n hx hb dX7_heapsHere_12 rfl (lv_at hl 0 rfl) ?_
  refine w_get hx hb hg hown hK hI iX7 0 rfl rfl 0 (by decide) wF_RX7_12 rfl dX7_heapsHere_13 ?_
  refine w_I (wc := [(b1, .inr (2, [.null, .null]))]) (wr := [(x0, .inr (7, [.ref n0, .ref q0, .null, v_pickerOfNet, v_tallyOfNet])), (n0, .inr (3, [.int N_postCount, .int N_roadCount, .ref n1, .ref n2, .ref n3, .ref n4, .ref n5, .ref n6])), (n1, .inl (cI, 24, .inl N_first)), (n2, .inl (cI, 24, .inl N_second)), (n3, .inl (cI, 24, .inl N_number)), (n4, .inl (cI, 24, .inl N_allowed)), (n5, .inl (cI, 12, .inl N_at)), (n6, .inl (cI, 24, .inl N_beside)), (q0, .inr (5, [.int Q_side, .int Q_height, .ref q1, .ref q2, .ref q3])), (q1, .inl (cI, 81, .inl Q_cell)), (q2, .inl (cI, 9, .inl Q_taken)), (q3, .inl (cI, 512, .inl Q_ways))]) (rest := [.ref b1, .ref x0]) hx hb hml hg hown hK hA hI (kIX2_init l D cI cJ cZ b1 n0) kiX2_init wL_RX7_226 ⟨Nat.le_of_ble_eq_true rfl, Nat.le_of_ble_eq_true rfl⟩ [12] [0, 1, 2, 3, 4, 5, 6, 7, 8, 9, 10, 11] rfl rfl rfl rfl (by decide) rfl rfl hl.1 (Nat.le_of_ble_eq_true rfl) dX7_heapsHere_16 ⟨Nat.le_of_ble_eq_true rfl, Nat.le_of_ble_eq_true rfl⟩ (fun u H locs hp hI => ?_)
  obtain ⟨b2, rfl⟩ : ∃ b, b = u := ⟨u, rfl⟩
  replace hI : WI D A s.heap [(x0, .inr (7, [.ref n0, .ref q0, .null, v_pickerOfNet, v_tallyOfNet])), (n0, .inr (3, [.int N_postCount, .int N_roadCount, .ref n1, .ref n2, .ref n3, .ref n4, .ref n5, .ref n6])), (n1, .inl (cI, 24, .inl N_first)), (n2, .inl (cI, 24, .inl N_second)), (n3, .inl (cI, 24, .inl N_number)), (n4, .inl (cI, 24, .inl N_allowed)), (n5, .inl (cI, 12, .inl N_at)), (n6, .inl (cI, 24, .inl N_beside)), (q0, .inr (5, [.int Q_side, .int Q_height, .ref q1, .ref q2, .ref q3])), (q1, .inl (cI, 81, .inl Q_cell)), (q2, .inl (cI, 9, .inl Q_taken)), (q3, .inl (cI, 512, .inl Q_ways)), (b1, .inr (2, [.ref n0, .ref b2])), (b2, .inl (cI, 4096, .inl (fun _ => 0)))] H locs := hI
  clear hp
  refine w_put (W1 := [(x0, .inr (7, [.ref n0, .ref q0, .ref b1, v_pickerOfNet, v_tallyOfNet])), (n0, .inr (3, [.int N_postCount, .int N_roadCount, .ref n1, .ref n2, .ref n3, .ref n4, .ref n5, .ref n6])), (n1, .inl (cI, 24, .inl N_first)), (n2, .inl (cI, 24, .inl N_second)), (n3, .inl (cI, 24, .inl N_number)), (n4, .inl (cI, 24, .inl N_allowed)), (n5, .inl (cI, 12, .inl N_at)), (n6, .inl (cI, 24, .inl N_beside)), (q0, .inr (5, [.int Q_side, .int Q_height, .ref q1, .ref q2, .ref q3])), (q1, .inl (cI, 81, .inl Q_cell)), (q2, .inl (cI, 9, .inl Q_taken)), (q3, .inl (cI, 512, .inl Q_ways)), (b1, .inr (2, [.ref n0, .ref b2])), (b2, .inl (cI, 4096, .inl (fun _ => 0)))]) hx hb hg hown hK hI iX7 tyX7 tyX7_ok nmX7 0 rfl rfl 2 (by decide) wF_RX7_222 rfl (tyX7_ok 2 (by decide)) rfl rfl (Nat.le_of_ble_eq_true rfl) dX7_heapsHere_19 rfl (fun H locs hI => ?_)
  refine lv_aload_n hx hb dX7_heapsHere_22 rfl (lv_at hl 0 rfl) ?_
  refine w_get hx hb hg hown hK hI iX7 0 rfl rfl 2 (by decide) wF_RX7_222 rfl dX7_heapsHere_23 ?_
  refine W.widen (k := 2) (n := 4098) (Nat.le_of_ble_eq_true rfl) (Nat.le_of_ble_eq_true rfl) ?_
  replace hI := hI.perm (w2 := [(x0, .inr (7, [.ref n0, .ref q0, .ref b1, v_pickerOfNet, v_tallyOfNet])), (n0, .inr (3, [.int N_postCount, .int N_roadCount, .ref n1, .ref n2, .ref n3, .ref n4, .ref n5, .ref n6])), (n1, .inl (cI, 24, .inl N_first)), (n2, .inl (cI, 24, .inl N_second)), (n3, .inl (cI, 24, .inl N_number)), (n4, .inl (cI, 24, .inl N_allowed)), (n5, .inl (cI, 12, .inl N_at)), (n6, .inl (cI, 24, .inl N_beside)), (q0, .inr (5, [.int Q_side, .int Q_height, .ref q1, .ref q2, .ref q3])), (q1, .inl (cI, 81, .inl Q_cell)), (q2, .inl (cI, 9, .inl Q_taken)), (q3, .inl (cI, 512, .inl Q_ways)), (b1, .inr (2, [.ref n0, .ref b2])), (b2, .inl (cI, 4096, .inl (fun _ => 0)))]) [0, 1, 2, 3, 4, 5, 6, 7, 8, 9, 10, 11, 12, 13] rfl rfl
  exact rt_r (u := (b1, b2)) hx hb hr hlocks ⟨_, rfl⟩ hI hAe rfl dX7_heapsHere_26
set_option maxHeartbeats 4000000 in
set_option maxRecDepth 100000 in
theorem kRX7_heapsHere_s (l : Launch) (D : va_G) (cI cJ cZ : ClassId) (x0 n0 n1 n2 n3 n4 n5 n6 q0 q1 q2 q3 h0 h1 : Nat) (v_pickerOfNet : Value) (v_tallyOfNet : Value) (N_postCount : Int32) (N_roadCount : Int32) (N_first : Nat → Int32) (N_second : Nat → Int32) (N_number : Nat → Int32) (N_allowed : Nat → Int32) (N_at : Nat → Int32) (N_beside : Nat → Int32) (Q_side : Int32) (Q_height : Int32) (Q_cell : Nat → Int32) (Q_taken : Nat → Int32) (Q_ways : Nat → Int32) (H_inside : Nat → Int32) : MR l yX7_heapsHere (Cond.code yX7_heapsHere cX7_heapsHere 1 (some (.object "RoadColours$Heaps")) :: GW) { frames := 2, cells := 0, slots := 0, locals := 61 } D cI cJ cZ [.ref x0] [(x0, .inr (7, [.ref n0, .ref q0, .ref h0, v_pickerOfNet, v_tallyOfNet])), (n0, .inr (3, [.int N_postCount, .int N_roadCount, .ref n1, .ref n2, .ref n3, .ref n4, .ref n5, .ref n6])), (n1, .inl (cI, 24, .inl N_first)), (n2, .inl (cI, 24, .inl N_second)), (n3, .inl (cI, 24, .inl N_number)), (n4, .inl (cI, 24, .inl N_allowed)), (n5, .inl (cI, 12, .inl N_at)), (n6, .inl (cI, 24, .inl N_beside)), (q0, .inr (5, [.int Q_side, .int Q_height, .ref q1, .ref q2, .ref q3])), (q1, .inl (cI, 81, .inl Q_cell)), (q2, .inl (cI, 9, .inl Q_taken)), (q3, .inl (cI, 512, .inl Q_ways)), (h0, .inr (2, [.ref n0, .ref h1])), (h1, .inl (cI, 4096, .inl H_inside))] (fun (u : Unit) => [(x0, .inr (7, [.ref n0, .ref q0, .ref h0, v_pickerOfNet, v_tallyOfNet])), (n0, .inr (3, [.int N_postCount, .int N_roadCount, .ref n1, .ref n2, .ref n3, .ref n4, .ref n5, .ref n6])), (n1, .inl (cI, 24, .inl N_first)), (n2, .inl (cI, 24, .inl N_second)), (n3, .inl (cI, 24, .inl N_number)), (n4, .inl (cI, 24, .inl N_allowed)), (n5, .inl (cI, 12, .inl N_at)), (n6, .inl (cI, 24, .inl N_beside)), (q0, .inr (5, [.int Q_side, .int Q_height, .ref q1, .ref q2, .ref q3])), (q1, .inl (cI, 81, .inl Q_cell)), (q2, .inl (cI, 9, .inl Q_taken)), (q3, .inl (cI, 512, .inl Q_ways)), (h0, .inr (2, [.ref n0, .ref h1])), (h1, .inl (cI, 4096, .inl H_inside))]) (fun u => h0) := by
  intro sz
  refine Met.ofW (cc := cX7_heapsHere) (maxL := 1) (ret := (some (.object "RoadColours$Heaps"))) (by decide +kernel) rfl ?_
  intro p e s m args below meth c s₁ B hml hv
  obtain ⟨rfl, hsz, hP, hK, hD0⟩ := hv
  have hx := B.exec
  have hb := B.bytes
  have hr := B.returns
  have hlocks := B.notSynchronized
  have hg : ∀ w ∈ GW, w.before _ s = true := fun w h => atoms_spec (ws := Cond.code yX7_heapsHere cX7_heapsHere 1 (some (.object "RoadColours$Heaps")) :: GW) B.pre w (List.mem_cons_of_mem _ h)
  have hown : s.vm.findClass RX7 = some m.cls := findClass_of_methodNamed B.named
  subst hsz
  obtain ⟨A, hAe⟩ : ∃ A, A = va_A [(x0, .inr (7, [.ref n0, .ref q0, .ref h0, v_pickerOfNet, v_tallyOfNet])), (n0, .inr (3, [.int N_postCount, .int N_roadCount, .ref n1, .ref n2, .ref n3, .ref n4, .ref n5, .ref n6])), (n1, .inl (cI, 24, .inl N_first)), (n2, .inl (cI, 24, .inl N_second)), (n3, .inl (cI, 24, .inl N_number)), (n4, .inl (cI, 24, .inl N_allowed)), (n5, .inl (cI, 12, .inl N_at)), (n6, .inl (cI, 24, .inl N_beside)), (q0, .inr (5, [.int Q_side, .int Q_height, .ref q1, .ref q2, .ref q3])), (q1, .inl (cI, 81, .inl Q_cell)), (q2, .inl (cI, 9, .inl Q_taken)), (q3, .inl (cI, 512, .inl Q_ways)), (h0, .inr (2, [.ref n0, .ref h1])), (h1, .inl (cI, 4096, .inl H_inside))] s.heap.size := ⟨_, rfl⟩
  have hA : ∀ q : Nat, s.heap.size ≤ q → A q := fun q h => by rw [hAe]; exact Or.inr h
  have hI : WI D A s.heap [(x0, .inr (7, [.ref n0, .ref q0, .ref h0, v_pickerOfNet, v_tallyOfNet])), (n0, .inr (3, [.int N_postCount, .int N_roadCount, .ref n1, .ref n2, .ref n3, .ref n4, .ref n5, .ref n6])), (n1, .inl (cI, 24, .inl N_first)), (n2, .inl (cI, 24, .inl N_second)), (n3, .inl (cI, 24, .inl N_number)), (n4, .inl (cI, 24, .inl N_allowed)), (n5, .inl (cI, 12, .inl N_at)), (n6, .inl (cI, 24, .inl N_beside)), (q0, .inr (5, [.int Q_side, .int Q_height, .ref q1, .ref q2, .ref q3])), (q1, .inl (cI, 81, .inl Q_cell)), (q2, .inl (cI, 9, .inl Q_taken)), (q3, .inl (cI, 512, .inl Q_ways)), (h0, .inr (2, [.ref n0, .ref h1])), (h1, .inl (cI, 4096, .inl H_inside))] s.heap [] := ⟨hP, by rw [hAe]; exact hD0.self, va_S.rf⟩
  have hl := lv_entry [.ref x0] (n := 1) (Nat.le_of_ble_eq_true rfl)
  rw [lg_entry_eq]
  generalize (lg_sl [.ref x0] ++ List.replicate (1 - (lg_sl [.ref x0]).length) Slot.unset).toArray = ls at hl ⊢
  replace hl : lv_has ls 1 [(0, .ref x0)] := hl
  refine lv_aload_n hx hb dX7_heapsHere_0 rfl (lv_at hl 0 rfl) ?_
  refine w_get hx hb hg hown hK hI iX7 0 rfl rfl 2 (by decide) wF_RX7_222 rfl dX7_heapsHere_1 ?_
  refine lv_ifnonnull (tgt := 22) hx hb dX7_heapsHere_4 (by decide) ?_
  refine lv_aload_n hx hb dX7_heapsHere_22 rfl (lv_at hl 0 rfl) ?_
  refine w_get hx hb hg hown hK hI iX7 0 rfl rfl 2 (by decide) wF_RX7_222 rfl dX7_heapsHere_23 ?_
  refine W.widen (k := 0) (n := 0) (Nat.le_of_ble_eq_true rfl) (Nat.le_of_ble_eq_true rfl) ?_
  replace hI := hI.perm (w2 := [(x0, .inr (7, [.ref n0, .ref q0, .ref h0, v_pickerOfNet, v_tallyOfNet])), (n0, .inr (3, [.int N_postCount, .int N_roadCount, .ref n1, .ref n2, .ref n3, .ref n4, .ref n5, .ref n6])), (n1, .inl (cI, 24, .inl N_first)), (n2, .inl (cI, 24, .inl N_second)), (n3, .inl (cI, 24, .inl N_number)), (n4, .inl (cI, 24, .inl N_allowed)), (n5, .inl (cI, 12, .inl N_at)), (n6, .inl (cI, 24, .inl N_beside)), (q0, .inr (5, [.int Q_side, .int Q_height, .ref q1, .ref q2, .ref q3])), (q1, .inl (cI, 81, .inl Q_cell)), (q2, .inl (cI, 9, .inl Q_taken)), (q3, .inl (cI, 512, .inl Q_ways)), (h0, .inr (2, [.ref n0, .ref h1])), (h1, .inl (cI, 4096, .inl H_inside))]) [0, 1, 2, 3, 4, 5, 6, 7, 8, 9, 10, 11, 12, 13] rfl rfl
  exact rt_r (u := ()) hx hb hr hlocks ⟨_, rfl⟩ hI hAe rfl dX7_heapsHere_26
theorem kvX7_pickerHere : CalV RX7 yX7_pickerHere cX7_pickerHere 1 (some (.object "RoadColours$Picker")) 0 := ⟨wC_yX7_pickerHere, wM_yX7_pickerHere, wS_yX7_pickerHere, wI_RX7, by decide +kernel⟩
set_option maxHeartbeats 4000000 in
set_option maxRecDepth 100000 in
theorem kRX7_pickerHere_n (l : Launch) (D : va_G) (cI cJ cZ : ClassId) (x0 n0 n1 n2 n3 n4 n5 n6 q0 q1 q2 q3 : Nat) (v_heapsOfNet : Value) (v_tallyOfNet : Value) (N_postCount : Int32) (N_roadCount : Int32) (N_first : Nat → Int32) (N_second : Nat → Int32) (N_number : Nat → Int32) (N_allowed : Nat → Int32) (N_at : Nat → Int32) (N_beside : Nat → Int32) (Q_side : Int32) (Q_height : Int32) (Q_cell : Nat → Int32) (Q_taken : Nat → Int32) (Q_ways : Nat → Int32) : MR l yX7_pickerHere (Cond.code yX7_pickerHere cX7_pickerHere 1 (some (.object "RoadColours$Picker")) :: GW) { frames := 2, cells := 4, slots := 4124, locals := 61 } D cI cJ cZ [.ref x0] [(x0, .inr (7, [.ref n0, .ref q0, v_heapsOfNet, .null, v_tallyOfNet])), (n0, .inr (3, [.int N_postCount, .int N_roadCount, .ref n1, .ref n2, .ref n3, .ref n4, .ref n5, .ref n6])), (n1, .inl (cI, 24, .inl N_first)), (n2, .inl (cI, 24, .inl N_second)), (n3, .inl (cI, 24, .inl N_number)), (n4, .inl (cI, 24, .inl N_allowed)), (n5, .inl (cI, 12, .inl N_at)), (n6, .inl (cI, 24, .inl N_beside)), (q0, .inr (5, [.int Q_side, .int Q_height, .ref q1, .ref q2, .ref q3])), (q1, .inl (cI, 81, .inl Q_cell)), (q2, .inl (cI, 9, .inl Q_taken)), (q3, .inl (cI, 512, .inl Q_ways))] (fun (u : Nat × Nat × Nat × Nat) => [(x0, .inr (7, [.ref n0, .ref q0, v_heapsOfNet, .ref u.1, v_tallyOfNet])), (n0, .inr (3, [.int N_postCount, .int N_roadCount, .ref n1, .ref n2, .ref n3, .ref n4, .ref n5, .ref n6])), (n1, .inl (cI, 24, .inl N_first)), (n2, .inl (cI, 24, .inl N_second)), (n3, .inl (cI, 24, .inl N_number)), (n4, .inl (cI, 24, .inl N_allowed)), (n5, .inl (cI, 12, .inl N_at)), (n6, .inl (cI, 24, .inl N_beside)), (q0, .inr (5, [.int Q_side, .int Q_height, .ref q1, .ref q2, .ref q3])), (q1, .inl (cI, 81, .inl Q_cell)), (q2, .inl (cI, 9, .inl Q_taken)), (q3, .inl (cI, 512, .inl Q_ways)), (u.1, .inr (4, [.ref n0, .ref u.2.1, .ref u.2.2.1, .ref u.2.2.2])), (u.2.1, .inl (cI, 12, .inl (fun _ => 0))), (u.2.2.1, .inl (cI, 12, .inl (fun _ => 0))), (u.2.2.2, .inl (cZ, 4096, .inl (fun _ => 0)))]) (fun u => u.1) := by
  intro sz
  refine Met.ofW (cc := cX7_pickerHere) (maxL := 1) (ret := (some (.object "RoadColours$Picker"))) (by decide +kernel) rfl ?_
  intro p e s m args below meth c s₁ B hml hv
  obtain ⟨rfl, hsz, hP, hK, hD0⟩ := hv
  have hx := B.exec
  have hb := B.bytes
  have hr := B.returns
  have hlocks := B.notSynchronized
  have hg : ∀ w ∈ GW, w.before _ s = true := fun w h => atoms_spec (ws := Cond.code yX7_pickerHere cX7_pickerHere 1 (some (.object "RoadColours$Picker")) :: GW) B.pre w (List.mem_cons_of_mem _ h)
  have hown : s.vm.findClass RX7 = some m.cls := findClass_of_methodNamed B.named
  subst hsz
  obtain ⟨A, hAe⟩ : ∃ A, A = va_A [(x0, .inr (7, [.ref n0, .ref q0, v_heapsOfNet, .null, v_tallyOfNet])), (n0, .inr (3, [.int N_postCount, .int N_roadCount, .ref n1, .ref n2, .ref n3, .ref n4, .ref n5, .ref n6])), (n1, .inl (cI, 24, .inl N_first)), (n2, .inl (cI, 24, .inl N_second)), (n3, .inl (cI, 24, .inl N_number)), (n4, .inl (cI, 24, .inl N_allowed)), (n5, .inl (cI, 12, .inl N_at)), (n6, .inl (cI, 24, .inl N_beside)), (q0, .inr (5, [.int Q_side, .int Q_height, .ref q1, .ref q2, .ref q3])), (q1, .inl (cI, 81, .inl Q_cell)), (q2, .inl (cI, 9, .inl Q_taken)), (q3, .inl (cI, 512, .inl Q_ways))] s.heap.size := ⟨_, rfl⟩
  have hA : ∀ q : Nat, s.heap.size ≤ q → A q := fun q h => by rw [hAe]; exact Or.inr h
  have hI : WI D A s.heap [(x0, .inr (7, [.ref n0, .ref q0, v_heapsOfNet, .null, v_tallyOfNet])), (n0, .inr (3, [.int N_postCount, .int N_roadCount, .ref n1, .ref n2, .ref n3, .ref n4, .ref n5, .ref n6])), (n1, .inl (cI, 24, .inl N_first)), (n2, .inl (cI, 24, .inl N_second)), (n3, .inl (cI, 24, .inl N_number)), (n4, .inl (cI, 24, .inl N_allowed)), (n5, .inl (cI, 12, .inl N_at)), (n6, .inl (cI, 24, .inl N_beside)), (q0, .inr (5, [.int Q_side, .int Q_height, .ref q1, .ref q2, .ref q3])), (q1, .inl (cI, 81, .inl Q_cell)), (q2, .inl (cI, 9, .inl Q_taken)), (q3, .inl (cI, 512, .inl Q_ways))] s.heap [] := ⟨hP, by rw [hAe]; exact hD0.self, va_S.rf⟩
  have hl := lv_entry [.ref x0] (n := 1) (Nat.le_of_ble_eq_true rfl)
  rw [lg_entry_eq]
  generalize (lg_sl [.ref x0] ++ List.replicate (1 - (lg_sl [.ref x0]).length) Slot.unset).toArray = ls at hl ⊢
  replace hl : lv_has ls 1 [(0, .ref x0)] := hl
  refine lv_aload_n hx hb dX7_pickerHere_0 rfl (lv_at hl 0 rfl) ?_
  refine w_get hx hb hg hown hK hI iX7 0 rfl rfl 3 (by decide) wF_RX7_227 rfl dX7_pickerHere_1 ?_
  refine lv_ifnonnullN hx hb dX7_pickerHere_4 ?_
  refine lv_aload_n hx hb dX7_pickerHere_7 rfl (lv_at hl 0 rfl) ?_
  refine va_new (ci := 4) (fs := [.null, .null, .null, .null]) (C := RX4) (T := TX4) (N := 4) hx hb hg iX4 tyX4 tyX4_ok hown (hg _ wK_RX7_148) (hg _ wN_RX4) (hg _ wI_RX4) hK.1 hI.1 hI.2.1 hI.2.2 hA rfl (by intro j hj; match j, hj with | 0, _ => rfl | 1, _ => rfl | 2, _ => rfl | 3, _ => rfl | (j + 4), hj => exact absurd hj (by omega)) (Nat.le_of_ble_eq_true rfl) (Nat.le_of_ble_eq_true rfl) dX7_pickerHere_8 (fun b1 H hP hD hS => ?_)
  replace hI : WI D A s.heap [(x0, .inr (7, [.ref n0, .ref q0, v_heapsOfNet, .null, v_tallyOfNet])), (n0, .inr (3, [.int N_postCount, .int N_roadCount, .ref n1, .ref n2, .ref n3, .ref n4, .ref n5, .ref n6])), (n1, .inl (cI, 24, .inl N_first)), (n2, .inl (cI, 24, .inl N_second)), (n3, .inl (cI, 24, .inl N_number)), (n4, .inl (cI, 24, .inl N_allowed)), (n5, .inl (cI, 12, .inl N_at)), (n6, .inl (cI, 24, .inl N_beside)), (q0, .inr (5, [.int Q_side, .int Q_height, .ref q1, .ref q2, .ref q3])), (q1, .inl (cI, 81, .inl Q_cell)), (q2, .inl (cI, 9, .inl Q_taken)), (q3, .inl (cI, 512, .inl Q_ways)), (b1, .inr (4, [.null, .null, .null, .null]))] H _ := ⟨hP, hD, hS⟩
  clear hP hD hS
  refine lv_dup hx hb dX7_pickerHere_11 rfl ?_
  refine lv_aload_n hx hb dX7_pickerHere_12 rfl (lv_at hl 0 rfl) ?_
  refine w_get hx hb hg hown hK hI iX7 0 rfl rfl 0 (by decide) wF_RX7_12 rfl dX7_pickerHere_13 ?_
  refine w_I (wc := [(b1, .inr (4, [.null, .null, .null, .null]))]) (wr := [(x0, .inr (7, [.ref n0, .ref q0, v_heapsOfNet, .null, v_tallyOfNet])), (n0, .inr (3, [.int N_postCount, .int N_roadCount, .ref n1, .ref n2, .ref n3, .ref n4, .ref n5, .ref n6])), (n1, .inl (cI, 24, .inl N_first)), (n2, .inl (cI, 24, .inl N_second)), (n3, .inl (cI, 24, .inl N_number)), (n4, .inl (cI, 24, .inl N_allowed)), (n5, .inl (cI, 12, .inl N_at)), (n6, .inl (cI, 24, .inl N_beside)), (q0, .inr (5, [.int Q_side, .int Q_height, .ref q1, .ref q2, .ref q3])), (q1, .inl (cI, 81, .inl Q_cell)), (q2, .inl (cI, 9, .inl Q_taken)), (q3, .inl (cI, 512, .inl Q_ways))]) (rest := [.ref b1, .ref x0]) hx hb hml hg hown hK hA hI (kIX4_init l D cI cJ cZ b1 n0) kiX4_init wL_RX7_231 ⟨Nat.le_of_ble_eq_true rfl, Nat.le_of_ble_eq_true rfl⟩ [12] [0, 1, 2, 3, 4, 5, 6, 7, 8, 9, 10, 11] rfl rfl rfl rfl (by decide) rfl rfl hl.1 (Nat.le_of_ble_eq_true rfl) dX7_pickerHere_16 ⟨Nat.le_of_ble_eq_true rfl, Nat.le_of_ble_eq_true rfl⟩ (fun u H locs hp hI => ?_)
  obtain ⟨b2, b3, b4⟩ := u
  replace hI : WI D A s.heap [(x0, .inr (7, [.ref n0, .ref q0, v_heapsOfNet, .null, v_tallyOfNet])), (n0, .inr (3, [.int N_postCount, .int N_roadCount, .ref n1, .ref n2, .ref n3, .ref n4, .ref n5, .ref n6])), (n1, .inl (cI, 24, .inl N_first)), (n2, .inl (cI, 24, .inl N_second)), (n3, .inl (cI, 24, .inl N_number)), (n4, .inl (cI, 24, .inl N_allowed)), (n5, .inl (cI, 12, .inl N_at)), (n6, .inl (cI, 24, .inl N_beside)), (q0, .inr (5, [.int Q_side, .int Q_height, .ref q1, .ref q2, .ref q3])), (q1, .inl (cI, 81, .inl Q_cell)), (q2, .inl (cI, 9, .inl Q_taken)), (q3, .inl (cI, 512, .inl Q_ways)), (b1, .inr (4, [.ref n0, .ref b2, .ref b3, .ref b4])), (b2, .inl (cI, 12, .inl (fun _ => 0))), (b3, .inl (cI, 12, .inl (fun _ => 0))), (b4, .inl (cZ, 4096, .inl (fun _ => 0)))] H locs := hI
  clear hp
  refine w_put (W1 := [(x0, .inr (7, [.ref n0, .ref q0, v_heapsOfNet, .ref b1, v_tallyOfNet])), (n0, .inr (3, [.int N_postCount, .int N_roadCount, .ref n1, .ref n2, .ref n3, .ref n4, .ref n5, .ref n6])), (n1, .inl (cI, 24, .inl N_first)), (n2, .inl (cI, 24, .inl N_second)), (n3, .inl (cI, 24, .inl N_number)), (n4, .inl (cI, 24, .inl N_allowed)), (n5, .inl (cI, 12, .inl N_at)), (n6, .inl (cI, 24, .inl N_beside)), (q0, .inr (5, [.int Q_side, .int Q_height, .ref q1, .ref q2, .ref q3])), (q1, .inl (cI, 81, .inl Q_cell)), (q2, .inl (cI, 9, .inl Q_taken)), (q3, .inl (cI, 512, .inl Q_ways)), (b1, .inr (4, [.ref n0, .ref b2, .ref b3, .ref b4])), (b2, .inl (cI, 12, .inl (fun _ => 0))), (b3, .inl (cI, 12, .inl (fun _ => 0))), (b4, .inl (cZ, 4096, .inl (fun _ => 0)))]) hx hb hg hown hK hI iX7 tyX7 tyX7_ok nmX7 0 rfl rfl 3 (by decide) wF_RX7_227 rfl (tyX7_ok 3 (by decide)) rfl rfl (Nat.le_of_ble_eq_true rfl) dX7_pickerHere_19 rfl (fun H locs hI => ?_)
  refine lv_aload_n hx hb dX7_pickerHere_22 rfl (lv_at hl 0 rfl) ?_
  refine w_get hx hb hg hown hK hI iX7 0 rfl rfl 3 (by decide) wF_RX7_227 rfl dX7_pickerHere_23 ?_
  refine W.widen (k := 4) (n := 4124) (Nat.le_of_ble_eq_true rfl) (Nat.le_of_ble_eq_true rfl) ?_
  replace hI := hI.perm (w2 := [(x0, .inr (7, [.ref n0, .ref q0, v_heapsOfNet, .ref b1, v_tallyOfNet])), (n0, .inr (3, [.int N_postCount, .int N_roadCount, .ref n1, .ref n2, .ref n3, .ref n4, .ref n5, .ref n6])), (n1, .inl (cI, 24, .inl N_first)), (n2, .inl (cI, 24, .inl N_second)), (n3, .inl (cI, 24, .inl N_number)), (n4, .inl (cI, 24, .inl N_allowed)), (n5, .inl (cI, 12, .inl N_at)), (n6, .inl (cI, 24, .inl N_beside)), (q0, .inr (5, [.int Q_side, .int Q_height, .ref q1, .ref q2, .ref q3])), (q1, .inl (cI, 81, .inl Q_cell)), (q2, .inl (cI, 9, .inl Q_taken)), (q3, .inl (cI, 512, .inl Q_ways)), (b1, .inr (4, [.ref n0, .ref b2, .ref b3, .ref b4])), (b2, .inl (cI, 12, .inl (fun _ => 0))), (b3, .inl (cI, 12, .inl (fun _ => 0))), (b4, .inl (cZ, 4096, .inl (fun _ => 0)))]) [0, 1, 2, 3, 4, 5, 6, 7, 8, 9, 10, 11, 12, 13, 14, 15] rfl rfl
  exact rt_r (u := (b1, b2, b3, b4)) hx hb hr hlocks ⟨_, rfl⟩ hI hAe rfl dX7_pickerHere_26
set_option maxHeartbeats 4000000 in
set_option maxRecDepth 100000 in
theorem kRX7_pickerHere_s (l : Launch) (D : va_G) (cI cJ cZ : ClassId) (x0 n0 n1 n2 n3 n4 n5 n6 q0 q1 q2 q3 p0 p1 p2 p3 : Nat) (v_heapsOfNet : Value) (v_tallyOfNet : Value) (N_postCount : Int32) (N_roadCount : Int32) (N_first : Nat → Int32) (N_second : Nat → Int32) (N_number : Nat → Int32) (N_allowed : Nat → Int32) (N_at : Nat → Int32) (N_beside : Nat → Int32) (Q_side : Int32) (Q_height : Int32) (Q_cell : Nat → Int32) (Q_taken : Nat → Int32) (Q_ways : Nat → Int32) (P_can : Nat → Int32) (P_picked : Nat → Int32) (P_left : Nat → Int32) : MR l yX7_pickerHere (Cond.code yX7_pickerHere cX7_pickerHere 1 (some (.object "RoadColours$Picker")) :: GW) { frames := 2, cells := 0, slots := 0, locals := 61 } D cI cJ cZ [.ref x0] [(x0, .inr (7, [.ref n0, .ref q0, v_heapsOfNet, .ref p0, v_tallyOfNet])), (n0, .inr (3, [.int N_postCount, .int N_roadCount, .ref n1, .ref n2, .ref n3, .ref n4, .ref n5, .ref n6])), (n1, .inl (cI, 24, .inl N_first)), (n2, .inl (cI, 24, .inl N_second)), (n3, .inl (cI, 24, .inl N_number)), (n4, .inl (cI, 24, .inl N_allowed)), (n5, .inl (cI, 12, .inl N_at)), (n6, .inl (cI, 24, .inl N_beside)), (q0, .inr (5, [.int Q_side, .int Q_height, .ref q1, .ref q2, .ref q3])), (q1, .inl (cI, 81, .inl Q_cell)), (q2, .inl (cI, 9, .inl Q_taken)), (q3, .inl (cI, 512, .inl Q_ways)), (p0, .inr (4, [.ref n0, .ref p1, .ref p2, .ref p3])), (p1, .inl (cI, 12, .inl P_can)), (p2, .inl (cI, 12, .inl P_picked)), (p3, .inl (cZ, 4096, .inl P_left))] (fun (u : Unit) => [(x0, .inr (7, [.ref n0, .ref q0, v_heapsOfNet, .ref p0, v_tallyOfNet])), (n0, .inr (3, [.int N_postCount, .int N_roadCount, .ref n1, .ref n2, .ref n3, .ref n4, .ref n5, .ref n6])), (n1, .inl (cI, 24, .inl N_first)), (n2, .inl (cI, 24, .inl N_second)), (n3, .inl (cI, 24, .inl N_number)), (n4, .inl (cI, 24, .inl N_allowed)), (n5, .inl (cI, 12, .inl N_at)), (n6, .inl (cI, 24, .inl N_beside)), (q0, .inr (5, [.int Q_side, .int Q_height, .ref q1, .ref q2, .ref q3])), (q1, .inl (cI, 81, .inl Q_cell)), (q2, .inl (cI, 9, .inl Q_taken)), (q3, .inl (cI, 512, .inl Q_ways)), (p0, .inr (4, [.ref n0, .ref p1, .ref p2, .ref p3])), (p1, .inl (cI, 12, .inl P_can)), (p2, .inl (cI, 12, .inl P_picked)), (p3, .inl (cZ, 4096, .inl P_left))]) (fun u => p0) := by
  intro sz
  refine Met.ofW (cc := cX7_pickerHere) (maxL := 1) (ret := (some (.object "RoadColours$Picker"))) (by decide +kernel) rfl ?_
  intro p e s m args below meth c s₁ B hml hv
  obtain ⟨rfl, hsz, hP, hK, hD0⟩ := hv
  have hx := B.exec
  have hb := B.bytes
  have hr := B.returns
  have hlocks := B.notSynchronized
  have hg : ∀ w ∈ GW, w.before _ s = true := fun w h => atoms_spec (ws := Cond.code yX7_pickerHere cX7_pickerHere 1 (some (.object "RoadColours$Picker")) :: GW) B.pre w (List.mem_cons_of_mem _ h)
  have hown : s.vm.findClass RX7 = some m.cls := findClass_of_methodNamed B.named
  subst hsz
  obtain ⟨A, hAe⟩ : ∃ A, A = va_A [(x0, .inr (7, [.ref n0, .ref q0, v_heapsOfNet, .ref p0, v_tallyOfNet])), (n0, .inr (3, [.int N_postCount, .int N_roadCount, .ref n1, .ref n2, .ref n3, .ref n4, .ref n5, .ref n6])), (n1, .inl (cI, 24, .inl N_first)), (n2, .inl (cI, 24, .inl N_second)), (n3, .inl (cI, 24, .inl N_number)), (n4, .inl (cI, 24, .inl N_allowed)), (n5, .inl (cI, 12, .inl N_at)), (n6, .inl (cI, 24, .inl N_beside)), (q0, .inr (5, [.int Q_side, .int Q_height, .ref q1, .ref q2, .ref q3])), (q1, .inl (cI, 81, .inl Q_cell)), (q2, .inl (cI, 9, .inl Q_taken)), (q3, .inl (cI, 512, .inl Q_ways)), (p0, .inr (4, [.ref n0, .ref p1, .ref p2, .ref p3])), (p1, .inl (cI, 12, .inl P_can)), (p2, .inl (cI, 12, .inl P_picked)), (p3, .inl (cZ, 4096, .inl P_left))] s.heap.size := ⟨_, rfl⟩
  have hA : ∀ q : Nat, s.heap.size ≤ q → A q := fun q h => by rw [hAe]; exact Or.inr h
  have hI : WI D A s.heap [(x0, .inr (7, [.ref n0, .ref q0, v_heapsOfNet, .ref p0, v_tallyOfNet])), (n0, .inr (3, [.int N_postCount, .int N_roadCount, .ref n1, .ref n2, .ref n3, .ref n4, .ref n5, .ref n6])), (n1, .inl (cI, 24, .inl N_first)), (n2, .inl (cI, 24, .inl N_second)), (n3, .inl (cI, 24, .inl N_number)), (n4, .inl (cI, 24, .inl N_allowed)), (n5, .inl (cI, 12, .inl N_at)), (n6, .inl (cI, 24, .inl N_beside)), (q0, .inr (5, [.int Q_side, .int Q_height, .ref q1, .ref q2, .ref q3])), (q1, .inl (cI, 81, .inl Q_cell)), (q2, .inl (cI, 9, .inl Q_taken)), (q3, .inl (cI, 512, .inl Q_ways)), (p0, .inr (4, [.ref n0, .ref p1, .ref p2, .ref p3])), (p1, .inl (cI, 12, .inl P_can)), (p2, .inl (cI, 12, .inl P_picked)), (p3, .inl (cZ, 4096, .inl P_left))] s.heap [] := ⟨hP, by rw [hAe]; exact hD0.self, va_S.rf⟩
  have hl := lv_entry [.ref x0] (n := 1) (Nat.le_of_ble_eq_true rfl)
  rw [lg_entry_eq]
  generalize (lg_sl [.ref x0] ++ List.replicate (1 - (lg_sl [.ref x0]).length) Slot.unset).toArray = ls at hl ⊢
  replace hl : lv_has ls 1 [(0, .ref x0)] := hl
  refine lv_aload_n hx hb dX7_pickerHere_0 rfl (lv_at hl 0 rfl) ?_
  refine w_get hx hb hg hown hK hI iX7 0 rfl rfl 3 (by decide) wF_RX7_227 rfl dX7_pickerHere_1 ?_
  refine lv_ifnonnull (tgt := 22) hx hb dX7_pickerHere_4 (by decide) ?_
  refine lv_aload_n hx hb dX7_pickerHere_22 rfl (lv_at hl 0 rfl) ?_
  refine w_get hx hb hg hown hK hI iX7 0 rfl rfl 3 (by decide) wF_RX7_227 rfl dX7_pickerHere_23 ?_
  refine W.widen (k := 0) (n := 0) (Nat.le_of_ble_eq_true rfl) (Nat.le_of_ble_eq_true rfl) ?_
  replace hI := hI.perm (w2 := [(x0, .inr (7, [.ref n0, .ref q0, v_heapsOfNet, .ref p0, v_tallyOfNet])), (n0, .inr (3, [.int N_postCount, .int N_roadCount, .ref n1, .ref n2, .ref n3, .ref n4, .ref n5, .ref n6])), (n1, .inl (cI, 24, .inl N_first)), (n2, .inl (cI, 24, .inl N_second)), (n3, .inl (cI, 24, .inl N_number)), (n4, .inl (cI, 24, .inl N_allowed)), (n5, .inl (cI, 12, .inl N_at)), (n6, .inl (cI, 24, .inl N_beside)), (q0, .inr (5, [.int Q_side, .int Q_height, .ref q1, .ref q2, .ref q3])), (q1, .inl (cI, 81, .inl Q_cell)), (q2, .inl (cI, 9, .inl Q_taken)), (q3, .inl (cI, 512, .inl Q_ways)), (p0, .inr (4, [.ref n0, .ref p1, .ref p2, .ref p3])), (p1, .inl (cI, 12, .inl P_can)), (p2, .inl (cI, 12, .inl P_picked)), (p3, .inl (cZ, 4096, .inl P_left))]) [0, 1, 2, 3, 4, 5, 6, 7, 8, 9, 10, 11, 12, 13, 14, 15] rfl rfl
  exact rt_r (u := ()) hx hb hr hlocks ⟨_, rfl⟩ hI hAe rfl dX7_pickerHere_26
theorem kvX7_heap : CalV RX7 yX7_heap cX7_heap 1 (some .int) 0 := ⟨wC_yX7_heap, wM_yX7_heap, wS_yX7_heap, wI_RX7, by decide +kernel⟩
noncomputable def FX7_heap (H_inside : Nat → Int32) (N_postCount : Int32) (N_roadCount : Int32) (N_first : Nat → Int32) (N_second : Nat → Int32) (N_number : Nat → Int32) (N_allowed : Nat → Int32) (N_at : Nat → Int32) (N_beside : Nat → Int32) : Option (Int32 × (Nat → Int32)) :=
  (FX2_neediest H_inside N_postCount N_at).bind (fun o1 => some (o1.1, o1.2))
set_option maxHeartbeats 4000000 in
set_option maxRecDepth 100000 in
theorem kX7_heap_s (l : Launch) (D : va_G) (cI cJ cZ : ClassId) (x0 n0 n1 n2 n3 n4 n5 n6 q0 q1 q2 q3 h0 h1 : Nat) (v_pickerOfNet : Value) (v_tallyOfNet : Value) (N_postCount : Int32) (N_roadCount : Int32) (N_first : Nat → Int32) (N_second : Nat → Int32) (N_number : Nat → Int32) (N_allowed : Nat → Int32) (N_at : Nat → Int32) (N_beside : Nat → Int32) (Q_side : Int32) (Q_height : Int32) (Q_cell : Nat → Int32) (Q_taken : Nat → Int32) (Q_ways : Nat → Int32) (H_inside_0 : Nat → Int32) (out : Int32 × (Nat → Int32)) (hf : FX7_heap H_inside_0 N_postCount N_roadCount N_first N_second N_number N_allowed N_at N_beside = some out) : MI l yX7_heap (Cond.code yX7_heap cX7_heap 1 (some .int) :: GW) { frames := 5, cells := 0, slots := 0, locals := 111 } D cI cJ cZ [.ref x0] [(x0, .inr (7, [.ref n0, .ref q0, .ref h0, v_pickerOfNet, v_tallyOfNet])), (n0, .inr (3, [.int N_postCount, .int N_roadCount, .ref n1, .ref n2, .ref n3, .ref n4, .ref n5, .ref n6])), (n1, .inl (cI, 24, .inl N_first)), (n2, .inl (cI, 24, .inl N_second)), (n3, .inl (cI, 24, .inl N_number)), (n4, .inl (cI, 24, .inl N_allowed)), (n5, .inl (cI, 12, .inl N_at)), (n6, .inl (cI, 24, .inl N_beside)), (q0, .inr (5, [.int Q_side, .int Q_height, .ref q1, .ref q2, .ref q3])), (q1, .inl (cI, 81, .inl Q_cell)), (q2, .inl (cI, 9, .inl Q_taken)), (q3, .inl (cI, 512, .inl Q_ways)), (h0, .inr (2, [.ref n0, .ref h1])), (h1, .inl (cI, 4096, .inl H_inside_0))] (fun r (_ : Unit) => r = out.1) (fun (_ : Unit) => [(x0, .inr (7, [.ref n0, .ref q0, .ref h0, v_pickerOfNet, v_tallyOfNet])), (n0, .inr (3, [.int N_postCount, .int N_roadCount, .ref n1, .ref n2, .ref n3, .ref n4, .ref n5, .ref n6])), (n1, .inl (cI, 24, .inl N_first)), (n2, .inl (cI, 24, .inl N_second)), (n3, .inl (cI, 24, .inl N_number)), (n4, .inl (cI, 24, .inl N_allowed)), (n5, .inl (cI, 12, .inl N_at)), (n6, .inl (cI, 24, .inl N_beside)), (q0, .inr (5, [.int Q_side, .int Q_height, .ref q1, .ref q2, .ref q3])), (q1, .inl (cI, 81, .inl Q_cell)), (q2, .inl (cI, 9, .inl Q_taken)), (q3, .inl (cI, 512, .inl Q_ways)), (h0, .inr (2, [.ref n0, .ref h1])), (h1, .inl (cI, 4096, .inl out.2))]) := by
  intro sz
  refine Met.ofW (cc := cX7_heap) (maxL := 1) (ret := (some .int)) (by decide +kernel) rfl ?_
  intro p e s m args below meth c s₁ B hml hv
  obtain ⟨rfl, hsz, hP, hK, hD0⟩ := hv
  have hx := B.exec
  have hb := B.bytes
  have hr := B.returns
  have hlocks := B.notSynchronized
  have hg : ∀ w ∈ GW, w.before _ s = true := fun w h => atoms_spec (ws := Cond.code yX7_heap cX7_heap 1 (some .int) :: GW) B.pre w (List.mem_cons_of_mem _ h)
  have hown : s.vm.findClass RX7 = some m.cls := findClass_of_methodNamed B.named
  subst hsz
  obtain ⟨A, hAe⟩ : ∃ A, A = va_A [(x0, .inr (7, [.ref n0, .ref q0, .ref h0, v_pickerOfNet, v_tallyOfNet])), (n0, .inr (3, [.int N_postCount, .int N_roadCount, .ref n1, .ref n2, .ref n3, .ref n4, .ref n5, .ref n6])), (n1, .inl (cI, 24, .inl N_first)), (n2, .inl (cI, 24, .inl N_second)), (n3, .inl (cI, 24, .inl N_number)), (n4, .inl (cI, 24, .inl N_allowed)), (n5, .inl (cI, 12, .inl N_at)), (n6, .inl (cI, 24, .inl N_beside)), (q0, .inr (5, [.int Q_side, .int Q_height, .ref q1, .ref q2, .ref q3])), (q1, .inl (cI, 81, .inl Q_cell)), (q2, .inl (cI, 9, .inl Q_taken)), (q3, .inl (cI, 512, .inl Q_ways)), (h0, .inr (2, [.ref n0, .ref h1])), (h1, .inl (cI, 4096, .inl H_inside_0))] s.heap.size := ⟨_, rfl⟩
  have hA : ∀ q : Nat, s.heap.size ≤ q → A q := fun q h => by rw [hAe]; exact Or.inr h
  have hI : WI D A s.heap [(x0, .inr (7, [.ref n0, .ref q0, .ref h0, v_pickerOfNet, v_tallyOfNet])), (n0, .inr (3, [.int N_postCount, .int N_roadCount, .ref n1, .ref n2, .ref n3, .ref n4, .ref n5, .ref n6])), (n1, .inl (cI, 24, .inl N_first)), (n2, .inl (cI, 24, .inl N_second)), (n3, .inl (cI, 24, .inl N_number)), (n4, .inl (cI, 24, .inl N_allowed)), (n5, .inl (cI, 12, .inl N_at)), (n6, .inl (cI, 24, .inl N_beside)), (q0, .inr (5, [.int Q_side, .int Q_height, .ref q1, .ref q2, .ref q3])), (q1, .inl (cI, 81, .inl Q_cell)), (q2, .inl (cI, 9, .inl Q_taken)), (q3, .inl (cI, 512, .inl Q_ways)), (h0, .inr (2, [.ref n0, .ref h1])), (h1, .inl (cI, 4096, .inl H_inside_0))] s.heap [] := ⟨hP, by rw [hAe]; exact hD0.self, va_S.rf⟩
  have hl := lv_entry [.ref x0] (n := 1) (Nat.le_of_ble_eq_true rfl)
  rw [lg_entry_eq]
  generalize (lg_sl [.ref x0] ++ List.replicate (1 - (lg_sl [.ref x0]).length) Slot.unset).toArray = ls at hl ⊢
  replace hl : lv_has ls 1 [(0, .ref x0)] := hl
  obtain ⟨x, hf, hM⟩ : ∃ x, FX7_heap H_inside_0 N_postCount N_roadCount N_first N_second N_number N_allowed N_at N_beside = some x ∧ x = out := ⟨out, hf, rfl⟩
  refine lv_aload_n hx hb dX7_heap_0 rfl (lv_at hl 0 rfl) ?_
  refine w_Vr (wc := [(x0, .inr (7, [.ref n0, .ref q0, .ref h0, v_pickerOfNet, v_tallyOfNet])), (n0, .inr (3, [.int N_postCount, .int N_roadCount, .ref n1, .ref n2, .ref n3, .ref n4, .ref n5, .ref n6])), (n1, .inl (cI, 24, .inl N_first)), (n2, .inl (cI, 24, .inl N_second)), (n3, .inl (cI, 24, .inl N_number)), (n4, .inl (cI, 24, .inl N_allowed)), (n5, .inl (cI, 12, .inl N_at)), (n6, .inl (cI, 24, .inl N_beside)), (q0, .inr (5, [.int Q_side, .int Q_height, .ref q1, .ref q2, .ref q3])), (q1, .inl (cI, 81, .inl Q_cell)), (q2, .inl (cI, 9, .inl Q_taken)), (q3, .inl (cI, 512, .inl Q_ways)), (h0, .inr (2, [.ref n0, .ref h1])), (h1, .inl (cI, 4096, .inl H_inside_0))]) (wr := []) (rest := []) hx hb hml hg hown hK hA hI (kRX7_heapsHere_s l D cI cJ cZ x0 n0 n1 n2 n3 n4 n5 n6 q0 q1 q2 q3 h0 h1 (v_pickerOfNet) (v_tallyOfNet) N_postCount N_roadCount N_first N_second N_number N_allowed N_at N_beside Q_side Q_height Q_cell Q_taken Q_ways H_inside_0) kvX7_heapsHere wL_RX7_129 ⟨Nat.le_of_ble_eq_true rfl, Nat.le_of_ble_eq_true rfl⟩ rfl rfl [0, 1, 2, 3, 4, 5, 6, 7, 8, 9, 10, 11, 12, 13] [] rfl rfl rfl rfl (by decide) rfl rfl hl.1 (Nat.le_of_ble_eq_true rfl) dX7_heap_1 ⟨Nat.le_of_ble_eq_true rfl, Nat.le_of_ble_eq_true rfl⟩ (fun u ra H locs hp hI => ?_)
  replace hp : ra = h0 := hp
  rw [hp]
  clear hp
  replace hI : WI D A s.heap [(x0, .inr (7, [.ref n0, .ref q0, .ref h0, v_pickerOfNet, v_tallyOfNet])), (n0, .inr (3, [.int N_postCount, .int N_roadCount, .ref n1, .ref n2, .ref n3, .ref n4, .ref n5, .ref n6])), (n1, .inl (cI, 24, .inl N_first)), (n2, .inl (cI, 24, .inl N_second)), (n3, .inl (cI, 24, .inl N_number)), (n4, .inl (cI, 24, .inl N_allowed)), (n5, .inl (cI, 12, .inl N_at)), (n6, .inl (cI, 24, .inl N_beside)), (q0, .inr (5, [.int Q_side, .int Q_height, .ref q1, .ref q2, .ref q3])), (q1, .inl (cI, 81, .inl Q_cell)), (q2, .inl (cI, 9, .inl Q_taken)), (q3, .inl (cI, 512, .inl Q_ways)), (h0, .inr (2, [.ref n0, .ref h1])), (h1, .inl (cI, 4096, .inl H_inside_0))] H locs := hI
  obtain ⟨o1, ho1, hf⟩ := bd_e hf
  refine w_Vi (wc := (wH cI cJ cZ h0 h1 n0 n1 n2 n3 n4 n5 n6 H_inside_0 N_postCount N_roadCount N_first N_second N_number N_allowed N_at N_beside)) (wr := [(x0, .inr (7, [.ref n0, .ref q0, .ref h0, v_pickerOfNet, v_tallyOfNet])), (q0, .inr (5, [.int Q_side, .int Q_height, .ref q1, .ref q2, .ref q3])), (q1, .inl (cI, 81, .inl Q_cell)), (q2, .inl (cI, 9, .inl Q_taken)), (q3, .inl (cI, 512, .inl Q_ways))]) (rest := []) hx hb hml hg hown hK hA hI (kX2_neediest l D cI cJ cZ h0 h1 n0 n1 n2 n3 n4 n5 n6 H_inside_0 N_postCount N_roadCount N_first N_second N_number N_allowed N_at N_beside  o1 ho1) kvX2_neediest wL_RX7_185 ⟨Nat.le_of_ble_eq_true rfl, Nat.le_of_ble_eq_true rfl⟩ rfl rfl [12, 13, 1, 2, 3, 4, 5, 6, 7] [0, 8, 9, 10, 11] rfl rfl rfl rfl (by decide) rfl rfl hl.1 (Nat.le_of_ble_eq_true rfl) dX7_heap_4 ⟨Nat.le_of_ble_eq_true rfl, Nat.le_of_ble_eq_true rfl⟩ (fun r u H locs hp hI => ?_)
  replace hp : r = o1.1 := hp
  rw [hp]
  clear hp
  replace hI : WI D A s.heap [(x0, .inr (7, [.ref n0, .ref q0, .ref h0, v_pickerOfNet, v_tallyOfNet])), (n0, .inr (3, [.int N_postCount, .int N_roadCount, .ref n1, .ref n2, .ref n3, .ref n4, .ref n5, .ref n6])), (n1, .inl (cI, 24, .inl N_first)), (n2, .inl (cI, 24, .inl N_second)), (n3, .inl (cI, 24, .inl N_number)), (n4, .inl (cI, 24, .inl N_allowed)), (n5, .inl (cI, 12, .inl N_at)), (n6, .inl (cI, 24, .inl N_beside)), (q0, .inr (5, [.int Q_side, .int Q_height, .ref q1, .ref q2, .ref q3])), (q1, .inl (cI, 81, .inl Q_cell)), (q2, .inl (cI, 9, .inl Q_taken)), (q3, .inl (cI, 512, .inl Q_ways)), (h0, .inr (2, [.ref n0, .ref h1])), (h1, .inl (cI, 4096, .inl o1.2))] H locs := hI.perm [0, 7, 8, 9, 10, 11, 12, 13, 1, 2, 3, 4, 5, 6] rfl rfl
  replace hf := Option.some.inj hf
  subst hf
  replace hM : (o1.1, o1.2) = out := hM
  subst hM
  refine W.widen (k := 0) (n := 0) (Nat.le_of_ble_eq_true rfl) (Nat.le_of_ble_eq_true rfl) ?_
  replace hI := hI.perm (w2 := [(x0, .inr (7, [.ref n0, .ref q0, .ref h0, v_pickerOfNet, v_tallyOfNet])), (n0, .inr (3, [.int N_postCount, .int N_roadCount, .ref n1, .ref n2, .ref n3, .ref n4, .ref n5, .ref n6])), (n1, .inl (cI, 24, .inl N_first)), (n2, .inl (cI, 24, .inl N_second)), (n3, .inl (cI, 24, .inl N_number)), (n4, .inl (cI, 24, .inl N_allowed)), (n5, .inl (cI, 12, .inl N_at)), (n6, .inl (cI, 24, .inl N_beside)), (q0, .inr (5, [.int Q_side, .int Q_height, .ref q1, .ref q2, .ref q3])), (q1, .inl (cI, 81, .inl Q_cell)), (q2, .inl (cI, 9, .inl Q_taken)), (q3, .inl (cI, 512, .inl Q_ways)), (h0, .inr (2, [.ref n0, .ref h1])), (h1, .inl (cI, 4096, .inl o1.2))]) [0, 1, 2, 3, 4, 5, 6, 7, 8, 9, 10, 11, 12, 13] rfl rfl
  exact rt_i (u := ()) hx hb hr hlocks rfl hI hAe rfl dX7_heap_7
set_option maxHeartbeats 4000000 in
set_option maxRecDepth 100000 in
theorem kX7_heap_n (l : Launch) (D : va_G) (cI cJ cZ : ClassId) (x0 n0 n1 n2 n3 n4 n5 n6 q0 q1 q2 q3 : Nat) (v_pickerOfNet : Value) (v_tallyOfNet : Value) (N_postCount : Int32) (N_roadCount : Int32) (N_first : Nat → Int32) (N_second : Nat → Int32) (N_number : Nat → Int32) (N_allowed : Nat → Int32) (N_at : Nat → Int32) (N_beside : Nat → Int32) (Q_side : Int32) (Q_height : Int32) (Q_cell : Nat → Int32) (Q_taken : Nat → Int32) (Q_ways : Nat → Int32) (out : Int32 × (Nat → Int32)) (hf : FX7_heap (fun _ => 0) N_postCount N_roadCount N_first N_second N_number N_allowed N_at N_beside = some out) : MI l yX7_heap (Cond.code yX7_heap cX7_heap 1 (some .int) :: GW) { frames := 5, cells := 2, slots := 4098, locals := 111 } D cI cJ cZ [.ref x0] [(x0, .inr (7, [.ref n0, .ref q0, .null, v_pickerOfNet, v_tallyOfNet])), (n0, .inr (3, [.int N_postCount, .int N_roadCount, .ref n1, .ref n2, .ref n3, .ref n4, .ref n5, .ref n6])), (n1, .inl (cI, 24, .inl N_first)), (n2, .inl (cI, 24, .inl N_second)), (n3, .inl (cI, 24, .inl N_number)), (n4, .inl (cI, 24, .inl N_allowed)), (n5, .inl (cI, 12, .inl N_at)), (n6, .inl (cI, 24, .inl N_beside)), (q0, .inr (5, [.int Q_side, .int Q_height, .ref q1, .ref q2, .ref q3])), (q1, .inl (cI, 81, .inl Q_cell)), (q2, .inl (cI, 9, .inl Q_taken)), (q3, .inl (cI, 512, .inl Q_ways))] (fun r (_ : Option (Nat × Nat)) => r = out.1) (fun (u : Option (Nat × Nat)) => u.elim [(x0, .inr (7, [.ref n0, .ref q0, .null, v_pickerOfNet, v_tallyOfNet])), (n0, .inr (3, [.int N_postCount, .int N_roadCount, .ref n1, .ref n2, .ref n3, .ref n4, .ref n5, .ref n6])), (n1, .inl (cI, 24, .inl N_first)), (n2, .inl (cI, 24, .inl N_second)), (n3, .inl (cI, 24, .inl N_number)), (n4, .inl (cI, 24, .inl N_allowed)), (n5, .inl (cI, 12, .inl N_at)), (n6, .inl (cI, 24, .inl N_beside)), (q0, .inr (5, [.int Q_side, .int Q_height, .ref q1, .ref q2, .ref q3])), (q1, .inl (cI, 81, .inl Q_cell)), (q2, .inl (cI, 9, .inl Q_taken)), (q3, .inl (cI, 512, .inl Q_ways))] (fun q => [(x0, .inr (7, [.ref n0, .ref q0, .ref q.1, v_pickerOfNet, v_tallyOfNet])), (n0, .inr (3, [.int N_postCount, .int N_roadCount, .ref n1, .ref n2, .ref n3, .ref n4, .ref n5, .ref n6])), (n1, .inl (cI, 24, .inl N_first)), (n2, .inl (cI, 24, .inl N_second)), (n3, .inl (cI, 24, .inl N_number)), (n4, .inl (cI, 24, .inl N_allowed)), (n5, .inl (cI, 12, .inl N_at)), (n6, .inl (cI, 24, .inl N_beside)), (q0, .inr (5, [.int Q_side, .int Q_height, .ref q1, .ref q2, .ref q3])), (q1, .inl (cI, 81, .inl Q_cell)), (q2, .inl (cI, 9, .inl Q_taken)), (q3, .inl (cI, 512, .inl Q_ways)), (q.1, .inr (2, [.ref n0, .ref q.2])), (q.2, .inl (cI, 4096, .inl out.2))])) := by
  intro sz
  refine Met.ofW (cc := cX7_heap) (maxL := 1) (ret := (some .int)) (by decide +kernel) rfl ?_
  intro p e s m args below meth c s₁ B hml hv
  obtain ⟨rfl, hsz, hP, hK, hD0⟩ := hv
  have hx := B.exec
  have hb := B.bytes
  have hr := B.returns
  have hlocks := B.notSynchronized
  have hg : ∀ w ∈ GW, w.before _ s = true := fun w h => atoms_spec (ws := Cond.code yX7_heap cX7_heap 1 (some .int) :: GW) B.pre w (List.mem_cons_of_mem _ h)
  have hown : s.vm.findClass RX7 = some m.cls := findClass_of_methodNamed B.named
  subst hsz
  obtain ⟨A, hAe⟩ : ∃ A, A = va_A [(x0, .inr (7, [.ref n0, .ref q0, .null, v_pickerOfNet, v_tallyOfNet])), (n0, .inr (3, [.int N_postCount, .int N_roadCount, .ref n1, .ref n2, .ref n3, .ref n4, .ref n5, .ref n6])), (n1, .inl (cI, 24, .inl N_first)), (n2, .inl (cI, 24, .inl N_second)), (n3, .inl (cI, 24, .inl N_number)), (n4, .inl (cI, 24, .inl N_allowed)), (n5, .inl (cI, 12, .inl N_at)), (n6, .inl (cI, 24, .inl N_beside)), (q0, .inr (5, [.int Q_side, .int Q_height, .ref q1, .ref q2, .ref q3])), (q1, .inl (cI, 81, .inl Q_cell)), (q2, .inl (cI, 9, .inl Q_taken)), (q3, .inl (cI, 512, .inl Q_ways))] s.heap.size := ⟨_, rfl⟩
  have hA : ∀ q : Nat, s.heap.size ≤ q → A q := fun q h => by rw [hAe]; exact Or.inr h
  have hI : WI D A s.heap [(x0, .inr (7, [.ref n0, .ref q0, .null, v_pickerOfNet, v_tallyOfNet])), (n0, .inr (3, [.int N_postCount, .int N_roadCount, .ref n1, .ref n2, .ref n3, .ref n4, .ref n5, .ref n6])), (n1, .inl (cI, 24, .inl N_first)), (n2, .inl (cI, 24, .inl N_second)), (n3, .inl (cI, 24, .inl N_number)), (n4, .inl (cI, 24, .inl N_allowed)), (n5, .inl (cI, 12, .inl N_at)), (n6, .inl (cI, 24, .inl N_beside)), (q0, .inr (5, [.int Q_side, .int Q_height, .ref q1, .ref q2, .ref q3])), (q1, .inl (cI, 81, .inl Q_cell)), (q2, .inl (cI, 9, .inl Q_taken)), (q3, .inl (cI, 512, .inl Q_ways))] s.heap [] := ⟨hP, by rw [hAe]; exact hD0.self, va_S.rf⟩
  have hl := lv_entry [.ref x0] (n := 1) (Nat.le_of_ble_eq_true rfl)
  rw [lg_entry_eq]
  generalize (lg_sl [.ref x0] ++ List.replicate (1 - (lg_sl [.ref x0]).length) Slot.unset).toArray = ls at hl ⊢
  replace hl : lv_has ls 1 [(0, .ref x0)] := hl
  obtain ⟨x, hf, hM⟩ : ∃ x, FX7_heap (fun _ => 0) N_postCount N_roadCount N_first N_second N_number N_allowed N_at N_beside = some x ∧ x = out := ⟨out, hf, rfl⟩
  refine lv_aload_n hx hb dX7_heap_0 rfl (lv_at hl 0 rfl) ?_
  refine w_Vr (wc := [(x0, .inr (7, [.ref n0, .ref q0, .null, v_pickerOfNet, v_tallyOfNet])), (n0, .inr (3, [.int N_postCount, .int N_roadCount, .ref n1, .ref n2, .ref n3, .ref n4, .ref n5, .ref n6])), (n1, .inl (cI, 24, .inl N_first)), (n2, .inl (cI, 24, .inl N_second)), (n3, .inl (cI, 24, .inl N_number)), (n4, .inl (cI, 24, .inl N_allowed)), (n5, .inl (cI, 12, .inl N_at)), (n6, .inl (cI, 24, .inl N_beside)), (q0, .inr (5, [.int Q_side, .int Q_height, .ref q1, .ref q2, .ref q3])), (q1, .inl (cI, 81, .inl Q_cell)), (q2, .inl (cI, 9, .inl Q_taken)), (q3, .inl (cI, 512, .inl Q_ways))]) (wr := []) (rest := []) hx hb hml hg hown hK hA hI (kRX7_heapsHere_n l D cI cJ cZ x0 n0 n1 n2 n3 n4 n5 n6 q0 q1 q2 q3 (v_pickerOfNet) (v_tallyOfNet) N_postCount N_roadCount N_first N_second N_number N_allowed N_at N_beside Q_side Q_height Q_cell Q_taken Q_ways) kvX7_heapsHere wL_RX7_129 ⟨Nat.le_of_ble_eq_true rfl, Nat.le_of_ble_eq_true rfl⟩ rfl rfl [0, 1, 2, 3, 4, 5, 6, 7, 8, 9, 10, 11] [] rfl rfl rfl rfl (by decide) rfl rfl hl.1 (Nat.le_of_ble_eq_true rfl) dX7_heap_1 ⟨Nat.le_of_ble_eq_true rfl, Nat.le_of_ble_eq_true rfl⟩ (fun u ra H locs hp hI => ?_)
  obtain ⟨b1, b2⟩ := u
  replace hp : ra = b1 := hp
  rw [hp]
  clear hp
  replace hI : WI D A s.heap [(x0, .inr (7, [.ref n0, .ref q0, .ref b1, v_pickerOfNet, v_tallyOfNet])), (n0, .inr (3, [.int N_postCount, .int N_roadCount, .ref n1, .ref n2, .ref n3, .ref n4, .ref n5, .ref n6])), (n1, .inl (cI, 24, .inl N_first)), (n2, .inl (cI, 24, .inl N_second)), (n3, .inl (cI, 24, .inl N_number)), (n4, .inl (cI, 24, .inl N_allowed)), (n5, .inl (cI, 12, .inl N_at)), (n6, .inl (cI, 24, .inl N_beside)), (q0, .inr (5, [.int Q_side, .int Q_height, .ref q1, .ref q2, .ref q3])), (q1, .inl (cI, 81, .inl Q_cell)), (q2, .inl (cI, 9, .inl Q_taken)), (q3, .inl (cI, 512, .inl Q_ways)), (b1, .inr (2, [.ref n0, .ref b2])), (b2, .inl (cI, 4096, .inl (fun _ => 0)))] H locs := hI
  obtain ⟨o3, ho3, hf⟩ := bd_e hf
  refine w_Vi (wc := (wH cI cJ cZ b1 b2 n0 n1 n2 n3 n4 n5 n6 (fun _ => 0) N_postCount N_roadCount N_first N_second N_number N_allowed N_at N_beside)) (wr := [(x0, .inr (7, [.ref n0, .ref q0, .ref b1, v_pickerOfNet, v_tallyOfNet])), (q0, .inr (5, [.int Q_side, .int Q_height, .ref q1, .ref q2, .ref q3])), (q1, .inl (cI, 81, .inl Q_cell)), (q2, .inl (cI, 9, .inl Q_taken)), (q3, .inl (cI, 512, .inl Q_ways))]) (rest := []) hx hb hml hg hown hK hA hI (kX2_neediest l D cI cJ cZ b1 b2 n0 n1 n2 n3 n4 n5 n6 (fun _ => 0) N_postCount N_roadCount N_first N_second N_number N_allowed N_at N_beside  o3 ho3) kvX2_neediest wL_RX7_185 ⟨Nat.le_of_ble_eq_true rfl, Nat.le_of_ble_eq_true rfl⟩ rfl rfl [12, 13, 1, 2, 3, 4, 5, 6, 7] [0, 8, 9, 10, 11] rfl rfl rfl rfl (by decide) rfl rfl hl.1 (Nat.le_of_ble_eq_true rfl) dX7_heap_4 ⟨Nat.le_of_ble_eq_true rfl, Nat.le_of_ble_eq_true rfl⟩ (fun r u H locs hp hI => ?_)
  replace hp : r = o3.1 := hp
  rw [hp]
  clear hp
  replace hI : WI D A s.heap [(x0, .inr (7, [.ref n0, .ref q0, .ref b1, v_pickerOfNet, v_tallyOfNet])), (n0, .inr (3, [.int N_postCount, .int N_roadCount, .ref n1, .ref n2, .ref n3, .ref n4, .ref n5, .ref n6])), (n1, .inl (cI, 24, .inl N_first)), (n2, .inl (cI, 24, .inl N_second)), (n3, .inl (cI, 24, .inl N_number)), (n4, .inl (cI, 24, .inl N_allowed)), (n5, .inl (cI, 12, .inl N_at)), (n6, .inl (cI, 24, .inl N_beside)), (q0, .inr (5, [.int Q_side, .int Q_height, .ref q1, .ref q2, .ref q3])), (q1, .inl (cI, 81, .inl Q_cell)), (q2, .inl (cI, 9, .inl Q_taken)), (q3, .inl (cI, 512, .inl Q_ways)), (b1, .inr (2, [.ref n0, .ref b2])), (b2, .inl (cI, 4096, .inl o3.2))] H locs := hI.perm [0, 7, 8, 9, 10, 11, 12, 13, 1, 2, 3, 4, 5, 6] rfl rfl
  replace hf := Option.some.inj hf
  subst hf
  replace hM : (o3.1, o3.2) = out := hM
  subst hM
  refine W.widen (k := 2) (n := 4098) (Nat.le_of_ble_eq_true rfl) (Nat.le_of_ble_eq_true rfl) ?_
  replace hI := hI.perm (w2 := [(x0, .inr (7, [.ref n0, .ref q0, .ref b1, v_pickerOfNet, v_tallyOfNet])), (n0, .inr (3, [.int N_postCount, .int N_roadCount, .ref n1, .ref n2, .ref n3, .ref n4, .ref n5, .ref n6])), (n1, .inl (cI, 24, .inl N_first)), (n2, .inl (cI, 24, .inl N_second)), (n3, .inl (cI, 24, .inl N_number)), (n4, .inl (cI, 24, .inl N_allowed)), (n5, .inl (cI, 12, .inl N_at)), (n6, .inl (cI, 24, .inl N_beside)), (q0, .inr (5, [.int Q_side, .int Q_height, .ref q1, .ref q2, .ref q3])), (q1, .inl (cI, 81, .inl Q_cell)), (q2, .inl (cI, 9, .inl Q_taken)), (q3, .inl (cI, 512, .inl Q_ways)), (b1, .inr (2, [.ref n0, .ref b2])), (b2, .inl (cI, 4096, .inl o3.2))]) [0, 1, 2, 3, 4, 5, 6, 7, 8, 9, 10, 11, 12, 13] rfl rfl
  exact rt_i (u := (some (b1, b2))) hx hb hr hlocks rfl hI hAe rfl dX7_heap_7
theorem kvX7_full : CalV RX7 yX7_full cX7_full 2 (some .int) 1 := ⟨wC_yX7_full, wM_yX7_full, wS_yX7_full, wI_RX7, by decide +kernel⟩
noncomputable def FX7_full (H_inside : Nat → Int32) (N_postCount : Int32) (N_roadCount : Int32) (N_first : Nat → Int32) (N_second : Nat → Int32) (N_number : Nat → Int32) (N_allowed : Nat → Int32) (N_at : Nat → Int32) (N_beside : Nat → Int32) (a1 : Int32) : Option (Int32 × (Nat → Int32)) :=
  if a1 = (0 : Int32) then ((FX3_fullest N_postCount N_at).bind (fun o1 => some (o1, H_inside))) else if a1 = (1 : Int32) then ((FX3_fullest N_postCount N_at).bind (fun o2 => (FX2_greatestNeed H_inside N_postCount N_at).bind (fun o3 => bnd (if o2 < o3.1 then o3.1 else o2) (fun x4 => some (x4, o3.2))))) else if a1 = (2 : Int32) then ((FX3_isPlain N_roadCount N_first N_second N_at).bind (fun o5 => (FX7_asBit o5).bind (fun x6 => some (x6, H_inside)))) else if a1 = (3 : Int32) then ((FX3_numberedRoads N_roadCount N_number).bind (fun o7 => some (o7, H_inside))) else (some ((-2 : Int32), H_inside))
set_option maxHeartbeats 4000000 in
set_option maxRecDepth 100000 in
theorem kX7_full_s (l : Launch) (D : va_G) (cI cJ cZ : ClassId) (x0 n0 n1 n2 n3 n4 n5 n6 q0 q1 q2 q3 h0 h1 : Nat) (v_pickerOfNet : Value) (v_tallyOfNet : Value) (N_postCount : Int32) (N_roadCount : Int32) (N_first : Nat → Int32) (N_second : Nat → Int32) (N_number : Nat → Int32) (N_allowed : Nat → Int32) (N_at : Nat → Int32) (N_beside : Nat → Int32) (Q_side : Int32) (Q_height : Int32) (Q_cell : Nat → Int32) (Q_taken : Nat → Int32) (Q_ways : Nat → Int32) (H_inside_0 : Nat → Int32) (a1 : Int32) (out : Int32 × (Nat → Int32)) (hf : FX7_full H_inside_0 N_postCount N_roadCount N_first N_second N_number N_allowed N_at N_beside a1 = some out) : MI l yX7_full (Cond.code yX7_full cX7_full 2 (some .int) :: GW) { frames := 6, cells := 0, slots := 0, locals := 132 } D cI cJ cZ [.ref x0, .int a1] [(x0, .inr (7, [.ref n0, .ref q0, .ref h0, v_pickerOfNet, v_tallyOfNet])), (n0, .inr (3, [.int N_postCount, .int N_roadCount, .ref n1, .ref n2, .ref n3, .ref n4, .ref n5, .ref n6])), (n1, .inl (cI, 24, .inl N_first)), (n2, .inl (cI, 24, .inl N_second)), (n3, .inl (cI, 24, .inl N_number)), (n4, .inl (cI, 24, .inl N_allowed)), (n5, .inl (cI, 12, .inl N_at)), (n6, .inl (cI, 24, .inl N_beside)), (q0, .inr (5, [.int Q_side, .int Q_height, .ref q1, .ref q2, .ref q3])), (q1, .inl (cI, 81, .inl Q_cell)), (q2, .inl (cI, 9, .inl Q_taken)), (q3, .inl (cI, 512, .inl Q_ways)), (h0, .inr (2, [.ref n0, .ref h1])), (h1, .inl (cI, 4096, .inl H_inside_0))] (fun r (_ : Unit) => r = out.1) (fun (_ : Unit) => [(x0, .inr (7, [.ref n0, .ref q0, .ref h0, v_pickerOfNet, v_tallyOfNet])), (n0, .inr (3, [.int N_postCount, .int N_roadCount, .ref n1, .ref n2, .ref n3, .ref n4, .ref n5, .ref n6])), (n1, .inl (cI, 24, .inl N_first)), (n2, .inl (cI, 24, .inl N_second)), (n3, .inl (cI, 24, .inl N_number)), (n4, .inl (cI, 24, .inl N_allowed)), (n5, .inl (cI, 12, .inl N_at)), (n6, .inl (cI, 24, .inl N_beside)), (q0, .inr (5, [.int Q_side, .int Q_height, .ref q1, .ref q2, .ref q3])), (q1, .inl (cI, 81, .inl Q_cell)), (q2, .inl (cI, 9, .inl Q_taken)), (q3, .inl (cI, 512, .inl Q_ways)), (h0, .inr (2, [.ref n0, .ref h1])), (h1, .inl (cI, 4096, .inl out.2))]) := by
  intro sz
  refine Met.ofW (cc := cX7_full) (maxL := 2) (ret := (some .int)) (by decide +kernel) rfl ?_
  intro p e s m args below meth c s₁ B hml hv
  obtain ⟨rfl, hsz, hP, hK, hD0⟩ := hv
  have hx := B.exec
  have hb := B.bytes
  have hr := B.returns
  have hlocks := B.notSynchronized
  have hg : ∀ w ∈ GW, w.before _ s = true := fun w h => atoms_spec (ws := Cond.code yX7_full cX7_full 2 (some .int) :: GW) B.pre w (List.mem_cons_of_mem _ h)
  have hown : s.vm.findClass RX7 = some m.cls := findClass_of_methodNamed B.named
  subst hsz
  obtain ⟨A, hAe⟩ : ∃ A, A = va_A [(x0, .inr (7, [.ref n0, .ref q0, .ref h0, v_pickerOfNet, v_tallyOfNet])), (n0, .inr (3, [.int N_postCount, .int N_roadCount, .ref n1, .ref n2, .ref n3, .ref n4, .ref n5, .ref n6])), (n1, .inl (cI, 24, .inl N_first)), (n2, .inl (cI, 24, .inl N_second)), (n3, .inl (cI, 24, .inl N_number)), (n4, .inl (cI, 24, .inl N_allowed)), (n5, .inl (cI, 12, .inl N_at)), (n6, .inl (cI, 24, .inl N_beside)), (q0, .inr (5, [.int Q_side, .int Q_height, .ref q1, .ref q2, .ref q3])), (q1, .inl (cI, 81, .inl Q_cell)), (q2, .inl (cI, 9, .inl Q_taken)), (q3, .inl (cI, 512, .inl Q_ways)), (h0, .inr (2, [.ref n0, .ref h1])), (h1, .inl (cI, 4096, .inl H_inside_0))] s.heap.size := ⟨_, rfl⟩
  have hA : ∀ q : Nat, s.heap.size ≤ q → A q := fun q h => by rw [hAe]; exact Or.inr h
  have hI : WI D A s.heap [(x0, .inr (7, [.ref n0, .ref q0, .ref h0, v_pickerOfNet, v_tallyOfNet])), (n0, .inr (3, [.int N_postCount, .int N_roadCount, .ref n1, .ref n2, .ref n3, .ref n4, .ref n5, .ref n6])), (n1, .inl (cI, 24, .inl N_first)), (n2, .inl (cI, 24, .inl N_second)), (n3, .inl (cI, 24, .inl N_number)), (n4, .inl (cI, 24, .inl N_allowed)), (n5, .inl (cI, 12, .inl N_at)), (n6, .inl (cI, 24, .inl N_beside)), (q0, .inr (5, [.int Q_side, .int Q_height, .ref q1, .ref q2, .ref q3])), (q1, .inl (cI, 81, .inl Q_cell)), (q2, .inl (cI, 9, .inl Q_taken)), (q3, .inl (cI, 512, .inl Q_ways)), (h0, .inr (2, [.ref n0, .ref h1])), (h1, .inl (cI, 4096, .inl H_inside_0))] s.heap [] := ⟨hP, by rw [hAe]; exact hD0.self, va_S.rf⟩
  have hl := lv_entry [.ref x0, .int a1] (n := 2) (Nat.le_of_ble_eq_true rfl)
  rw [lg_entry_eq]
  generalize (lg_sl [.ref x0, .int a1] ++ List.replicate (2 - (lg_sl [.ref x0, .int a1]).length) Slot.unset).toArray = ls at hl ⊢
  replace hl : lv_has ls 2 [(0, .ref x0), (1, .int a1)] := hl
  obtain ⟨x, hf, hM⟩ : ∃ x, FX7_full H_inside_0 N_postCount N_roadCount N_first N_second N_number N_allowed N_at N_beside a1 = some x ∧ x = out := ⟨out, hf, rfl⟩
  refine lv_iload_n hx hb dX7_full_0 rfl (lv_at hl 1 rfl) ?_
  by_cases hc0 : a1 = (0 : Int32)
  · replace hf := ite_t hc0 hf
    refine lv_tableIn (tgt := 32) hx hb dX7_full_1 (by rw [hc0]; decide) (by rw [hc0]; decide) (by rw [hc0]; rfl) (by decide) ?_
    refine lv_aload_n hx hb dX7_full_32 rfl (lv_at hl 0 rfl) ?_
    refine w_get hx hb hg hown hK hI iX7 0 rfl rfl 0 (by decide) wF_RX7_12 rfl dX7_full_33 ?_
    obtain ⟨o1, ho1, hf⟩ := bd_e hf
    refine w_Vi (wc := (wN cI cJ cZ n0 n1 n2 n3 n4 n5 n6 N_postCount N_roadCount N_first N_second N_number N_allowed N_at N_beside)) (wr := [(x0, .inr (7, [.ref n0, .ref q0, .ref h0, v_pickerOfNet, v_tallyOfNet])), (q0, .inr (5, [.int Q_side, .int Q_height, .ref q1, .ref q2, .ref q3])), (q1, .inl (cI, 81, .inl Q_cell)), (q2, .inl (cI, 9, .inl Q_taken)), (q3, .inl (cI, 512, .inl Q_ways)), (h0, .inr (2, [.ref n0, .ref h1])), (h1, .inl (cI, 4096, .inl H_inside_0))]) (rest := []) hx hb hml hg hown hK hA hI (kX3_fullest l D cI cJ cZ n0 n1 n2 n3 n4 n5 n6 N_postCount N_roadCount N_first N_second N_number N_allowed N_at N_beside  o1 ho1) kvX3_fullest wL_RX7_97 ⟨Nat.le_of_ble_eq_true rfl, Nat.le_of_ble_eq_true rfl⟩ rfl rfl [1, 2, 3, 4, 5, 6, 7] [0, 8, 9, 10, 11, 12, 13] rfl rfl rfl rfl (by decide) rfl rfl hl.1 (Nat.le_of_ble_eq_true rfl) dX7_full_36 ⟨Nat.le_of_ble_eq_true rfl, Nat.le_of_ble_eq_true rfl⟩ (fun r u H locs hp hI => ?_)
    replace hp : r = o1 := hp
    rw [hp]
    clear hp
    replace hI : WI D A s.heap [(x0, .inr (7, [.ref n0, .ref q0, .ref h0, v_pickerOfNet, v_tallyOfNet])), (n0, .inr (3, [.int N_postCount, .int N_roadCount, .ref n1, .ref n2, .ref n3, .ref n4, .ref n5, .ref n6])), (n1, .inl (cI, 24, .inl N_first)), (n2, .inl (cI, 24, .inl N_second)), (n3, .inl (cI, 24, .inl N_number)), (n4, .inl (cI, 24, .inl N_allowed)), (n5, .inl (cI, 12, .inl N_at)), (n6, .inl (cI, 24, .inl N_beside)), (q0, .inr (5, [.int Q_side, .int Q_height, .ref q1, .ref q2, .ref q3])), (q1, .inl (cI, 81, .inl Q_cell)), (q2, .inl (cI, 9, .inl Q_taken)), (q3, .inl (cI, 512, .inl Q_ways)), (h0, .inr (2, [.ref n0, .ref h1])), (h1, .inl (cI, 4096, .inl H_inside_0))] H locs := hI.perm [0, 7, 8, 9, 10, 11, 12, 13, 1, 2, 3, 4, 5, 6] rfl rfl
    replace hf := Option.some.inj hf
    subst hf
    replace hM : (o1, H_inside_0) = out := hM
    subst hM
    refine W.widen (k := 0) (n := 0) (Nat.le_of_ble_eq_true rfl) (Nat.le_of_ble_eq_true rfl) ?_
    replace hI := hI.perm (w2 := [(x0, .inr (7, [.ref n0, .ref q0, .ref h0, v_pickerOfNet, v_tallyOfNet])), (n0, .inr (3, [.int N_postCount, .int N_roadCount, .ref n1, .ref n2, .ref n3, .ref n4, .ref n5, .ref n6])), (n1, .inl (cI, 24, .inl N_first)), (n2, .inl (cI, 24, .inl N_second)), (n3, .inl (cI, 24, .inl N_number)), (n4, .inl (cI, 24, .inl N_allowed)), (n5, .inl (cI, 12, .inl N_at)), (n6, .inl (cI, 24, .inl N_beside)), (q0, .inr (5, [.int Q_side, .int Q_height, .ref q1, .ref q2, .ref q3])), (q1, .inl (cI, 81, .inl Q_cell)), (q2, .inl (cI, 9, .inl Q_taken)), (q3, .inl (cI, 512, .inl Q_ways)), (h0, .inr (2, [.ref n0, .ref h1])), (h1, .inl (cI, 4096, .inl H_inside_0))]) [0, 1, 2, 3, 4, 5, 6, 7, 8, 9, 10, 11, 12, 13] rfl rfl
    exact rt_i (u := ()) hx hb hr hlocks rfl hI hAe rfl dX7_full_39
  replace hf := ite_f hc0 hf
  by_cases hc1 : a1 = (1 : Int32)
  · replace hf := ite_t hc1 hf
    refine lv_tableIn (tgt := 40) hx hb dX7_full_1 (by rw [hc1]; decide) (by rw [hc1]; decide) (by rw [hc1]; rfl) (by decide) ?_
    refine lv_aload_n hx hb dX7_full_40 rfl (lv_at hl 0 rfl) ?_
    refine w_get hx hb hg hown hK hI iX7 0 rfl rfl 0 (by decide) wF_RX7_12 rfl dX7_full_41 ?_
    obtain ⟨o2, ho2, hf⟩ := bd_e hf
    refine w_Vi (wc := (wN cI cJ cZ n0 n1 n2 n3 n4 n5 n6 N_postCount N_roadCount N_first N_second N_number N_allowed N_at N_beside)) (wr := [(x0, .inr (7, [.ref n0, .ref q0, .ref h0, v_pickerOfNet, v_tallyOfNet])), (q0, .inr (5, [.int Q_side, .int Q_height, .ref q1, .ref q2, .ref q3])), (q1, .inl (cI, 81, .inl Q_cell)), (q2, .inl (cI, 9, .inl Q_taken)), (q3, .inl (cI, 512, .inl Q_ways)), (h0, .inr (2, [.ref n0, .ref h1])), (h1, .inl (cI, 4096, .inl H_inside_0))]) (rest := []) hx hb hml hg hown hK hA hI (kX3_fullest l D cI cJ cZ n0 n1 n2 n3 n4 n5 n6 N_postCount N_roadCount N_first N_second N_number N_allowed N_at N_beside  o2 ho2) kvX3_fullest wL_RX7_97 ⟨Nat.le_of_ble_eq_true rfl, Nat.le_of_ble_eq_true rfl⟩ rfl rfl [1, 2, 3, 4, 5, 6, 7] [0, 8, 9, 10, 11, 12, 13] rfl rfl rfl rfl (by decide) rfl rfl hl.1 (Nat.le_of_ble_eq_true rfl) dX7_full_44 ⟨Nat.le_of_ble_eq_true rfl, Nat.le_of_ble_eq_true rfl⟩ (fun r u H locs hp hI => ?_)
    replace hp : r = o2 := hp
    rw [hp]
    clear hp
    replace hI : WI D A s.heap [(x0, .inr (7, [.ref n0, .ref q0, .ref h0, v_pickerOfNet, v_tallyOfNet])), (n0, .inr (3, [.int N_postCount, .int N_roadCount, .ref n1, .ref n2, .ref n3, .ref n4, .ref n5, .ref n6])), (n1, .inl (cI, 24, .inl N_first)), (n2, .inl (cI, 24, .inl N_second)), (n3, .inl (cI, 24, .inl N_number)), (n4, .inl (cI, 24, .inl N_allowed)), (n5, .inl (cI, 12, .inl N_at)), (n6, .inl (cI, 24, .inl N_beside)), (q0, .inr (5, [.int Q_side, .int Q_height, .ref q1, .ref q2, .ref q3])), (q1, .inl (cI, 81, .inl Q_cell)), (q2, .inl (cI, 9, .inl Q_taken)), (q3, .inl (cI, 512, .inl Q_ways)), (h0, .inr (2, [.ref n0, .ref h1])), (h1, .inl (cI, 4096, .inl H_inside_0))] H locs := hI.perm [0, 7, 8, 9, 10, 11, 12, 13, 1, 2, 3, 4, 5, 6] rfl rfl
    refine lv_aload_n hx hb dX7_full_47 rfl (lv_at hl 0 rfl) ?_
    refine w_Vr (wc := [(x0, .inr (7, [.ref n0, .ref q0, .ref h0, v_pickerOfNet, v_tallyOfNet])), (n0, .inr (3, [.int N_postCount, .int N_roadCount, .ref n1, .ref n2, .ref n3, .ref n4, .ref n5, .ref n6])), (n1, .inl (cI, 24, .inl N_first)), (n2, .inl (cI, 24, .inl N_second)), (n3, .inl (cI, 24, .inl N_number)), (n4, .inl (cI, 24, .inl N_allowed)), (n5, .inl (cI, 12, .inl N_at)), (n6, .inl (cI, 24, .inl N_beside)), (q0, .inr (5, [.int Q_side, .int Q_height, .ref q1, .ref q2, .ref q3])), (q1, .inl (cI, 81, .inl Q_cell)), (q2, .inl (cI, 9, .inl Q_taken)), (q3, .inl (cI, 512, .inl Q_ways)), (h0, .inr (2, [.ref n0, .ref h1])), (h1, .inl (cI, 4096, .inl H_inside_0))]) (wr := []) (rest := [.int o2]) hx hb hml hg hown hK hA hI (kRX7_heapsHere_s l D cI cJ cZ x0 n0 n1 n2 n3 n4 n5 n6 q0 q1 q2 q3 h0 h1 (v_pickerOfNet) (v_tallyOfNet) N_postCount N_roadCount N_first N_second N_number N_allowed N_at N_beside Q_side Q_height Q_cell Q_taken Q_ways H_inside_0) kvX7_heapsHere wL_RX7_129 ⟨Nat.le_of_ble_eq_true rfl, Nat.le_of_ble_eq_true rfl⟩ rfl rfl [0, 1, 2, 3, 4, 5, 6, 7, 8, 9, 10, 11, 12, 13] [] rfl rfl rfl rfl (by decide) rfl rfl hl.1 (Nat.le_of_ble_eq_true rfl) dX7_full_48 ⟨Nat.le_of_ble_eq_true rfl, Nat.le_of_ble_eq_true rfl⟩ (fun u ra H locs hp hI => ?_)
    replace hp : ra = h0 := hp
    rw [hp]
    clear hp
    replace hI : WI D A s.heap [(x0, .inr (7, [.ref n0, .ref q0, .ref h0, v_pickerOfNet, v_tallyOfNet])), (n0, .inr (3, [.int N_postCount, .int N_roadCount, .ref n1, .ref n2, .ref n3, .ref n4, .ref n5, .ref n6])), (n1, .inl (cI, 24, .inl N_first)), (n2, .inl (cI, 24, .inl N_second)), (n3, .inl (cI, 24, .inl N_number)), (n4, .inl (cI, 24, .inl N_allowed)), (n5, .inl (cI, 12, .inl N_at)), (n6, .inl (cI, 24, .inl N_beside)), (q0, .inr (5, [.int Q_side, .int Q_height, .ref q1, .ref q2, .ref q3])), (q1, .inl (cI, 81, .inl Q_cell)), (q2, .inl (cI, 9, .inl Q_taken)), (q3, .inl (cI, 512, .inl Q_ways)), (h0, .inr (2, [.ref n0, .ref h1])), (h1, .inl (cI, 4096, .inl H_inside_0))] H locs := hI
    obtain ⟨o3, ho3, hf⟩ := bd_e hf
    refine w_Vi (wc := (wH cI cJ cZ h0 h1 n0 n1 n2 n3 n4 n5 n6 H_inside_0 N_postCount N_roadCount N_first N_second N_number N_allowed N_at N_beside)) (wr := [(x0, .inr (7, [.ref n0, .ref q0, .ref h0, v_pickerOfNet, v_tallyOfNet])), (q0, .inr (5, [.int Q_side, .int Q_height, .ref q1, .ref q2, .ref q3])), (q1, .inl (cI, 81, .inl Q_cell)), (q2, .inl (cI, 9, .inl Q_taken)), (q3, .inl (cI, 512, .inl Q_ways))]) (rest := [.int o2]) hx hb hml hg hown hK hA hI (kX2_greatestNeed l D cI cJ cZ h0 h1 n0 n1 n2 n3 n4 n5 n6 H_inside_0 N_postCount N_roadCount N_first N_second N_number N_allowed N_at N_beside  o3 ho3) kvX2_greatestNeed wL_RX7_133 ⟨Nat.le_of_ble_eq_true rfl, Nat.le_of_ble_eq_true rfl⟩ rfl rfl [12, 13, 1, 2, 3, 4, 5, 6, 7] [0, 8, 9, 10, 11] rfl rfl rfl rfl (by decide) rfl rfl hl.1 (Nat.le_of_ble_eq_true rfl) dX7_full_51 ⟨Nat.le_of_ble_eq_true rfl, Nat.le_of_ble_eq_true rfl⟩ (fun r u H locs hp hI => ?_)
    replace hp : r = o3.1 := hp
    rw [hp]
    clear hp
    replace hI : WI D A s.heap [(x0, .inr (7, [.ref n0, .ref q0, .ref h0, v_pickerOfNet, v_tallyOfNet])), (n0, .inr (3, [.int N_postCount, .int N_roadCount, .ref n1, .ref n2, .ref n3, .ref n4, .ref n5, .ref n6])), (n1, .inl (cI, 24, .inl N_first)), (n2, .inl (cI, 24, .inl N_second)), (n3, .inl (cI, 24, .inl N_number)), (n4, .inl (cI, 24, .inl N_allowed)), (n5, .inl (cI, 12, .inl N_at)), (n6, .inl (cI, 24, .inl N_beside)), (q0, .inr (5, [.int Q_side, .int Q_height, .ref q1, .ref q2, .ref q3])), (q1, .inl (cI, 81, .inl Q_cell)), (q2, .inl (cI, 9, .inl Q_taken)), (q3, .inl (cI, 512, .inl Q_ways)), (h0, .inr (2, [.ref n0, .ref h1])), (h1, .inl (cI, 4096, .inl o3.2))] H locs := hI.perm [0, 7, 8, 9, 10, 11, 12, 13, 1, 2, 3, 4, 5, 6] rfl rfl
    refine va_mmax hx hb (hml.trans hl.1.symm) hown (hg _ wL_RX7_138) (hg _ wT_yJ9_max_7cf53) (hg _ wI_RJ9) (hg _ wC_yJ9_max_7cf53) (Nat.le_of_ble_eq_true rfl) (Nat.le_of_ble_eq_true rfl) (Nat.le_of_ble_eq_true rfl) (Nat.le_of_ble_eq_true rfl) dX7_full_54 ?_
    refine lv_topi (fun x4 ex4 => ?_)
    replace hf := bnd_e hf x4 ex4
    replace hf := Option.some.inj hf
    subst hf
    replace hM : (x4, o3.2) = out := hM
    subst hM
    refine W.widen (k := 0) (n := 0) (Nat.le_of_ble_eq_true rfl) (Nat.le_of_ble_eq_true rfl) ?_
    replace hI := hI.perm (w2 := [(x0, .inr (7, [.ref n0, .ref q0, .ref h0, v_pickerOfNet, v_tallyOfNet])), (n0, .inr (3, [.int N_postCount, .int N_roadCount, .ref n1, .ref n2, .ref n3, .ref n4, .ref n5, .ref n6])), (n1, .inl (cI, 24, .inl N_first)), (n2, .inl (cI, 24, .inl N_second)), (n3, .inl (cI, 24, .inl N_number)), (n4, .inl (cI, 24, .inl N_allowed)), (n5, .inl (cI, 12, .inl N_at)), (n6, .inl (cI, 24, .inl N_beside)), (q0, .inr (5, [.int Q_side, .int Q_height, .ref q1, .ref q2, .ref q3])), (q1, .inl (cI, 81, .inl Q_cell)), (q2, .inl (cI, 9, .inl Q_taken)), (q3, .inl (cI, 512, .inl Q_ways)), (h0, .inr (2, [.ref n0, .ref h1])), (h1, .inl (cI, 4096, .inl o3.2))]) [0, 1, 2, 3, 4, 5, 6, 7, 8, 9, 10, 11, 12, 13] rfl rfl
    exact rt_i (u := ()) hx hb hr hlocks rfl hI hAe rfl dX7_full_57
  replace hf := ite_f hc1 hf
  by_cases hc2 : a1 = (2 : Int32)
  · replace hf := ite_t hc2 hf
    refine lv_tableIn (tgt := 58) hx hb dX7_full_1 (by rw [hc2]; decide) (by rw [hc2]; decide) (by rw [hc2]; rfl) (by decide) ?_
    refine lv_aload_n hx hb dX7_full_58 rfl (lv_at hl 0 rfl) ?_
    refine w_get hx hb hg hown hK hI iX7 0 rfl rfl 0 (by decide) wF_RX7_12 rfl dX7_full_59 ?_
    obtain ⟨o5, ho5, hf⟩ := bd_e hf
    refine w_Vi (wc := (wN cI cJ cZ n0 n1 n2 n3 n4 n5 n6 N_postCount N_roadCount N_first N_second N_number N_allowed N_at N_beside)) (wr := [(x0, .inr (7, [.ref n0, .ref q0, .ref h0, v_pickerOfNet, v_tallyOfNet])), (q0, .inr (5, [.int Q_side, .int Q_height, .ref q1, .ref q2, .ref q3])), (q1, .inl (cI, 81, .inl Q_cell)), (q2, .inl (cI, 9, .inl Q_taken)), (q3, .inl (cI, 512, .inl Q_ways)), (h0, .inr (2, [.ref n0, .ref h1])), (h1, .inl (cI, 4096, .inl H_inside_0))]) (rest := []) hx hb hml hg hown hK hA hI (kX3_isPlain l D cI cJ cZ n0 n1 n2 n3 n4 n5 n6 N_postCount N_roadCount N_first N_second N_number N_allowed N_at N_beside  o5 ho5) kvX3_isPlain wL_RX7_100 ⟨Nat.le_of_ble_eq_true rfl, Nat.le_of_ble_eq_true rfl⟩ rfl rfl [1, 2, 3, 4, 5, 6, 7] [0, 8, 9, 10, 11, 12, 13] rfl rfl rfl rfl (by decide) rfl rfl hl.1 (Nat.le_of_ble_eq_true rfl) dX7_full_62 ⟨Nat.le_of_ble_eq_true rfl, Nat.le_of_ble_eq_true rfl⟩ (fun r u H locs hp hI => ?_)
    replace hp : r = o5 := hp
    rw [hp]
    clear hp
    replace hI : WI D A s.heap [(x0, .inr (7, [.ref n0, .ref q0, .ref h0, v_pickerOfNet, v_tallyOfNet])), (n0, .inr (3, [.int N_postCount, .int N_roadCount, .ref n1, .ref n2, .ref n3, .ref n4, .ref n5, .ref n6])), (n1, .inl (cI, 24, .inl N_first)), (n2, .inl (cI, 24, .inl N_second)), (n3, .inl (cI, 24, .inl N_number)), (n4, .inl (cI, 24, .inl N_allowed)), (n5, .inl (cI, 12, .inl N_at)), (n6, .inl (cI, 24, .inl N_beside)), (q0, .inr (5, [.int Q_side, .int Q_height, .ref q1, .ref q2, .ref q3])), (q1, .inl (cI, 81, .inl Q_cell)), (q2, .inl (cI, 9, .inl Q_taken)), (q3, .inl (cI, 512, .inl Q_ways)), (h0, .inr (2, [.ref n0, .ref h1])), (h1, .inl (cI, 4096, .inl H_inside_0))] H locs := hI.perm [0, 7, 8, 9, 10, 11, 12, 13, 1, 2, 3, 4, 5, 6] rfl rfl
    obtain ⟨x6, hx6, hf⟩ := bd_e hf
    refine w_S (rest := []) hx hb hml hg hown hK (kX7_asBit l D cI cJ cZ o5 x6 hx6) ksX7_asBit wL_RX7_115 ⟨Nat.le_of_ble_eq_true rfl, Nat.le_of_ble_eq_true rfl⟩ ⟨rfl, rfl⟩ rfl rfl hl.1 (Nat.le_of_ble_eq_true rfl) dX7_full_65 ⟨Nat.le_of_ble_eq_true rfl, Nat.le_of_ble_eq_true rfl⟩ ?_
    replace hf := Option.some.inj hf
    subst hf
    replace hM : (x6, H_inside_0) = out := hM
    subst hM
    refine W.widen (k := 0) (n := 0) (Nat.le_of_ble_eq_true rfl) (Nat.le_of_ble_eq_true rfl) ?_
    replace hI := hI.perm (w2 := [(x0, .inr (7, [.ref n0, .ref q0, .ref h0, v_pickerOfNet, v_tallyOfNet])), (n0, .inr (3, [.int N_postCount, .int N_roadCount, .ref n1, .ref n2, .ref n3, .ref n4, .ref n5, .ref n6])), (n1, .inl (cI, 24, .inl N_first)), (n2, .inl (cI, 24, .inl N_second)), (n3, .inl (cI, 24, .inl N_number)), (n4, .inl (cI, 24, .inl N_allowed)), (n5, .inl (cI, 12, .inl N_at)), (n6, .inl (cI, 24, .inl N_beside)), (q0, .inr (5, [.int Q_side, .int Q_height, .ref q1, .ref q2, .ref q3])), (q1, .inl (cI, 81, .inl Q_cell)), (q2, .inl (cI, 9, .inl Q_taken)), (q3, .inl (cI, 512, .inl Q_ways)), (h0, .inr (2, [.ref n0, .ref h1])), (h1, .inl (cI, 4096, .inl H_inside_0))]) [0, 1, 2, 3, 4, 5, 6, 7, 8, 9, 10, 11, 12, 13] rfl rfl
    exact rt_i (u := ()) hx hb hr hlocks rfl hI hAe rfl dX7_full_68
  replace hf := ite_f hc2 hf
  by_cases hc3 : a1 = (3 : Int32)
  · replace hf := ite_t hc3 hf
    refine lv_tableIn (tgt := 69) hx hb dX7_full_1 (by rw [hc3]; decide) (by rw [hc3]; decide) (by rw [hc3]; rfl) (by decide) ?_
    refine lv_aload_n hx hb dX7_full_69 rfl (lv_at hl 0 rfl) ?_
    refine w_get hx hb hg hown hK hI iX7 0 rfl rfl 0 (by decide) wF_RX7_12 rfl dX7_full_70 ?_
    obtain ⟨o7, ho7, hf⟩ := bd_e hf
    refine w_Vi (wc := (wN cI cJ cZ n0 n1 n2 n3 n4 n5 n6 N_postCount N_roadCount N_first N_second N_number N_allowed N_at N_beside)) (wr := [(x0, .inr (7, [.ref n0, .ref q0, .ref h0, v_pickerOfNet, v_tallyOfNet])), (q0, .inr (5, [.int Q_side, .int Q_height, .ref q1, .ref q2, .ref q3])), (q1, .inl (cI, 81, .inl Q_cell)), (q2, .inl (cI, 9, .inl Q_taken)), (q3, .inl (cI, 512, .inl Q_ways)), (h0, .inr (2, [.ref n0, .ref h1])), (h1, .inl (cI, 4096, .inl H_inside_0))]) (rest := []) hx hb hml hg hown hK hA hI (kX3_numberedRoads l D cI cJ cZ n0 n1 n2 n3 n4 n5 n6 N_postCount N_roadCount N_first N_second N_number N_allowed N_at N_beside  o7 ho7) kvX3_numberedRoads wL_RX7_52 ⟨Nat.le_of_ble_eq_true rfl, Nat.le_of_ble_eq_true rfl⟩ rfl rfl [1, 2, 3, 4, 5, 6, 7] [0, 8, 9, 10, 11, 12, 13] rfl rfl rfl rfl (by decide) rfl rfl hl.1 (Nat.le_of_ble_eq_true rfl) dX7_full_73 ⟨Nat.le_of_ble_eq_true rfl, Nat.le_of_ble_eq_true rfl⟩ (fun r u H locs hp hI => ?_)
    replace hp : r = o7 := hp
    rw [hp]
    clear hp
    replace hI : WI D A s.heap [(x0, .inr (7, [.ref n0, .ref q0, .ref h0, v_pickerOfNet, v_tallyOfNet])), (n0, .inr (3, [.int N_postCount, .int N_roadCount, .ref n1, .ref n2, .ref n3, .ref n4, .ref n5, .ref n6])), (n1, .inl (cI, 24, .inl N_first)), (n2, .inl (cI, 24, .inl N_second)), (n3, .inl (cI, 24, .inl N_number)), (n4, .inl (cI, 24, .inl N_allowed)), (n5, .inl (cI, 12, .inl N_at)), (n6, .inl (cI, 24, .inl N_beside)), (q0, .inr (5, [.int Q_side, .int Q_height, .ref q1, .ref q2, .ref q3])), (q1, .inl (cI, 81, .inl Q_cell)), (q2, .inl (cI, 9, .inl Q_taken)), (q3, .inl (cI, 512, .inl Q_ways)), (h0, .inr (2, [.ref n0, .ref h1])), (h1, .inl (cI, 4096, .inl H_inside_0))] H locs := hI.perm [0, 7, 8, 9, 10, 11, 12, 13, 1, 2, 3, 4, 5, 6] rfl rfl
    replace hf := Option.some.inj hf
    subst hf
    replace hM : (o7, H_inside_0) = out := hM
    subst hM
    refine W.widen (k := 0) (n := 0) (Nat.le_of_ble_eq_true rfl) (Nat.le_of_ble_eq_true rfl) ?_
    replace hI := hI.perm (w2 := [(x0, .inr (7, [.ref n0, .ref q0, .ref h0, v_pickerOfNet, v_tallyOfNet])), (n0, .inr (3, [.int N_postCount, .int N_roadCount, .ref n1, .ref n2, .ref n3, .ref n4, .ref n5, .ref n6])), (n1, .inl (cI, 24, .inl N_first)), (n2, .inl (cI, 24, .inl N_second)), (n3, .inl (cI, 24, .inl N_number)), (n4, .inl (cI, 24, .inl N_allowed)), (n5, .inl (cI, 12, .inl N_at)), (n6, .inl (cI, 24, .inl N_beside)), (q0, .inr (5, [.int Q_side, .int Q_height, .ref q1, .ref q2, .ref q3])), (q1, .inl (cI, 81, .inl Q_cell)), (q2, .inl (cI, 9, .inl Q_taken)), (q3, .inl (cI, 512, .inl Q_ways)), (h0, .inr (2, [.ref n0, .ref h1])), (h1, .inl (cI, 4096, .inl H_inside_0))]) [0, 1, 2, 3, 4, 5, 6, 7, 8, 9, 10, 11, 12, 13] rfl rfl
    exact rt_i (u := ()) hx hb hr hlocks rfl hI hAe rfl dX7_full_76
  replace hf := ite_f hc3 hf
  have hn0 := lv_neT (a := 0) hc0 (by decide)
  have hn1 := lv_neT (a := 1) hc1 (by decide)
  have hn2 := lv_neT (a := 2) hc2 (by decide)
  have hn3 := lv_neT (a := 3) hc3 (by decide)
  refine lv_tableOut (tgt := 77) hx hb dX7_full_1 (by omega) (by decide) ?_
  refine lv_bipush (v := -2) hx hb dX7_full_77 (by decide) ?_
  replace hf := Option.some.inj hf
  subst hf
  replace hM : ((-2 : Int32), H_inside_0) = out := hM
  subst hM
  refine W.widen (k := 0) (n := 0) (Nat.le_of_ble_eq_true rfl) (Nat.le_of_ble_eq_true rfl) ?_
  replace hI := hI.perm (w2 := [(x0, .inr (7, [.ref n0, .ref q0, .ref h0, v_pickerOfNet, v_tallyOfNet])), (n0, .inr (3, [.int N_postCount, .int N_roadCount, .ref n1, .ref n2, .ref n3, .ref n4, .ref n5, .ref n6])), (n1, .inl (cI, 24, .inl N_first)), (n2, .inl (cI, 24, .inl N_second)), (n3, .inl (cI, 24, .inl N_number)), (n4, .inl (cI, 24, .inl N_allowed)), (n5, .inl (cI, 12, .inl N_at)), (n6, .inl (cI, 24, .inl N_beside)), (q0, .inr (5, [.int Q_side, .int Q_height, .ref q1, .ref q2, .ref q3])), (q1, .inl (cI, 81, .inl Q_cell)), (q2, .inl (cI, 9, .inl Q_taken)), (q3, .inl (cI, 512, .inl Q_ways)), (h0, .inr (2, [.ref n0, .ref h1])), (h1, .inl (cI, 4096, .inl H_inside_0))]) [0, 1, 2, 3, 4, 5, 6, 7, 8, 9, 10, 11, 12, 13] rfl rfl
  exact rt_i (u := ()) hx hb hr hlocks rfl hI hAe rfl dX7_full_79
set_option maxHeartbeats 4000000 in
set_option maxRecDepth 100000 in
theorem kX7_full_n (l : Launch) (D : va_G) (cI cJ cZ : ClassId) (x0 n0 n1 n2 n3 n4 n5 n6 q0 q1 q2 q3 : Nat) (v_pickerOfNet : Value) (v_tallyOfNet : Value) (N_postCount : Int32) (N_roadCount : Int32) (N_first : Nat → Int32) (N_second : Nat → Int32) (N_number : Nat → Int32) (N_allowed : Nat → Int32) (N_at : Nat → Int32) (N_beside : Nat → Int32) (Q_side : Int32) (Q_height : Int32) (Q_cell : Nat → Int32) (Q_taken : Nat → Int32) (Q_ways : Nat → Int32) (a1 : Int32) (out : Int32 × (Nat → Int32)) (hf : FX7_full (fun _ => 0) N_postCount N_roadCount N_first N_second N_number N_allowed N_at N_beside a1 = some out) : MI l yX7_full (Cond.code yX7_full cX7_full 2 (some .int) :: GW) { frames := 6, cells := 2, slots := 4098, locals := 132 } D cI cJ cZ [.ref x0, .int a1] [(x0, .inr (7, [.ref n0, .ref q0, .null, v_pickerOfNet, v_tallyOfNet])), (n0, .inr (3, [.int N_postCount, .int N_roadCount, .ref n1, .ref n2, .ref n3, .ref n4, .ref n5, .ref n6])), (n1, .inl (cI, 24, .inl N_first)), (n2, .inl (cI, 24, .inl N_second)), (n3, .inl (cI, 24, .inl N_number)), (n4, .inl (cI, 24, .inl N_allowed)), (n5, .inl (cI, 12, .inl N_at)), (n6, .inl (cI, 24, .inl N_beside)), (q0, .inr (5, [.int Q_side, .int Q_height, .ref q1, .ref q2, .ref q3])), (q1, .inl (cI, 81, .inl Q_cell)), (q2, .inl (cI, 9, .inl Q_taken)), (q3, .inl (cI, 512, .inl Q_ways))] (fun r (_ : Option (Nat × Nat)) => r = out.1) (fun (u : Option (Nat × Nat)) => u.elim [(x0, .inr (7, [.ref n0, .ref q0, .null, v_pickerOfNet, v_tallyOfNet])), (n0, .inr (3, [.int N_postCount, .int N_roadCount, .ref n1, .ref n2, .ref n3, .ref n4, .ref n5, .ref n6])), (n1, .inl (cI, 24, .inl N_first)), (n2, .inl (cI, 24, .inl N_second)), (n3, .inl (cI, 24, .inl N_number)), (n4, .inl (cI, 24, .inl N_allowed)), (n5, .inl (cI, 12, .inl N_at)), (n6, .inl (cI, 24, .inl N_beside)), (q0, .inr (5, [.int Q_side, .int Q_height, .ref q1, .ref q2, .ref q3])), (q1, .inl (cI, 81, .inl Q_cell)), (q2, .inl (cI, 9, .inl Q_taken)), (q3, .inl (cI, 512, .inl Q_ways))] (fun q => [(x0, .inr (7, [.ref n0, .ref q0, .ref q.1, v_pickerOfNet, v_tallyOfNet])), (n0, .inr (3, [.int N_postCount, .int N_roadCount, .ref n1, .ref n2, .ref n3, .ref n4, .ref n5, .ref n6])), (n1, .inl (cI, 24, .inl N_first)), (n2, .inl (cI, 24, .inl N_second)), (n3, .inl (cI, 24, .inl N_number)), (n4, .inl (cI, 24, .inl N_allowed)), (n5, .inl (cI, 12, .inl N_at)), (n6, .inl (cI, 24, .inl N_beside)), (q0, .inr (5, [.int Q_side, .int Q_height, .ref q1, .ref q2, .ref q3])), (q1, .inl (cI, 81, .inl Q_cell)), (q2, .inl (cI, 9, .inl Q_taken)), (q3, .inl (cI, 512, .inl Q_ways)), (q.1, .inr (2, [.ref n0, .ref q.2])), (q.2, .inl (cI, 4096, .inl out.2))])) := by
  intro sz
  refine Met.ofW (cc := cX7_full) (maxL := 2) (ret := (some .int)) (by decide +kernel) rfl ?_
  intro p e s m args below meth c s₁ B hml hv
  obtain ⟨rfl, hsz, hP, hK, hD0⟩ := hv
  have hx := B.exec
  have hb := B.bytes
  have hr := B.returns
  have hlocks := B.notSynchronized
  have hg : ∀ w ∈ GW, w.before _ s = true := fun w h => atoms_spec (ws := Cond.code yX7_full cX7_full 2 (some .int) :: GW) B.pre w (List.mem_cons_of_mem _ h)
  have hown : s.vm.findClass RX7 = some m.cls := findClass_of_methodNamed B.named
  subst hsz
  obtain ⟨A, hAe⟩ : ∃ A, A = va_A [(x0, .inr (7, [.ref n0, .ref q0, .null, v_pickerOfNet, v_tallyOfNet])), (n0, .inr (3, [.int N_postCount, .int N_roadCount, .ref n1, .ref n2, .ref n3, .ref n4, .ref n5, .ref n6])), (n1, .inl (cI, 24, .inl N_first)), (n2, .inl (cI, 24, .inl N_second)), (n3, .inl (cI, 24, .inl N_number)), (n4, .inl (cI, 24, .inl N_allowed)), (n5, .inl (cI, 12, .inl N_at)), (n6, .inl (cI, 24, .inl N_beside)), (q0, .inr (5, [.int Q_side, .int Q_height, .ref q1, .ref q2, .ref q3])), (q1, .inl (cI, 81, .inl Q_cell)), (q2, .inl (cI, 9, .inl Q_taken)), (q3, .inl (cI, 512, .inl Q_ways))] s.heap.size := ⟨_, rfl⟩
  have hA : ∀ q : Nat, s.heap.size ≤ q → A q := fun q h => by rw [hAe]; exact Or.inr h
  have hI : WI D A s.heap [(x0, .inr (7, [.ref n0, .ref q0, .null, v_pickerOfNet, v_tallyOfNet])), (n0, .inr (3, [.int N_postCount, .int N_roadCount, .ref n1, .ref n2, .ref n3, .ref n4, .ref n5, .ref n6])), (n1, .inl (cI, 24, .inl N_first)), (n2, .inl (cI, 24, .inl N_second)), (n3, .inl (cI, 24, .inl N_number)), (n4, .inl (cI, 24, .inl N_allowed)), (n5, .inl (cI, 12, .inl N_at)), (n6, .inl (cI, 24, .inl N_beside)), (q0, .inr (5, [.int Q_side, .int Q_height, .ref q1, .ref q2, .ref q3])), (q1, .inl (cI, 81, .inl Q_cell)), (q2, .inl (cI, 9, .inl Q_taken)), (q3, .inl (cI, 512, .inl Q_ways))] s.heap [] := ⟨hP, by rw [hAe]; exact hD0.self, va_S.rf⟩
  have hl := lv_entry [.ref x0, .int a1] (n := 2) (Nat.le_of_ble_eq_true rfl)
  rw [lg_entry_eq]
  generalize (lg_sl [.ref x0, .int a1] ++ List.replicate (2 - (lg_sl [.ref x0, .int a1]).length) Slot.unset).toArray = ls at hl ⊢
  replace hl : lv_has ls 2 [(0, .ref x0), (1, .int a1)] := hl
  obtain ⟨x, hf, hM⟩ : ∃ x, FX7_full (fun _ => 0) N_postCount N_roadCount N_first N_second N_number N_allowed N_at N_beside a1 = some x ∧ x = out := ⟨out, hf, rfl⟩
  refine lv_iload_n hx hb dX7_full_0 rfl (lv_at hl 1 rfl) ?_
  by_cases hc0 : a1 = (0 : Int32)
  · replace hf := ite_t hc0 hf
    refine lv_tableIn (tgt := 32) hx hb dX7_full_1 (by rw [hc0]; decide) (by rw [hc0]; decide) (by rw [hc0]; rfl) (by decide) ?_
    refine lv_aload_n hx hb dX7_full_32 rfl (lv_at hl 0 rfl) ?_
    refine w_get hx hb hg hown hK hI iX7 0 rfl rfl 0 (by decide) wF_RX7_12 rfl dX7_full_33 ?_
    obtain ⟨o1, ho1, hf⟩ := bd_e hf
    refine w_Vi (wc := (wN cI cJ cZ n0 n1 n2 n3 n4 n5 n6 N_postCount N_roadCount N_first N_second N_number N_allowed N_at N_beside)) (wr := [(x0, .inr (7, [.ref n0, .ref q0, .null, v_pickerOfNet, v_tallyOfNet])), (q0, .inr (5, [.int Q_side, .int Q_height, .ref q1, .ref q2, .ref q3])), (q1, .inl (cI, 81, .inl Q_cell)), (q2, .inl (cI, 9, .inl Q_taken)), (q3, .inl (cI, 512, .inl Q_ways))]) (rest := []) hx hb hml hg hown hK hA hI (kX3_fullest l D cI cJ cZ n0 n1 n2 n3 n4 n5 n6 N_postCount N_roadCount N_first N_second N_number N_allowed N_at N_beside  o1 ho1) kvX3_fullest wL_RX7_97 ⟨Nat.le_of_ble_eq_true rfl, Nat.le_of_ble_eq_true rfl⟩ rfl rfl [1, 2, 3, 4, 5, 6, 7] [0, 8, 9, 10, 11] rfl rfl rfl rfl (by decide) rfl rfl hl.1 (Nat.le_of_ble_eq_true rfl) dX7_full_36 ⟨Nat.le_of_ble_eq_true rfl, Nat.le_of_ble_eq_true rfl⟩ (fun r u H locs hp hI => ?_)
    replace hp : r = o1 := hp
    rw [hp]
    clear hp
    replace hI : WI D A s.heap [(x0, .inr (7, [.ref n0, .ref q0, .null, v_pickerOfNet, v_tallyOfNet])), (n0, .inr (3, [.int N_postCount, .int N_roadCount, .ref n1, .ref n2, .ref n3, .ref n4, .ref n5, .ref n6])), (n1, .inl (cI, 24, .inl N_first)), (n2, .inl (cI, 24, .inl N_second)), (n3, .inl (cI, 24, .inl N_number)), (n4, .inl (cI, 24, .inl N_allowed)), (n5, .inl (cI, 12, .inl N_at)), (n6, .inl (cI, 24, .inl N_beside)), (q0, .inr (5, [.int Q_side, .int Q_height, .ref q1, .ref q2, .ref q3])), (q1, .inl (cI, 81, .inl Q_cell)), (q2, .inl (cI, 9, .inl Q_taken)), (q3, .inl (cI, 512, .inl Q_ways))] H locs := hI.perm [0, 5, 6, 7, 8, 9, 10, 11, 1, 2, 3, 4] rfl rfl
    replace hf := Option.some.inj hf
    subst hf
    replace hM : (o1, (fun _ => 0)) = out := hM
    subst hM
    refine W.widen (k := 2) (n := 4098) (Nat.le_of_ble_eq_true rfl) (Nat.le_of_ble_eq_true rfl) ?_
    replace hI := hI.perm (w2 := [(x0, .inr (7, [.ref n0, .ref q0, .null, v_pickerOfNet, v_tallyOfNet])), (n0, .inr (3, [.int N_postCount, .int N_roadCount, .ref n1, .ref n2, .ref n3, .ref n4, .ref n5, .ref n6])), (n1, .inl (cI, 24, .inl N_first)), (n2, .inl (cI, 24, .inl N_second)), (n3, .inl (cI, 24, .inl N_number)), (n4, .inl (cI, 24, .inl N_allowed)), (n5, .inl (cI, 12, .inl N_at)), (n6, .inl (cI, 24, .inl N_beside)), (q0, .inr (5, [.int Q_side, .int Q_height, .ref q1, .ref q2, .ref q3])), (q1, .inl (cI, 81, .inl Q_cell)), (q2, .inl (cI, 9, .inl Q_taken)), (q3, .inl (cI, 512, .inl Q_ways))]) [0, 1, 2, 3, 4, 5, 6, 7, 8, 9, 10, 11] rfl rfl
    exact rt_i (u := none) hx hb hr hlocks rfl hI hAe rfl dX7_full_39
  replace hf := ite_f hc0 hf
  by_cases hc1 : a1 = (1 : Int32)
  · replace hf := ite_t hc1 hf
    refine lv_tableIn (tgt := 40) hx hb dX7_full_1 (by rw [hc1]; decide) (by rw [hc1]; decide) (by rw [hc1]; rfl) (by decide) ?_
    refine lv_aload_n hx hb dX7_full_40 rfl (lv_at hl 0 rfl) ?_
    refine w_get hx hb hg hown hK hI iX7 0 rfl rfl 0 (by decide) wF_RX7_12 rfl dX7_full_41 ?_
    obtain ⟨o2, ho2, hf⟩ := bd_e hf
    refine w_Vi (wc := (wN cI cJ cZ n0 n1 n2 n3 n4 n5 n6 N_postCount N_roadCount N_first N_second N_number N_allowed N_at N_beside)) (wr := [(x0, .inr (7, [.ref n0, .ref q0, .null, v_pickerOfNet, v_tallyOfNet])), (q0, .inr (5, [.int Q_side, .int Q_height, .ref q1, .ref q2, .ref q3])), (q1, .inl (cI, 81, .inl Q_cell)), (q2, .inl (cI, 9, .inl Q_taken)), (q3, .inl (cI, 512, .inl Q_ways))]) (rest := []) hx hb hml hg hown hK hA hI (kX3_fullest l D cI cJ cZ n0 n1 n2 n3 n4 n5 n6 N_postCount N_roadCount N_first N_second N_number N_allowed N_at N_beside  o2 ho2) kvX3_fullest wL_RX7_97 ⟨Nat.le_of_ble_eq_true rfl, Nat.le_of_ble_eq_true rfl⟩ rfl rfl [1, 2, 3, 4, 5, 6, 7] [0, 8, 9, 10, 11] rfl rfl rfl rfl (by decide) rfl rfl hl.1 (Nat.le_of_ble_eq_true rfl) dX7_full_44 ⟨Nat.le_of_ble_eq_true rfl, Nat.le_of_ble_eq_true rfl⟩ (fun r u H locs hp hI => ?_)
    replace hp : r = o2 := hp
    rw [hp]
    clear hp
    replace hI : WI D A s.heap [(x0, .inr (7, [.ref n0, .ref q0, .null, v_pickerOfNet, v_tallyOfNet])), (n0, .inr (3, [.int N_postCount, .int N_roadCount, .ref n1, .ref n2, .ref n3, .ref n4, .ref n5, .ref n6])), (n1, .inl (cI, 24, .inl N_first)), (n2, .inl (cI, 24, .inl N_second)), (n3, .inl (cI, 24, .inl N_number)), (n4, .inl (cI, 24, .inl N_allowed)), (n5, .inl (cI, 12, .inl N_at)), (n6, .inl (cI, 24, .inl N_beside)), (q0, .inr (5, [.int Q_side, .int Q_height, .ref q1, .ref q2, .ref q3])), (q1, .inl (cI, 81, .inl Q_cell)), (q2, .inl (cI, 9, .inl Q_taken)), (q3, .inl (cI, 512, .inl Q_ways))] H locs := hI.perm [0, 5, 6, 7, 8, 9, 10, 11, 1, 2, 3, 4] rfl rfl
    refine lv_aload_n hx hb dX7_full_47 rfl (lv_at hl 0 rfl) ?_
    refine w_Vr (wc := [(x0, .inr (7, [.ref n0, .ref q0, .null, v_pickerOfNet, v_tallyOfNet])), (n0, .inr (3, [.int N_postCount, .int N_roadCount, .ref n1, .ref n2, .ref n3, .ref n4, .ref n5, .ref n6])), (n1, .inl (cI, 24, .inl N_first)), (n2, .inl (cI, 24, .inl N_second)), (n3, .inl (cI, 24, .inl N_number)), (n4, .inl (cI, 24, .inl N_allowed)), (n5, .inl (cI, 12, .inl N_at)), (n6, .inl (cI, 24, .inl N_beside)), (q0, .inr (5, [.int Q_side, .int Q_height, .ref q1, .ref q2, .ref q3])), (q1, .inl (cI, 81, .inl Q_cell)), (q2, .inl (cI, 9, .inl Q_taken)), (q3, .inl (cI, 512, .inl Q_ways))]) (wr := []) (rest := [.int o2]) hx hb hml hg hown hK hA hI (kRX7_heapsHere_n l D cI cJ cZ x0 n0 n1 n2 n3 n4 n5 n6 q0 q1 q2 q3 (v_pickerOfNet) (v_tallyOfNet) N_postCount N_roadCount N_first N_second N_number N_allowed N_at N_beside Q_side Q_height Q_cell Q_taken Q_ways) kvX7_heapsHere wL_RX7_129 ⟨Nat.le_of_ble_eq_true rfl, Nat.le_of_ble_eq_true rfl⟩ rfl rfl [0, 1, 2, 3, 4, 5, 6, 7, 8, 9, 10, 11] [] rfl rfl rfl rfl (by decide) rfl rfl hl.1 (Nat.le_of_ble_eq_true rfl) dX7_full_48 ⟨Nat.le_of_ble_eq_true rfl, Nat.le_of_ble_eq_true rfl⟩ (fun u ra H locs hp hI => ?_)
    obtain ⟨b3, b4⟩ := u
    replace hp : ra = b3 := hp
    rw [hp]
    clear hp
    replace hI : WI D A s.heap [(x0, .inr (7, [.ref n0, .ref q0, .ref b3, v_pickerOfNet, v_tallyOfNet])), (n0, .inr (3, [.int N_postCount, .int N_roadCount, .ref n1, .ref n2, .ref n3, .ref n4, .ref n5, .ref n6])), (n1, .inl (cI, 24, .inl N_first)), (n2, .inl (cI, 24, .inl N_second)), (n3, .inl (cI, 24, .inl N_number)), (n4, .inl (cI, 24, .inl N_allowed)), (n5, .inl (cI, 12, .inl N_at)), (n6, .inl (cI, 24, .inl N_beside)), (q0, .inr (5, [.int Q_side, .int Q_height, .ref q1, .ref q2, .ref q3])), (q1, .inl (cI, 81, .inl Q_cell)), (q2, .inl (cI, 9, .inl Q_taken)), (q3, .inl (cI, 512, .inl Q_ways)), (b3, .inr (2, [.ref n0, .ref b4])), (b4, .inl (cI, 4096, .inl (fun _ => 0)))] H locs := hI
    obtain ⟨o5, ho5, hf⟩ := bd_e hf
    refine w_Vi (wc := (wH cI cJ cZ b3 b4 n0 n1 n2 n3 n4 n5 n6 (fun _ => 0) N_postCount N_roadCount N_first N_second N_number N_allowed N_at N_beside)) (wr := [(x0, .inr (7, [.ref n0, .ref q0, .ref b3, v_pickerOfNet, v_tallyOfNet])), (q0, .inr (5, [.int Q_side, .int Q_height, .ref q1, .ref q2, .ref q3])), (q1, .inl (cI, 81, .inl Q_cell)), (q2, .inl (cI, 9, .inl Q_taken)), (q3, .inl (cI, 512, .inl Q_ways))]) (rest := [.int o2]) hx hb hml hg hown hK hA hI (kX2_greatestNeed l D cI cJ cZ b3 b4 n0 n1 n2 n3 n4 n5 n6 (fun _ => 0) N_postCount N_roadCount N_first N_second N_number N_allowed N_at N_beside  o5 ho5) kvX2_greatestNeed wL_RX7_133 ⟨Nat.le_of_ble_eq_true rfl, Nat.le_of_ble_eq_true rfl⟩ rfl rfl [12, 13, 1, 2, 3, 4, 5, 6, 7] [0, 8, 9, 10, 11] rfl rfl rfl rfl (by decide) rfl rfl hl.1 (Nat.le_of_ble_eq_true rfl) dX7_full_51 ⟨Nat.le_of_ble_eq_true rfl, Nat.le_of_ble_eq_true rfl⟩ (fun r u H locs hp hI => ?_)
    replace hp : r = o5.1 := hp
    rw [hp]
    clear hp
    replace hI : WI D A s.heap [(x0, .inr (7, [.ref n0, .ref q0, .ref b3, v_pickerOfNet, v_tallyOfNet])), (n0, .inr (3, [.int N_postCount, .int N_roadCount, .ref n1, .ref n2, .ref n3, .ref n4, .ref n5, .ref n6])), (n1, .inl (cI, 24, .inl N_first)), (n2, .inl (cI, 24, .inl N_second)), (n3, .inl (cI, 24, .inl N_number)), (n4, .inl (cI, 24, .inl N_allowed)), (n5, .inl (cI, 12, .inl N_at)), (n6, .inl (cI, 24, .inl N_beside)), (q0, .inr (5, [.int Q_side, .int Q_height, .ref q1, .ref q2, .ref q3])), (q1, .inl (cI, 81, .inl Q_cell)), (q2, .inl (cI, 9, .inl Q_taken)), (q3, .inl (cI, 512, .inl Q_ways)), (b3, .inr (2, [.ref n0, .ref b4])), (b4, .inl (cI, 4096, .inl o5.2))] H locs := hI.perm [0, 7, 8, 9, 10, 11, 12, 13, 1, 2, 3, 4, 5, 6] rfl rfl
    refine va_mmax hx hb (hml.trans hl.1.symm) hown (hg _ wL_RX7_138) (hg _ wT_yJ9_max_7cf53) (hg _ wI_RJ9) (hg _ wC_yJ9_max_7cf53) (Nat.le_of_ble_eq_true rfl) (Nat.le_of_ble_eq_true rfl) (Nat.le_of_ble_eq_true rfl) (Nat.le_of_ble_eq_true rfl) dX7_full_54 ?_
    refine lv_topi (fun x6 ex6 => ?_)
    replace hf := bnd_e hf x6 ex6
    replace hf := Option.some.inj hf
    subst hf
    replace hM : (x6, o5.2) = out := hM
    subst hM
    refine W.widen (k := 2) (n := 4098) (Nat.le_of_ble_eq_true rfl) (Nat.le_of_ble_eq_true rfl) ?_
    replace hI := hI.perm (w2 := [(x0, .inr (7, [.ref n0, .ref q0, .ref b3, v_pickerOfNet, v_tallyOfNet])), (n0, .inr (3, [.int N_postCount, .int N_roadCount, .ref n1, .ref n2, .ref n3, .ref n4, .ref n5, .ref n6])), (n1, .inl (cI, 24, .inl N_first)), (n2, .inl (cI, 24, .inl N_second)), (n3, .inl (cI, 24, .inl N_number)), (n4, .inl (cI, 24, .inl N_allowed)), (n5, .inl (cI, 12, .inl N_at)), (n6, .inl (cI, 24, .inl N_beside)), (q0, .inr (5, [.int Q_side, .int Q_height, .ref q1, .ref q2, .ref q3])), (q1, .inl (cI, 81, .inl Q_cell)), (q2, .inl (cI, 9, .inl Q_taken)), (q3, .inl (cI, 512, .inl Q_ways)), (b3, .inr (2, [.ref n0, .ref b4])), (b4, .inl (cI, 4096, .inl o5.2))]) [0, 1, 2, 3, 4, 5, 6, 7, 8, 9, 10, 11, 12, 13] rfl rfl
    exact rt_i (u := (some (b3, b4))) hx hb hr hlocks rfl hI hAe rfl dX7_full_57
  replace hf := ite_f hc1 hf
  by_cases hc2 : a1 = (2 : Int32)
  · replace hf := ite_t hc2 hf
    refine lv_tableIn (tgt := 58) hx hb dX7_full_1 (by rw [hc2]; decide) (by rw [hc2]; decide) (by rw [hc2]; rfl) (by decide) ?_
    refine lv_aload_n hx hb dX7_full_58 rfl (lv_at hl 0 rfl) ?_
    refine w_get hx hb hg hown hK hI iX7 0 rfl rfl 0 (by decide) wF_RX7_12 rfl dX7_full_59 ?_
    obtain ⟨o7, ho7, hf⟩ := bd_e hf
    refine w_Vi (wc := (wN cI cJ cZ n0 n1 n2 n3 n4 n5 n6 N_postCount N_roadCount N_first N_second N_number N_allowed N_at N_beside)) (wr := [(x0, .inr (7, [.ref n0, .ref q0, .null, v_pickerOfNet, v_tallyOfNet])), (q0, .inr (5, [.int Q_side, .int Q_height, .ref q1, .ref q2, .ref q3])), (q1, .inl (cI, 81, .inl Q_cell)), (q2, .inl (cI, 9, .inl Q_taken)), (q3, .inl (cI, 512, .inl Q_ways))]) (rest := []) hx hb hml hg hown hK hA hI (kX3_isPlain l D cI cJ cZ n0 n1 n2 n3 n4 n5 n6 N_postCount N_roadCount N_first N_second N_number N_allowed N_at N_beside  o7 ho7) kvX3_isPlain wL_RX7_100 ⟨Nat.le_of_ble_eq_true rfl, Nat.le_of_ble_eq_true rfl⟩ rfl rfl [1, 2, 3, 4, 5, 6, 7] [0, 8, 9, 10, 11] rfl rfl rfl rfl (by decide) rfl rfl hl.1 (Nat.le_of_ble_eq_true rfl) dX7_full_62 ⟨Nat.le_of_ble_eq_true rfl, Nat.le_of_ble_eq_true rfl⟩ (fun r u H locs hp hI => ?_)
    replace hp : r = o7 := hp
    rw [hp]
    clear hp
    replace hI : WI D A s.heap [(x0, .inr (7, [.ref n0, .ref q0, .null, v_pickerOfNet, v_tallyOfNet])), (n0, .inr (3, [.int N_postCount, .int N_roadCount, .ref n1, .ref n2, .ref n3, .ref n4, .ref n5, .ref n6])), (n1, .inl (cI, 24, .inl N_first)), (n2, .inl (cI, 24, .inl N_second)), (n3, .inl (cI, 24, .inl N_number)), (n4, .inl (cI, 24, .inl N_allowed)), (n5, .inl (cI, 12, .inl N_at)), (n6, .inl (cI, 24, .inl N_beside)), (q0, .inr (5, [.int Q_side, .int Q_height, .ref q1, .ref q2, .ref q3])), (q1, .inl (cI, 81, .inl Q_cell)), (q2, .inl (cI, 9, .inl Q_taken)), (q3, .inl (cI, 512, .inl Q_ways))] H locs := hI.perm [0, 5, 6, 7, 8, 9, 10, 11, 1, 2, 3, 4] rfl rfl
    obtain ⟨x8, hx8, hf⟩ := bd_e hf
    refine w_S (rest := []) hx hb hml hg hown hK (kX7_asBit l D cI cJ cZ o7 x8 hx8) ksX7_asBit wL_RX7_115 ⟨Nat.le_of_ble_eq_true rfl, Nat.le_of_ble_eq_true rfl⟩ ⟨rfl, rfl⟩ rfl rfl hl.1 (Nat.le_of_ble_eq_true rfl) dX7_full_65 ⟨Nat.le_of_ble_eq_true rfl, Nat.le_of_ble_eq_true rfl⟩ ?_
    replace hf := Option.some.inj hf
    subst hf
    replace hM : (x8, (fun _ => 0)) = out := hM
    subst hM
    refine W.widen (k := 2) (n := 4098) (Nat.le_of_ble_eq_true rfl) (Nat.le_of_ble_eq_true rfl) ?_
    replace hI := hI.perm (w2 := [(x0, .inr (7, [.ref n0, .ref q0, .null, v_pickerOfNet, v_tallyOfNet])), (n0, .inr (3, [.int N_postCount, .int N_roadCount, .ref n1, .ref n2, .ref n3, .ref n4, .ref n5, .ref n6])), (n1, .inl (cI, 24, .inl N_first)), (n2, .inl (cI, 24, .inl N_second)), (n3, .inl (cI, 24, .inl N_number)), (n4, .inl (cI, 24, .inl N_allowed)), (n5, .inl (cI, 12, .inl N_at)), (n6, .inl (cI, 24, .inl N_beside)), (q0, .inr (5, [.int Q_side, .int Q_height, .ref q1, .ref q2, .ref q3])), (q1, .inl (cI, 81, .inl Q_cell)), (q2, .inl (cI, 9, .inl Q_taken)), (q3, .inl (cI, 512, .inl Q_ways))]) [0, 1, 2, 3, 4, 5, 6, 7, 8, 9, 10, 11] rfl rfl
    exact rt_i (u := none) hx hb hr hlocks rfl hI hAe rfl dX7_full_68
  replace hf := ite_f hc2 hf
  by_cases hc3 : a1 = (3 : Int32)
  · replace hf := ite_t hc3 hf
    refine lv_tableIn (tgt := 69) hx hb dX7_full_1 (by rw [hc3]; decide) (by rw [hc3]; decide) (by rw [hc3]; rfl) (by decide) ?_
    refine lv_aload_n hx hb dX7_full_69 rfl (lv_at hl 0 rfl) ?_
    refine w_get hx hb hg hown hK hI iX7 0 rfl rfl 0 (by decide) wF_RX7_12 rfl dX7_full_70 ?_
    obtain ⟨o9, ho9, hf⟩ := bd_e hf
    refine w_Vi (wc := (wN cI cJ cZ n0 n1 n2 n3 n4 n5 n6 N_postCount N_roadCount N_first N_second N_number N_allowed N_at N_beside)) (wr := [(x0, .inr (7, [.ref n0, .ref q0, .null, v_pickerOfNet, v_tallyOfNet])), (q0, .inr (5, [.int Q_side, .int Q_height, .ref q1, .ref q2, .ref q3])), (q1, .inl (cI, 81, .inl Q_cell)), (q2, .inl (cI, 9, .inl Q_taken)), (q3, .inl (cI, 512, .inl Q_ways))]) (rest := []) hx hb hml hg hown hK hA hI (kX3_numberedRoads l D cI cJ cZ n0 n1 n2 n3 n4 n5 n6 N_postCount N_roadCount N_first N_second N_number N_allowed N_at N_beside  o9 ho9) kvX3_numberedRoads wL_RX7_52 ⟨Nat.le_of_ble_eq_true rfl, Nat.le_of_ble_eq_true rfl⟩ rfl rfl [1, 2, 3, 4, 5, 6, 7] [0, 8, 9, 10, 11] rfl rfl rfl rfl (by decide) rfl rfl hl.1 (Nat.le_of_ble_eq_true rfl) dX7_full_73 ⟨Nat.le_of_ble_eq_true rfl, Nat.le_of_ble_eq_true rfl⟩ (fun r u H locs hp hI => ?_)
    replace hp : r = o9 := hp
    rw [hp]
    clear hp
    replace hI : WI D A s.heap [(x0, .inr (7, [.ref n0, .ref q0, .null, v_pickerOfNet, v_tallyOfNet])), (n0, .inr (3, [.int N_postCount, .int N_roadCount, .ref n1, .ref n2, .ref n3, .ref n4, .ref n5, .ref n6])), (n1, .inl (cI, 24, .inl N_first)), (n2, .inl (cI, 24, .inl N_second)), (n3, .inl (cI, 24, .inl N_number)), (n4, .inl (cI, 24, .inl N_allowed)), (n5, .inl (cI, 12, .inl N_at)), (n6, .inl (cI, 24, .inl N_beside)), (q0, .inr (5, [.int Q_side, .int Q_height, .ref q1, .ref q2, .ref q3])), (q1, .inl (cI, 81, .inl Q_cell)), (q2, .inl (cI, 9, .inl Q_taken)), (q3, .inl (cI, 512, .inl Q_ways))] H locs := hI.perm [0, 5, 6, 7, 8, 9, 10, 11, 1, 2, 3, 4] rfl rfl
    replace hf := Option.some.inj hf
    subst hf
    replace hM : (o9, (fun _ => 0)) = out := hM
    subst hM
    refine W.widen (k := 2) (n := 4098) (Nat.le_of_ble_eq_true rfl) (Nat.le_of_ble_eq_true rfl) ?_
    replace hI := hI.perm (w2 := [(x0, .inr (7, [.ref n0, .ref q0, .null, v_pickerOfNet, v_tallyOfNet])), (n0, .inr (3, [.int N_postCount, .int N_roadCount, .ref n1, .ref n2, .ref n3, .ref n4, .ref n5, .ref n6])), (n1, .inl (cI, 24, .inl N_first)), (n2, .inl (cI, 24, .inl N_second)), (n3, .inl (cI, 24, .inl N_number)), (n4, .inl (cI, 24, .inl N_allowed)), (n5, .inl (cI, 12, .inl N_at)), (n6, .inl (cI, 24, .inl N_beside)), (q0, .inr (5, [.int Q_side, .int Q_height, .ref q1, .ref q2, .ref q3])), (q1, .inl (cI, 81, .inl Q_cell)), (q2, .inl (cI, 9, .inl Q_taken)), (q3, .inl (cI, 512, .inl Q_ways))]) [0, 1, 2, 3, 4, 5, 6, 7, 8, 9, 10, 11] rfl rfl
    exact rt_i (u := none) hx hb hr hlocks rfl hI hAe rfl dX7_full_76
  replace hf := ite_f hc3 hf
  have hn0 := lv_neT (a := 0) hc0 (by decide)
  have hn1 := lv_neT (a := 1) hc1 (by decide)
  have hn2 := lv_neT (a := 2) hc2 (by decide)
  have hn3 := lv_neT (a := 3) hc3 (by decide)
  refine lv_tableOut (tgt := 77) hx hb dX7_full_1 (by omega) (by decide) ?_
  refine lv_bipush (v := -2) hx hb dX7_full_77 (by decide) ?_
  replace hf := Option.some.inj hf
  subst hf
  replace hM : ((-2 : Int32), (fun _ => 0)) = out := hM
  subst hM
  refine W.widen (k := 2) (n := 4098) (Nat.le_of_ble_eq_true rfl) (Nat.le_of_ble_eq_true rfl) ?_
  replace hI := hI.perm (w2 := [(x0, .inr (7, [.ref n0, .ref q0, .null, v_pickerOfNet, v_tallyOfNet])), (n0, .inr (3, [.int N_postCount, .int N_roadCount, .ref n1, .ref n2, .ref n3, .ref n4, .ref n5, .ref n6])), (n1, .inl (cI, 24, .inl N_first)), (n2, .inl (cI, 24, .inl N_second)), (n3, .inl (cI, 24, .inl N_number)), (n4, .inl (cI, 24, .inl N_allowed)), (n5, .inl (cI, 12, .inl N_at)), (n6, .inl (cI, 24, .inl N_beside)), (q0, .inr (5, [.int Q_side, .int Q_height, .ref q1, .ref q2, .ref q3])), (q1, .inl (cI, 81, .inl Q_cell)), (q2, .inl (cI, 9, .inl Q_taken)), (q3, .inl (cI, 512, .inl Q_ways))]) [0, 1, 2, 3, 4, 5, 6, 7, 8, 9, 10, 11] rfl rfl
  exact rt_i (u := none) hx hb hr hlocks rfl hI hAe rfl dX7_full_79
theorem kvX7_least : CalV RX7 yX7_least cX7_least 1 (some .int) 0 := ⟨wC_yX7_least, wM_yX7_least, wS_yX7_least, wI_RX7, by decide +kernel⟩
noncomputable def FX7_least (P_can : Nat → Int32) (P_picked : Nat → Int32) (P_left : Nat → Int32) (N_postCount : Int32) (N_roadCount : Int32) (N_first : Nat → Int32) (N_second : Nat → Int32) (N_number : Nat → Int32) (N_allowed : Nat → Int32) (N_at : Nat → Int32) (N_beside : Nat → Int32) : Option (Int32 × (Nat → Int32) × (Nat → Int32) × (Nat → Int32)) :=
  if N_roadCount ≤ (12 : Int32) then ((FX4_fewestNumbers P_can P_left N_postCount N_roadCount N_first N_second N_at N_beside).bind (fun o1 => some (o1.1, o1.2.1, P_picked, o1.2.2))) else (some ((-2 : Int32), P_can, P_picked, P_left))
set_option maxHeartbeats 4000000 in
set_option maxRecDepth 100000 in
theorem kX7_least_s (l : Launch) (D : va_G) (cI cJ cZ : ClassId) (x0 n0 n1 n2 n3 n4 n5 n6 q0 q1 q2 q3 p0 p1 p2 p3 : Nat) (v_heapsOfNet : Value) (v_tallyOfNet : Value) (N_postCount : Int32) (N_roadCount : Int32) (N_first : Nat → Int32) (N_second : Nat → Int32) (N_number : Nat → Int32) (N_allowed : Nat → Int32) (N_at : Nat → Int32) (N_beside : Nat → Int32) (Q_side : Int32) (Q_height : Int32) (Q_cell : Nat → Int32) (Q_taken : Nat → Int32) (Q_ways : Nat → Int32) (P_can_0 : Nat → Int32) (P_picked_0 : Nat → Int32) (P_left_0 : Nat → Int32) (out : Int32 × (Nat → Int32) × (Nat → Int32) × (Nat → Int32)) (hf : FX7_least P_can_0 P_picked_0 P_left_0 N_postCount N_roadCount N_first N_second N_number N_allowed N_at N_beside = some out) : MI l yX7_least (Cond.code yX7_least cX7_least 1 (some .int) :: GW) { frames := 19, cells := 0, slots := 0, locals := 709 } D cI cJ cZ [.ref x0] [(x0, .inr (7, [.ref n0, .ref q0, v_heapsOfNet, .ref p0, v_tallyOfNet])), (n0, .inr (3, [.int N_postCount, .int N_roadCount, .ref n1, .ref n2, .ref n3, .ref n4, .ref n5, .ref n6])), (n1, .inl (cI, 24, .inl N_first)), (n2, .inl (cI, 24, .inl N_second)), (n3, .inl (cI, 24, .inl N_number)), (n4, .inl (cI, 24, .inl N_allowed)), (n5, .inl (cI, 12, .inl N_at)), (n6, .inl (cI, 24, .inl N_beside)), (q0, .inr (5, [.int Q_side, .int Q_height, .ref q1, .ref q2, .ref q3])), (q1, .inl (cI, 81, .inl Q_cell)), (q2, .inl (cI, 9, .inl Q_taken)), (q3, .inl (cI, 512, .inl Q_ways)), (p0, .inr (4, [.ref n0, .ref p1, .ref p2, .ref p3])), (p1, .inl (cI, 12, .inl P_can_0)), (p2, .inl (cI, 12, .inl P_picked_0)), (p3, .inl (cZ, 4096, .inl P_left_0))] (fun r (_ : Unit) => r = out.1) (fun (_ : Unit) => [(x0, .inr (7, [.ref n0, .ref q0, v_heapsOfNet, .ref p0, v_tallyOfNet])), (n0, .inr (3, [.int N_postCount, .int N_roadCount, .ref n1, .ref n2, .ref n3, .ref n4, .ref n5, .ref n6])), (n1, .inl (cI, 24, .inl N_first)), (n2, .inl (cI, 24, .inl N_second)), (n3, .inl (cI, 24, .inl N_number)), (n4, .inl (cI, 24, .inl N_allowed)), (n5, .inl (cI, 12, .inl N_at)), (n6, .inl (cI, 24, .inl N_beside)), (q0, .inr (5, [.int Q_side, .int Q_height, .ref q1, .ref q2, .ref q3])), (q1, .inl (cI, 81, .inl Q_cell)), (q2, .inl (cI, 9, .inl Q_taken)), (q3, .inl (cI, 512, .inl Q_ways)), (p0, .inr (4, [.ref n0, .ref p1, .ref p2, .ref p3])), (p1, .inl (cI, 12, .inl out.2.1)), (p2, .inl (cI, 12, .inl out.2.2.1)), (p3, .inl (cZ, 4096, .inl out.2.2.2))]) := by
  intro sz
  refine Met.ofW (cc := cX7_least) (maxL := 1) (ret := (some .int)) (by decide +kernel) rfl ?_
  intro p e s m args below meth c s₁ B hml hv
  obtain ⟨rfl, hsz, hP, hK, hD0⟩ := hv
  have hx := B.exec
  have hb := B.bytes
  have hr := B.returns
  have hlocks := B.notSynchronized
  have hg : ∀ w ∈ GW, w.before _ s = true := fun w h => atoms_spec (ws := Cond.code yX7_least cX7_least 1 (some .int) :: GW) B.pre w (List.mem_cons_of_mem _ h)
  have hown : s.vm.findClass RX7 = some m.cls := findClass_of_methodNamed B.named
  subst hsz
  obtain ⟨A, hAe⟩ : ∃ A, A = va_A [(x0, .inr (7, [.ref n0, .ref q0, v_heapsOfNet, .ref p0, v_tallyOfNet])), (n0, .inr (3, [.int N_postCount, .int N_roadCount, .ref n1, .ref n2, .ref n3, .ref n4, .ref n5, .ref n6])), (n1, .inl (cI, 24, .inl N_first)), (n2, .inl (cI, 24, .inl N_second)), (n3, .inl (cI, 24, .inl N_number)), (n4, .inl (cI, 24, .inl N_allowed)), (n5, .inl (cI, 12, .inl N_at)), (n6, .inl (cI, 24, .inl N_beside)), (q0, .inr (5, [.int Q_side, .int Q_height, .ref q1, .ref q2, .ref q3])), (q1, .inl (cI, 81, .inl Q_cell)), (q2, .inl (cI, 9, .inl Q_taken)), (q3, .inl (cI, 512, .inl Q_ways)), (p0, .inr (4, [.ref n0, .ref p1, .ref p2, .ref p3])), (p1, .inl (cI, 12, .inl P_can_0)), (p2, .inl (cI, 12, .inl P_picked_0)), (p3, .inl (cZ, 4096, .inl P_left_0))] s.heap.size := ⟨_, rfl⟩
  have hA : ∀ q : Nat, s.heap.size ≤ q → A q := fun q h => by rw [hAe]; exact Or.inr h
  have hI : WI D A s.heap [(x0, .inr (7, [.ref n0, .ref q0, v_heapsOfNet, .ref p0, v_tallyOfNet])), (n0, .inr (3, [.int N_postCount, .int N_roadCount, .ref n1, .ref n2, .ref n3, .ref n4, .ref n5, .ref n6])), (n1, .inl (cI, 24, .inl N_first)), (n2, .inl (cI, 24, .inl N_second)), (n3, .inl (cI, 24, .inl N_number)), (n4, .inl (cI, 24, .inl N_allowed)), (n5, .inl (cI, 12, .inl N_at)), (n6, .inl (cI, 24, .inl N_beside)), (q0, .inr (5, [.int Q_side, .int Q_height, .ref q1, .ref q2, .ref q3])), (q1, .inl (cI, 81, .inl Q_cell)), (q2, .inl (cI, 9, .inl Q_taken)), (q3, .inl (cI, 512, .inl Q_ways)), (p0, .inr (4, [.ref n0, .ref p1, .ref p2, .ref p3])), (p1, .inl (cI, 12, .inl P_can_0)), (p2, .inl (cI, 12, .inl P_picked_0)), (p3, .inl (cZ, 4096, .inl P_left_0))] s.heap [] := ⟨hP, by rw [hAe]; exact hD0.self, va_S.rf⟩
  have hl := lv_entry [.ref x0] (n := 1) (Nat.le_of_ble_eq_true rfl)
  rw [lg_entry_eq]
  generalize (lg_sl [.ref x0] ++ List.replicate (1 - (lg_sl [.ref x0]).length) Slot.unset).toArray = ls at hl ⊢
  replace hl : lv_has ls 1 [(0, .ref x0)] := hl
  obtain ⟨x, hf, hM⟩ : ∃ x, FX7_least P_can_0 P_picked_0 P_left_0 N_postCount N_roadCount N_first N_second N_number N_allowed N_at N_beside = some x ∧ x = out := ⟨out, hf, rfl⟩
  refine lv_aload_n hx hb dX7_least_0 rfl (lv_at hl 0 rfl) ?_
  refine w_get hx hb hg hown hK hI iX7 0 rfl rfl 0 (by decide) wF_RX7_12 rfl dX7_least_1 ?_
  refine w_get hx hb hg hown hK hI iX3 1 rfl rfl 1 (by decide) wF_RX7_35 rfl dX7_least_4 ?_
  refine lv_bipush (v := 12) hx hb dX7_least_7 (by decide) ?_
  refine lv_icmp_le (tgt := 15) hx hb dX7_least_9 (by decide) (fun hc => ?_) (fun hc => ?_)
  · replace hf := ite_t hc hf
    refine lv_aload_n hx hb dX7_least_15 rfl (lv_at hl 0 rfl) ?_
    refine w_Vr (wc := [(x0, .inr (7, [.ref n0, .ref q0, v_heapsOfNet, .ref p0, v_tallyOfNet])), (n0, .inr (3, [.int N_postCount, .int N_roadCount, .ref n1, .ref n2, .ref n3, .ref n4, .ref n5, .ref n6])), (n1, .inl (cI, 24, .inl N_first)), (n2, .inl (cI, 24, .inl N_second)), (n3, .inl (cI, 24, .inl N_number)), (n4, .inl (cI, 24, .inl N_allowed)), (n5, .inl (cI, 12, .inl N_at)), (n6, .inl (cI, 24, .inl N_beside)), (q0, .inr (5, [.int Q_side, .int Q_height, .ref q1, .ref q2, .ref q3])), (q1, .inl (cI, 81, .inl Q_cell)), (q2, .inl (cI, 9, .inl Q_taken)), (q3, .inl (cI, 512, .inl Q_ways)), (p0, .inr (4, [.ref n0, .ref p1, .ref p2, .ref p3])), (p1, .inl (cI, 12, .inl P_can_0)), (p2, .inl (cI, 12, .inl P_picked_0)), (p3, .inl (cZ, 4096, .inl P_left_0))]) (wr := []) (rest := []) hx hb hml hg hown hK hA hI (kRX7_pickerHere_s l D cI cJ cZ x0 n0 n1 n2 n3 n4 n5 n6 q0 q1 q2 q3 p0 p1 p2 p3 (v_heapsOfNet) (v_tallyOfNet) N_postCount N_roadCount N_first N_second N_number N_allowed N_at N_beside Q_side Q_height Q_cell Q_taken Q_ways P_can_0 P_picked_0 P_left_0) kvX7_pickerHere wL_RX7_143 ⟨Nat.le_of_ble_eq_true rfl, Nat.le_of_ble_eq_true rfl⟩ rfl rfl [0, 1, 2, 3, 4, 5, 6, 7, 8, 9, 10, 11, 12, 13, 14, 15] [] rfl rfl rfl rfl (by decide) rfl rfl hl.1 (Nat.le_of_ble_eq_true rfl) dX7_least_16 ⟨Nat.le_of_ble_eq_true rfl, Nat.le_of_ble_eq_true rfl⟩ (fun u ra H locs hp hI => ?_)
    replace hp : ra = p0 := hp
    rw [hp]
    clear hp
    replace hI : WI D A s.heap [(x0, .inr (7, [.ref n0, .ref q0, v_heapsOfNet, .ref p0, v_tallyOfNet])), (n0, .inr (3, [.int N_postCount, .int N_roadCount, .ref n1, .ref n2, .ref n3, .ref n4, .ref n5, .ref n6])), (n1, .inl (cI, 24, .inl N_first)), (n2, .inl (cI, 24, .inl N_second)), (n3, .inl (cI, 24, .inl N_number)), (n4, .inl (cI, 24, .inl N_allowed)), (n5, .inl (cI, 12, .inl N_at)), (n6, .inl (cI, 24, .inl N_beside)), (q0, .inr (5, [.int Q_side, .int Q_height, .ref q1, .ref q2, .ref q3])), (q1, .inl (cI, 81, .inl Q_cell)), (q2, .inl (cI, 9, .inl Q_taken)), (q3, .inl (cI, 512, .inl Q_ways)), (p0, .inr (4, [.ref n0, .ref p1, .ref p2, .ref p3])), (p1, .inl (cI, 12, .inl P_can_0)), (p2, .inl (cI, 12, .inl P_picked_0)), (p3, .inl (cZ, 4096, .inl P_left_0))] H locs := hI
    obtain ⟨o1, ho1, hf⟩ := bd_e hf
    refine w_Vi (wc := (wP cI cJ cZ p0 p1 p2 p3 n0 n1 n2 n3 n4 n5 n6 P_can_0 P_picked_0 P_left_0 N_postCount N_roadCount N_first N_second N_number N_allowed N_at N_beside)) (wr := [(x0, .inr (7, [.ref n0, .ref q0, v_heapsOfNet, .ref p0, v_tallyOfNet])), (q0, .inr (5, [.int Q_side, .int Q_height, .ref q1, .ref q2, .ref q3])), (q1, .inl (cI, 81, .inl Q_cell)), (q2, .inl (cI, 9, .inl Q_taken)), (q3, .inl (cI, 512, .inl Q_ways))]) (rest := []) hx hb hml hg hown hK hA hI (kX4_fewestNumbers l D cI cJ cZ p0 p1 p2 p3 n0 n1 n2 n3 n4 n5 n6 P_can_0 P_picked_0 P_left_0 N_postCount N_roadCount N_first N_second N_number N_allowed N_at N_beside  o1 ho1) kvX4_fewestNumbers wL_RX7_147 ⟨Nat.le_of_ble_eq_true rfl, Nat.le_of_ble_eq_true rfl⟩ rfl rfl [12, 13, 14, 15, 1, 2, 3, 4, 5, 6, 7] [0, 8, 9, 10, 11] rfl rfl rfl rfl (by decide) rfl rfl hl.1 (Nat.le_of_ble_eq_true rfl) dX7_least_19 ⟨Nat.le_of_ble_eq_true rfl, Nat.le_of_ble_eq_true rfl⟩ (fun r u H locs hp hI => ?_)
    replace hp : r = o1.1 := hp
    rw [hp]
    clear hp
    replace hI : WI D A s.heap [(x0, .inr (7, [.ref n0, .ref q0, v_heapsOfNet, .ref p0, v_tallyOfNet])), (n0, .inr (3, [.int N_postCount, .int N_roadCount, .ref n1, .ref n2, .ref n3, .ref n4, .ref n5, .ref n6])), (n1, .inl (cI, 24, .inl N_first)), (n2, .inl (cI, 24, .inl N_second)), (n3, .inl (cI, 24, .inl N_number)), (n4, .inl (cI, 24, .inl N_allowed)), (n5, .inl (cI, 12, .inl N_at)), (n6, .inl (cI, 24, .inl N_beside)), (q0, .inr (5, [.int Q_side, .int Q_height, .ref q1, .ref q2, .ref q3])), (q1, .inl (cI, 81, .inl Q_cell)), (q2, .inl (cI, 9, .inl Q_taken)), (q3, .inl (cI, 512, .inl Q_ways)), (p0, .inr (4, [.ref n0, .ref p1, .ref p2, .ref p3])), (p1, .inl (cI, 12, .inl o1.2.1)), (p2, .inl (cI, 12, .inl P_picked_0)), (p3, .inl (cZ, 4096, .inl o1.2.2))] H locs := hI.perm [0, 9, 10, 11, 12, 13, 14, 15, 1, 2, 3, 4, 5, 6, 7, 8] rfl rfl
    replace hf := Option.some.inj hf
    subst hf
    replace hM : (o1.1, o1.2.1, P_picked_0, o1.2.2) = out := hM
    subst hM
    refine W.widen (k := 0) (n := 0) (Nat.le_of_ble_eq_true rfl) (Nat.le_of_ble_eq_true rfl) ?_
    replace hI := hI.perm (w2 := [(x0, .inr (7, [.ref n0, .ref q0, v_heapsOfNet, .ref p0, v_tallyOfNet])), (n0, .inr (3, [.int N_postCount, .int N_roadCount, .ref n1, .ref n2, .ref n3, .ref n4, .ref n5, .ref n6])), (n1, .inl (cI, 24, .inl N_first)), (n2, .inl (cI, 24, .inl N_second)), (n3, .inl (cI, 24, .inl N_number)), (n4, .inl (cI, 24, .inl N_allowed)), (n5, .inl (cI, 12, .inl N_at)), (n6, .inl (cI, 24, .inl N_beside)), (q0, .inr (5, [.int Q_side, .int Q_height, .ref q1, .ref q2, .ref q3])), (q1, .inl (cI, 81, .inl Q_cell)), (q2, .inl (cI, 9, .inl Q_taken)), (q3, .inl (cI, 512, .inl Q_ways)), (p0, .inr (4, [.ref n0, .ref p1, .ref p2, .ref p3])), (p1, .inl (cI, 12, .inl o1.2.1)), (p2, .inl (cI, 12, .inl P_picked_0)), (p3, .inl (cZ, 4096, .inl o1.2.2))]) [0, 1, 2, 3, 4, 5, 6, 7, 8, 9, 10, 11, 12, 13, 14, 15] rfl rfl
    exact rt_i (u := ()) hx hb hr hlocks rfl hI hAe rfl dX7_least_22
  · replace hf := ite_f hc hf
    refine lv_bipush (v := -2) hx hb dX7_least_12 (by decide) ?_
    replace hf := Option.some.inj hf
    subst hf
    replace hM : ((-2 : Int32), P_can_0, P_picked_0, P_left_0) = out := hM
    subst hM
    refine W.widen (k := 0) (n := 0) (Nat.le_of_ble_eq_true rfl) (Nat.le_of_ble_eq_true rfl) ?_
    replace hI := hI.perm (w2 := [(x0, .inr (7, [.ref n0, .ref q0, v_heapsOfNet, .ref p0, v_tallyOfNet])), (n0, .inr (3, [.int N_postCount, .int N_roadCount, .ref n1, .ref n2, .ref n3, .ref n4, .ref n5, .ref n6])), (n1, .inl (cI, 24, .inl N_first)), (n2, .inl (cI, 24, .inl N_second)), (n3, .inl (cI, 24, .inl N_number)), (n4, .inl (cI, 24, .inl N_allowed)), (n5, .inl (cI, 12, .inl N_at)), (n6, .inl (cI, 24, .inl N_beside)), (q0, .inr (5, [.int Q_side, .int Q_height, .ref q1, .ref q2, .ref q3])), (q1, .inl (cI, 81, .inl Q_cell)), (q2, .inl (cI, 9, .inl Q_taken)), (q3, .inl (cI, 512, .inl Q_ways)), (p0, .inr (4, [.ref n0, .ref p1, .ref p2, .ref p3])), (p1, .inl (cI, 12, .inl P_can_0)), (p2, .inl (cI, 12, .inl P_picked_0)), (p3, .inl (cZ, 4096, .inl P_left_0))]) [0, 1, 2, 3, 4, 5, 6, 7, 8, 9, 10, 11, 12, 13, 14, 15] rfl rfl
    exact rt_i (u := ()) hx hb hr hlocks rfl hI hAe rfl dX7_least_14
set_option maxHeartbeats 4000000 in
set_option maxRecDepth 100000 in
theorem kX7_least_n (l : Launch) (D : va_G) (cI cJ cZ : ClassId) (x0 n0 n1 n2 n3 n4 n5 n6 q0 q1 q2 q3 : Nat) (v_heapsOfNet : Value) (v_tallyOfNet : Value) (N_postCount : Int32) (N_roadCount : Int32) (N_first : Nat → Int32) (N_second : Nat → Int32) (N_number : Nat → Int32) (N_allowed : Nat → Int32) (N_at : Nat → Int32) (N_beside : Nat → Int32) (Q_side : Int32) (Q_height : Int32) (Q_cell : Nat → Int32) (Q_taken : Nat → Int32) (Q_ways : Nat → Int32) (out : Int32 × (Nat → Int32) × (Nat → Int32) × (Nat → Int32)) (hf : FX7_least (fun _ => 0) (fun _ => 0) (fun _ => 0) N_postCount N_roadCount N_first N_second N_number N_allowed N_at N_beside = some out) : MI l yX7_least (Cond.code yX7_least cX7_least 1 (some .int) :: GW) { frames := 19, cells := 4, slots := 4124, locals := 709 } D cI cJ cZ [.ref x0] [(x0, .inr (7, [.ref n0, .ref q0, v_heapsOfNet, .null, v_tallyOfNet])), (n0, .inr (3, [.int N_postCount, .int N_roadCount, .ref n1, .ref n2, .ref n3, .ref n4, .ref n5, .ref n6])), (n1, .inl (cI, 24, .inl N_first)), (n2, .inl (cI, 24, .inl N_second)), (n3, .inl (cI, 24, .inl N_number)), (n4, .inl (cI, 24, .inl N_allowed)), (n5, .inl (cI, 12, .inl N_at)), (n6, .inl (cI, 24, .inl N_beside)), (q0, .inr (5, [.int Q_side, .int Q_height, .ref q1, .ref q2, .ref q3])), (q1, .inl (cI, 81, .inl Q_cell)), (q2, .inl (cI, 9, .inl Q_taken)), (q3, .inl (cI, 512, .inl Q_ways))] (fun r (_ : Option (Nat × Nat × Nat × Nat)) => r = out.1) (fun (u : Option (Nat × Nat × Nat × Nat)) => u.elim [(x0, .inr (7, [.ref n0, .ref q0, v_heapsOfNet, .null, v_tallyOfNet])), (n0, .inr (3, [.int N_postCount, .int N_roadCount, .ref n1, .ref n2, .ref n3, .ref n4, .ref n5, .ref n6])), (n1, .inl (cI, 24, .inl N_first)), (n2, .inl (cI, 24, .inl N_second)), (n3, .inl (cI, 24, .inl N_number)), (n4, .inl (cI, 24, .inl N_allowed)), (n5, .inl (cI, 12, .inl N_at)), (n6, .inl (cI, 24, .inl N_beside)), (q0, .inr (5, [.int Q_side, .int Q_height, .ref q1, .ref q2, .ref q3])), (q1, .inl (cI, 81, .inl Q_cell)), (q2, .inl (cI, 9, .inl Q_taken)), (q3, .inl (cI, 512, .inl Q_ways))] (fun q => [(x0, .inr (7, [.ref n0, .ref q0, v_heapsOfNet, .ref q.1, v_tallyOfNet])), (n0, .inr (3, [.int N_postCount, .int N_roadCount, .ref n1, .ref n2, .ref n3, .ref n4, .ref n5, .ref n6])), (n1, .inl (cI, 24, .inl N_first)), (n2, .inl (cI, 24, .inl N_second)), (n3, .inl (cI, 24, .inl N_number)), (n4, .inl (cI, 24, .inl N_allowed)), (n5, .inl (cI, 12, .inl N_at)), (n6, .inl (cI, 24, .inl N_beside)), (q0, .inr (5, [.int Q_side, .int Q_height, .ref q1, .ref q2, .ref q3])), (q1, .inl (cI, 81, .inl Q_cell)), (q2, .inl (cI, 9, .inl Q_taken)), (q3, .inl (cI, 512, .inl Q_ways)), (q.1, .inr (4, [.ref n0, .ref q.2.1, .ref q.2.2.1, .ref q.2.2.2])), (q.2.1, .inl (cI, 12, .inl out.2.1)), (q.2.2.1, .inl (cI, 12, .inl out.2.2.1)), (q.2.2.2, .inl (cZ, 4096, .inl out.2.2.2))])) := by
  intro sz
  refine Met.ofW (cc := cX7_least) (maxL := 1) (ret := (some .int)) (by decide +kernel) rfl ?_
  intro p e s m args below meth c s₁ B hml hv
  obtain ⟨rfl, hsz, hP, hK, hD0⟩ := hv
  have hx := B.exec
  have hb := B.bytes
  have hr := B.returns
  have hlocks := B.notSynchronized
  have hg : ∀ w ∈ GW, w.before _ s = true := fun w h => atoms_spec (ws := Cond.code yX7_least cX7_least 1 (some .int) :: GW) B.pre w (List.mem_cons_of_mem _ h)
  have hown : s.vm.findClass RX7 = some m.cls := findClass_of_methodNamed B.named
  subst hsz
  obtain ⟨A, hAe⟩ : ∃ A, A = va_A [(x0, .inr (7, [.ref n0, .ref q0, v_heapsOfNet, .null, v_tallyOfNet])), (n0, .inr (3, [.int N_postCount, .int N_roadCount, .ref n1, .ref n2, .ref n3, .ref n4, .ref n5, .ref n6])), (n1, .inl (cI, 24, .inl N_first)), (n2, .inl (cI, 24, .inl N_second)), (n3, .inl (cI, 24, .inl N_number)), (n4, .inl (cI, 24, .inl N_allowed)), (n5, .inl (cI, 12, .inl N_at)), (n6, .inl (cI, 24, .inl N_beside)), (q0, .inr (5, [.int Q_side, .int Q_height, .ref q1, .ref q2, .ref q3])), (q1, .inl (cI, 81, .inl Q_cell)), (q2, .inl (cI, 9, .inl Q_taken)), (q3, .inl (cI, 512, .inl Q_ways))] s.heap.size := ⟨_, rfl⟩
  have hA : ∀ q : Nat, s.heap.size ≤ q → A q := fun q h => by rw [hAe]; exact Or.inr h
  have hI : WI D A s.heap [(x0, .inr (7, [.ref n0, .ref q0, v_heapsOfNet, .null, v_tallyOfNet])), (n0, .inr (3, [.int N_postCount, .int N_roadCount, .ref n1, .ref n2, .ref n3, .ref n4, .ref n5, .ref n6])), (n1, .inl (cI, 24, .inl N_first)), (n2, .inl (cI, 24, .inl N_second)), (n3, .inl (cI, 24, .inl N_number)), (n4, .inl (cI, 24, .inl N_allowed)), (n5, .inl (cI, 12, .inl N_at)), (n6, .inl (cI, 24, .inl N_beside)), (q0, .inr (5, [.int Q_side, .int Q_height, .ref q1, .ref q2, .ref q3])), (q1, .inl (cI, 81, .inl Q_cell)), (q2, .inl (cI, 9, .inl Q_taken)), (q3, .inl (cI, 512, .inl Q_ways))] s.heap [] := ⟨hP, by rw [hAe]; exact hD0.self, va_S.rf⟩
  have hl := lv_entry [.ref x0] (n := 1) (Nat.le_of_ble_eq_true rfl)
  rw [lg_entry_eq]
  generalize (lg_sl [.ref x0] ++ List.replicate (1 - (lg_sl [.ref x0]).length) Slot.unset).toArray = ls at hl ⊢
  replace hl : lv_has ls 1 [(0, .ref x0)] := hl
  obtain ⟨x, hf, hM⟩ : ∃ x, FX7_least (fun _ => 0) (fun _ => 0) (fun _ => 0) N_postCount N_roadCount N_first N_second N_number N_allowed N_at N_beside = some x ∧ x = out := ⟨out, hf, rfl⟩
  refine lv_aload_n hx hb dX7_least_0 rfl (lv_at hl 0 rfl) ?_
  refine w_get hx hb hg hown hK hI iX7 0 rfl rfl 0 (by decide) wF_RX7_12 rfl dX7_least_1 ?_
  refine w_get hx hb hg hown hK hI iX3 1 rfl rfl 1 (by decide) wF_RX7_35 rfl dX7_least_4 ?_
  refine lv_bipush (v := 12) hx hb dX7_least_7 (by decide) ?_
  refine lv_icmp_le (tgt := 15) hx hb dX7_least_9 (by decide) (fun hc => ?_) (fun hc => ?_)
  · replace hf := ite_t hc hf
    refine lv_aload_n hx hb dX7_least_15 rfl (lv_at hl 0 rfl) ?_
    refine w_Vr (wc := [(x0, .inr (7, [.ref n0, .ref q0, v_heapsOfNet, .null, v_tallyOfNet])), (n0, .inr (3, [.int N_postCount, .int N_roadCount, .ref n1, .ref n2, .ref n3, .ref n4, .ref n5, .ref n6])), (n1, .inl (cI, 24, .inl N_first)), (n2, .inl (cI, 24, .inl N_second)), (n3, .inl (cI, 24, .inl N_number)), (n4, .inl (cI, 24, .inl N_allowed)), (n5, .inl (cI, 12, .inl N_at)), (n6, .inl (cI, 24, .inl N_beside)), (q0, .inr (5, [.int Q_side, .int Q_height, .ref q1, .ref q2, .ref q3])), (q1, .inl (cI, 81, .inl Q_cell)), (q2, .inl (cI, 9, .inl Q_taken)), (q3, .inl (cI, 512, .inl Q_ways))]) (wr := []) (rest := []) hx hb hml hg hown hK hA hI (kRX7_pickerHere_n l D cI cJ cZ x0 n0 n1 n2 n3 n4 n5 n6 q0 q1 q2 q3 (v_heapsOfNet) (v_tallyOfNet) N_postCount N_roadCount N_first N_second N_number N_allowed N_at N_beside Q_side Q_height Q_cell Q_taken Q_ways) kvX7_pickerHere wL_RX7_143 ⟨Nat.le_of_ble_eq_true rfl, Nat.le_of_ble_eq_true rfl⟩ rfl rfl [0, 1, 2, 3, 4, 5, 6, 7, 8, 9, 10, 11] [] rfl rfl rfl rfl (by decide) rfl rfl hl.1 (Nat.le_of_ble_eq_true rfl) dX7_least_16 ⟨Nat.le_of_ble_eq_true rfl, Nat.le_of_ble_eq_true rfl⟩ (fun u ra H locs hp hI => ?_)
    obtain ⟨b1, b2, b3, b4⟩ := u
    replace hp : ra = b1 := hp
    rw [hp]
    clear hp
    replace hI : WI D A s.heap [(x0, .inr (7, [.ref n0, .ref q0, v_heapsOfNet, .ref b1, v_tallyOfNet])), (n0, .inr (3, [.int N_postCount, .int N_roadCount, .ref n1, .ref n2, .ref n3, .ref n4, .ref n5, .ref n6])), (n1, .inl (cI, 24, .inl N_first)), (n2, .inl (cI, 24, .inl N_second)), (n3, .inl (cI, 24, .inl N_number)), (n4, .inl (cI, 24, .inl N_allowed)), (n5, .inl (cI, 12, .inl N_at)), (n6, .inl (cI, 24, .inl N_beside)), (q0, .inr (5, [.int Q_side, .int Q_height, .ref q1, .ref q2, .ref q3])), (q1, .inl (cI, 81, .inl Q_cell)), (q2, .inl (cI, 9, .inl Q_taken)), (q3, .inl (cI, 512, .inl Q_ways)), (b1, .inr (4, [.ref n0, .ref b2, .ref b3, .ref b4])), (b2, .inl (cI, 12, .inl (fun _ => 0))), (b3, .inl (cI, 12, .inl (fun _ => 0))), (b4, .inl (cZ, 4096, .inl (fun _ => 0)))] H locs := hI
    obtain ⟨o5, ho5, hf⟩ := bd_e hf
    refine w_Vi (wc := (wP cI cJ cZ b1 b2 b3 b4 n0 n1 n2 n3 n4 n5 n6 (fun _ => 0) (fun _ => 0) (fun _ => 0) N_postCount N_roadCount N_first N_second N_number N_allowed N_at N_beside)) (wr := [(x0, .inr (7, [.ref n0, .ref q0, v_heapsOfNet, .ref b1, v_tallyOfNet])), (q0, .inr (5, [.int Q_side, .int Q_height, .ref q1, .ref q2, .ref q3])), (q1, .inl (cI, 81, .inl Q_cell)), (q2, .inl (cI, 9, .inl Q_taken)), (q3, .inl (cI, 512, .inl Q_ways))]) (rest := []) hx hb hml hg hown hK hA hI (kX4_fewestNumbers l D cI cJ cZ b1 b2 b3 b4 n0 n1 n2 n3 n4 n5 n6 (fun _ => 0) (fun _ => 0) (fun _ => 0) N_postCount N_roadCount N_first N_second N_number N_allowed N_at N_beside  o5 ho5) kvX4_fewestNumbers wL_RX7_147 ⟨Nat.le_of_ble_eq_true rfl, Nat.le_of_ble_eq_true rfl⟩ rfl rfl [12, 13, 14, 15, 1, 2, 3, 4, 5, 6, 7] [0, 8, 9, 10, 11] rfl rfl rfl rfl (by decide) rfl rfl hl.1 (Nat.le_of_ble_eq_true rfl) dX7_least_19 ⟨Nat.le_of_ble_eq_true rfl, Nat.le_of_ble_eq_true rfl⟩ (fun r u H locs hp hI => ?_)
    replace hp : r = o5.1 := hp
    rw [hp]
    clear hp
    replace hI : WI D A s.heap [(x0, .inr (7, [.ref n0, .ref q0, v_heapsOfNet, .ref b1, v_tallyOfNet])), (n0, .inr (3, [.int N_postCount, .int N_roadCount, .ref n1, .ref n2, .ref n3, .ref n4, .ref n5, .ref n6])), (n1, .inl (cI, 24, .inl N_first)), (n2, .inl (cI, 24, .inl N_second)), (n3, .inl (cI, 24, .inl N_number)), (n4, .inl (cI, 24, .inl N_allowed)), (n5, .inl (cI, 12, .inl N_at)), (n6, .inl (cI, 24, .inl N_beside)), (q0, .inr (5, [.int Q_side, .int Q_height, .ref q1, .ref q2, .ref q3])), (q1, .inl (cI, 81, .inl Q_cell)), (q2, .inl (cI, 9, .inl Q_taken)), (q3, .inl (cI, 512, .inl Q_ways)), (b1, .inr (4, [.ref n0, .ref b2, .ref b3, .ref b4])), (b2, .inl (cI, 12, .inl o5.2.1)), (b3, .inl (cI, 12, .inl (fun _ => 0))), (b4, .inl (cZ, 4096, .inl o5.2.2))] H locs := hI.perm [0, 9, 10, 11, 12, 13, 14, 15, 1, 2, 3, 4, 5, 6, 7, 8] rfl rfl
    replace hf := Option.some.inj hf
    subst hf
    replace hM : (o5.1, o5.2.1, (fun _ => 0), o5.2.2) = out := hM
    subst hM
    refine W.widen (k := 4) (n := 4124) (Nat.le_of_ble_eq_true rfl) (Nat.le_of_ble_eq_true rfl) ?_
    replace hI := hI.perm (w2 := [(x0, .inr (7, [.ref n0, .ref q0, v_heapsOfNet, .ref b1, v_tallyOfNet])), (n0, .inr (3, [.int N_postCount, .int N_roadCount, .ref n1, .ref n2, .ref n3, .ref n4, .ref n5, .ref n6])), (n1, .inl (cI, 24, .inl N_first)), (n2, .inl (cI, 24, .inl N_second)), (n3, .inl (cI, 24, .inl N_number)), (n4, .inl (cI, 24, .inl N_allowed)), (n5, .inl (cI, 12, .inl N_at)), (n6, .inl (cI, 24, .inl N_beside)), (q0, .inr (5, [.int Q_side, .int Q_height, .ref q1, .ref q2, .ref q3])), (q1, .inl (cI, 81, .inl Q_cell)), (q2, .inl (cI, 9, .inl Q_taken)), (q3, .inl (cI, 512, .inl Q_ways)), (b1, .inr (4, [.ref n0, .ref b2, .ref b3, .ref b4])), (b2, .inl (cI, 12, .inl o5.2.1)), (b3, .inl (cI, 12, .inl (fun _ => 0))), (b4, .inl (cZ, 4096, .inl o5.2.2))]) [0, 1, 2, 3, 4, 5, 6, 7, 8, 9, 10, 11, 12, 13, 14, 15] rfl rfl
    exact rt_i (u := (some (b1, b2, b3, b4))) hx hb hr hlocks rfl hI hAe rfl dX7_least_22
  · replace hf := ite_f hc hf
    refine lv_bipush (v := -2) hx hb dX7_least_12 (by decide) ?_
    replace hf := Option.some.inj hf
    subst hf
    replace hM : ((-2 : Int32), (fun _ => 0), (fun _ => 0), (fun _ => 0)) = out := hM
    subst hM
    refine W.widen (k := 4) (n := 4124) (Nat.le_of_ble_eq_true rfl) (Nat.le_of_ble_eq_true rfl) ?_
    replace hI := hI.perm (w2 := [(x0, .inr (7, [.ref n0, .ref q0, v_heapsOfNet, .null, v_tallyOfNet])), (n0, .inr (3, [.int N_postCount, .int N_roadCount, .ref n1, .ref n2, .ref n3, .ref n4, .ref n5, .ref n6])), (n1, .inl (cI, 24, .inl N_first)), (n2, .inl (cI, 24, .inl N_second)), (n3, .inl (cI, 24, .inl N_number)), (n4, .inl (cI, 24, .inl N_allowed)), (n5, .inl (cI, 12, .inl N_at)), (n6, .inl (cI, 24, .inl N_beside)), (q0, .inr (5, [.int Q_side, .int Q_height, .ref q1, .ref q2, .ref q3])), (q1, .inl (cI, 81, .inl Q_cell)), (q2, .inl (cI, 9, .inl Q_taken)), (q3, .inl (cI, 512, .inl Q_ways))]) [0, 1, 2, 3, 4, 5, 6, 7, 8, 9, 10, 11] rfl rfl
    exact rt_i (u := none) hx hb hr hlocks rfl hI hAe rfl dX7_least_14
theorem kvX7_first : CalV RX7 yX7_first cX7_first 3 (some .int) 1 := ⟨wC_yX7_first, wM_yX7_first, wS_yX7_first, wI_RX7, by decide +kernel⟩
noncomputable def FX7_first (P_can : Nat → Int32) (P_picked : Nat → Int32) (P_left : Nat → Int32) (N_postCount : Int32) (N_roadCount : Int32) (N_first : Nat → Int32) (N_second : Nat → Int32) (N_number : Nat → Int32) (N_allowed : Nat → Int32) (N_at : Nat → Int32) (N_beside : Nat → Int32) (a1 : Int32) : Option (Int32 × (Nat → Int32) × (Nat → Int32) × (Nat → Int32) × (Nat → Int32)) :=
  if a1 < (0 : Int32) then (some ((-2 : Int32), P_can, P_picked, P_left, N_number)) else (if (16 : Int32) < a1 then (some ((-2 : Int32), P_can, P_picked, P_left, N_number)) else (if N_roadCount ≤ (12 : Int32) then ((FX4_allowBelow P_can N_roadCount a1).bind (fun o1 => (FX4_pickFirst o1 P_picked P_left N_roadCount N_first N_second N_number N_beside).bind (fun o2 => (FX7_asBit o2.1).bind (fun x3 => some (x3, o2.2.1, o2.2.2.1, o2.2.2.2.1, o2.2.2.2.2))))) else (some ((-2 : Int32), P_can, P_picked, P_left, N_number))))
set_option maxHeartbeats 4000000 in
set_option maxRecDepth 100000 in
theorem kX7_first_s (l : Launch) (D : va_G) (cI cJ cZ : ClassId) (x0 n0 n1 n2 n3 n4 n5 n6 q0 q1 q2 q3 p0 p1 p2 p3 : Nat) (v_heapsOfNet : Value) (v_tallyOfNet : Value) (N_postCount : Int32) (N_roadCount : Int32) (N_first : Nat → Int32) (N_second : Nat → Int32) (N_number_0 : Nat → Int32) (N_allowed : Nat → Int32) (N_at : Nat → Int32) (N_beside : Nat → Int32) (Q_side : Int32) (Q_height : Int32) (Q_cell : Nat → Int32) (Q_taken : Nat → Int32) (Q_ways : Nat → Int32) (P_can_0 : Nat → Int32) (P_picked_0 : Nat → Int32) (P_left_0 : Nat → Int32) (a1 : Int32) (out : Int32 × (Nat → Int32) × (Nat → Int32) × (Nat → Int32) × (Nat → Int32)) (hf : FX7_first P_can_0 P_picked_0 P_left_0 N_postCount N_roadCount N_first N_second N_number_0 N_allowed N_at N_beside a1 = some out) : MI l yX7_first (Cond.code yX7_first cX7_first 3 (some .int) :: GW) { frames := 20, cells := 0, slots := 0, locals := 733 } D cI cJ cZ [.ref x0, .int a1] [(x0, .inr (7, [.ref n0, .ref q0, v_heapsOfNet, .ref p0, v_tallyOfNet])), (n0, .inr (3, [.int N_postCount, .int N_roadCount, .ref n1, .ref n2, .ref n3, .ref n4, .ref n5, .ref n6])), (n1, .inl (cI, 24, .inl N_first)), (n2, .inl (cI, 24, .inl N_second)), (n3, .inl (cI, 24, .inl N_number_0)), (n4, .inl (cI, 24, .inl N_allowed)), (n5, .inl (cI, 12, .inl N_at)), (n6, .inl (cI, 24, .inl N_beside)), (q0, .inr (5, [.int Q_side, .int Q_height, .ref q1, .ref q2, .ref q3])), (q1, .inl (cI, 81, .inl Q_cell)), (q2, .inl (cI, 9, .inl Q_taken)), (q3, .inl (cI, 512, .inl Q_ways)), (p0, .inr (4, [.ref n0, .ref p1, .ref p2, .ref p3])), (p1, .inl (cI, 12, .inl P_can_0)), (p2, .inl (cI, 12, .inl P_picked_0)), (p3, .inl (cZ, 4096, .inl P_left_0))] (fun r (_ : Unit) => r = out.1) (fun (_ : Unit) => [(x0, .inr (7, [.ref n0, .ref q0, v_heapsOfNet, .ref p0, v_tallyOfNet])), (n0, .inr (3, [.int N_postCount, .int N_roadCount, .ref n1, .ref n2, .ref n3, .ref n4, .ref n5, .ref n6])), (n1, .inl (cI, 24, .inl N_first)), (n2, .inl (cI, 24, .inl N_second)), (n3, .inl (cI, 24, .inl out.2.2.2.2)), (n4, .inl (cI, 24, .inl N_allowed)), (n5, .inl (cI, 12, .inl N_at)), (n6, .inl (cI, 24, .inl N_beside)), (q0, .inr (5, [.int Q_side, .int Q_height, .ref q1, .ref q2, .ref q3])), (q1, .inl (cI, 81, .inl Q_cell)), (q2, .inl (cI, 9, .inl Q_taken)), (q3, .inl (cI, 512, .inl Q_ways)), (p0, .inr (4, [.ref n0, .ref p1, .ref p2, .ref p3])), (p1, .inl (cI, 12, .inl out.2.1)), (p2, .inl (cI, 12, .inl out.2.2.1)), (p3, .inl (cZ, 4096, .inl out.2.2.2.1))]) := by
  intro sz
  refine Met.ofW (cc := cX7_first) (maxL := 3) (ret := (some .int)) (by decide +kernel) rfl ?_
  intro p e s m args below meth c s₁ B hml hv
  obtain ⟨rfl, hsz, hP, hK, hD0⟩ := hv
  have hx := B.exec
  have hb := B.bytes
  have hr := B.returns
  have hlocks := B.notSynchronized
  have hg : ∀ w ∈ GW, w.before _ s = true := fun w h => atoms_spec (ws := Cond.code yX7_first cX7_first 3 (some .int) :: GW) B.pre w (List.mem_cons_of_mem _ h)
  have hown : s.vm.findClass RX7 = some m.cls := findClass_of_methodNamed B.named
  subst hsz
  obtain ⟨A, hAe⟩ : ∃ A, A = va_A [(x0, .inr (7, [.ref n0, .ref q0, v_heapsOfNet, .ref p0, v_tallyOfNet])), (n0, .inr (3, [.int N_postCount, .int N_roadCount, .ref n1, .ref n2, .ref n3, .ref n4, .ref n5, .ref n6])), (n1, .inl (cI, 24, .inl N_first)), (n2, .inl (cI, 24, .inl N_second)), (n3, .inl (cI, 24, .inl N_number_0)), (n4, .inl (cI, 24, .inl N_allowed)), (n5, .inl (cI, 12, .inl N_at)), (n6, .inl (cI, 24, .inl N_beside)), (q0, .inr (5, [.int Q_side, .int Q_height, .ref q1, .ref q2, .ref q3])), (q1, .inl (cI, 81, .inl Q_cell)), (q2, .inl (cI, 9, .inl Q_taken)), (q3, .inl (cI, 512, .inl Q_ways)), (p0, .inr (4, [.ref n0, .ref p1, .ref p2, .ref p3])), (p1, .inl (cI, 12, .inl P_can_0)), (p2, .inl (cI, 12, .inl P_picked_0)), (p3, .inl (cZ, 4096, .inl P_left_0))] s.heap.size := ⟨_, rfl⟩
  have hA : ∀ q : Nat, s.heap.size ≤ q → A q := fun q h => by rw [hAe]; exact Or.inr h
  have hI : WI D A s.heap [(x0, .inr (7, [.ref n0, .ref q0, v_heapsOfNet, .ref p0, v_tallyOfNet])), (n0, .inr (3, [.int N_postCount, .int N_roadCount, .ref n1, .ref n2, .ref n3, .ref n4, .ref n5, .ref n6])), (n1, .inl (cI, 24, .inl N_first)), (n2, .inl (cI, 24, .inl N_second)), (n3, .inl (cI, 24, .inl N_number_0)), (n4, .inl (cI, 24, .inl N_allowed)), (n5, .inl (cI, 12, .inl N_at)), (n6, .inl (cI, 24, .inl N_beside)), (q0, .inr (5, [.int Q_side, .int Q_height, .ref q1, .ref q2, .ref q3])), (q1, .inl (cI, 81, .inl Q_cell)), (q2, .inl (cI, 9, .inl Q_taken)), (q3, .inl (cI, 512, .inl Q_ways)), (p0, .inr (4, [.ref n0, .ref p1, .ref p2, .ref p3])), (p1, .inl (cI, 12, .inl P_can_0)), (p2, .inl (cI, 12, .inl P_picked_0)), (p3, .inl (cZ, 4096, .inl P_left_0))] s.heap [] := ⟨hP, by rw [hAe]; exact hD0.self, va_S.rf⟩
  have hl := lv_entry [.ref x0, .int a1] (n := 3) (Nat.le_of_ble_eq_true rfl)
  rw [lg_entry_eq]
  generalize (lg_sl [.ref x0, .int a1] ++ List.replicate (3 - (lg_sl [.ref x0, .int a1]).length) Slot.unset).toArray = ls at hl ⊢
  replace hl : lv_has ls 3 [(0, .ref x0), (1, .int a1)] := hl
  obtain ⟨x, hf, hM⟩ : ∃ x, FX7_first P_can_0 P_picked_0 P_left_0 N_postCount N_roadCount N_first N_second N_number_0 N_allowed N_at N_beside a1 = some x ∧ x = out := ⟨out, hf, rfl⟩
  refine lv_iload_n hx hb dX7_first_0 rfl (lv_at hl 1 rfl) ?_
  refine lv_if_lt (tgt := 22) hx hb dX7_first_1 (by decide) (fun hc => ?_) (fun hc => ?_)
  · replace hf := ite_t hc hf
    refine lv_bipush (v := -2) hx hb dX7_first_22 (by decide) ?_
    replace hf := Option.some.inj hf
    subst hf
    replace hM : ((-2 : Int32), P_can_0, P_picked_0, P_left_0, N_number_0) = out := hM
    subst hM
    refine W.widen (k := 0) (n := 0) (Nat.le_of_ble_eq_true rfl) (Nat.le_of_ble_eq_true rfl) ?_
    replace hI := hI.perm (w2 := [(x0, .inr (7, [.ref n0, .ref q0, v_heapsOfNet, .ref p0, v_tallyOfNet])), (n0, .inr (3, [.int N_postCount, .int N_roadCount, .ref n1, .ref n2, .ref n3, .ref n4, .ref n5, .ref n6])), (n1, .inl (cI, 24, .inl N_first)), (n2, .inl (cI, 24, .inl N_second)), (n3, .inl (cI, 24, .inl N_number_0)), (n4, .inl (cI, 24, .inl N_allowed)), (n5, .inl (cI, 12, .inl N_at)), (n6, .inl (cI, 24, .inl N_beside)), (q0, .inr (5, [.int Q_side, .int Q_height, .ref q1, .ref q2, .ref q3])), (q1, .inl (cI, 81, .inl Q_cell)), (q2, .inl (cI, 9, .inl Q_taken)), (q3, .inl (cI, 512, .inl Q_ways)), (p0, .inr (4, [.ref n0, .ref p1, .ref p2, .ref p3])), (p1, .inl (cI, 12, .inl P_can_0)), (p2, .inl (cI, 12, .inl P_picked_0)), (p3, .inl (cZ, 4096, .inl P_left_0))]) [0, 1, 2, 3, 4, 5, 6, 7, 8, 9, 10, 11, 12, 13, 14, 15] rfl rfl
    exact rt_i (u := ()) hx hb hr hlocks rfl hI hAe rfl dX7_first_24
  · replace hf := ite_f hc hf
    refine lv_iload_n hx hb dX7_first_4 rfl (lv_at hl 1 rfl) ?_
    refine lv_bipush (v := 16) hx hb dX7_first_5 (by decide) ?_
    refine lv_icmp_gt (tgt := 22) hx hb dX7_first_7 (by decide) (fun hc => ?_) (fun hc => ?_)
    · replace hf := ite_t hc hf
      refine lv_bipush (v := -2) hx hb dX7_first_22 (by decide) ?_
      replace hf := Option.some.inj hf
      subst hf
      replace hM : ((-2 : Int32), P_can_0, P_picked_0, P_left_0, N_number_0) = out := hM
      subst hM
      refine W.widen (k := 0) (n := 0) (Nat.le_of_ble_eq_true rfl) (Nat.le_of_ble_eq_true rfl) ?_
      replace hI := hI.perm (w2 := [(x0, .inr (7, [.ref n0, .ref q0, v_heapsOfNet, .ref p0, v_tallyOfNet])), (n0, .inr (3, [.int N_postCount, .int N_roadCount, .ref n1, .ref n2, .ref n3, .ref n4, .ref n5, .ref n6])), (n1, .inl (cI, 24, .inl N_first)), (n2, .inl (cI, 24, .inl N_second)), (n3, .inl (cI, 24, .inl N_number_0)), (n4, .inl (cI, 24, .inl N_allowed)), (n5, .inl (cI, 12, .inl N_at)), (n6, .inl (cI, 24, .inl N_beside)), (q0, .inr (5, [.int Q_side, .int Q_height, .ref q1, .ref q2, .ref q3])), (q1, .inl (cI, 81, .inl Q_cell)), (q2, .inl (cI, 9, .inl Q_taken)), (q3, .inl (cI, 512, .inl Q_ways)), (p0, .inr (4, [.ref n0, .ref p1, .ref p2, .ref p3])), (p1, .inl (cI, 12, .inl P_can_0)), (p2, .inl (cI, 12, .inl P_picked_0)), (p3, .inl (cZ, 4096, .inl P_left_0))]) [0, 1, 2, 3, 4, 5, 6, 7, 8, 9, 10, 11, 12, 13, 14, 15] rfl rfl
      exact rt_i (u := ()) hx hb hr hlocks rfl hI hAe rfl dX7_first_24
    · replace hf := ite_f hc hf
      refine lv_aload_n hx hb dX7_first_10 rfl (lv_at hl 0 rfl) ?_
      refine w_get hx hb hg hown hK hI iX7 0 rfl rfl 0 (by decide) wF_RX7_12 rfl dX7_first_11 ?_
      refine w_get hx hb hg hown hK hI iX3 1 rfl rfl 1 (by decide) wF_RX7_35 rfl dX7_first_14 ?_
      refine lv_bipush (v := 12) hx hb dX7_first_17 (by decide) ?_
      refine lv_icmp_le (tgt := 25) hx hb dX7_first_19 (by decide) (fun hc => ?_) (fun hc => ?_)
      · replace hf := ite_t hc hf
        refine lv_aload_n hx hb dX7_first_25 rfl (lv_at hl 0 rfl) ?_
        refine w_Vr (wc := [(x0, .inr (7, [.ref n0, .ref q0, v_heapsOfNet, .ref p0, v_tallyOfNet])), (n0, .inr (3, [.int N_postCount, .int N_roadCount, .ref n1, .ref n2, .ref n3, .ref n4, .ref n5, .ref n6])), (n1, .inl (cI, 24, .inl N_first)), (n2, .inl (cI, 24, .inl N_second)), (n3, .inl (cI, 24, .inl N_number_0)), (n4, .inl (cI, 24, .inl N_allowed)), (n5, .inl (cI, 12, .inl N_at)), (n6, .inl (cI, 24, .inl N_beside)), (q0, .inr (5, [.int Q_side, .int Q_height, .ref q1, .ref q2, .ref q3])), (q1, .inl (cI, 81, .inl Q_cell)), (q2, .inl (cI, 9, .inl Q_taken)), (q3, .inl (cI, 512, .inl Q_ways)), (p0, .inr (4, [.ref n0, .ref p1, .ref p2, .ref p3])), (p1, .inl (cI, 12, .inl P_can_0)), (p2, .inl (cI, 12, .inl P_picked_0)), (p3, .inl (cZ, 4096, .inl P_left_0))]) (wr := []) (rest := []) hx hb hml hg hown hK hA hI (kRX7_pickerHere_s l D cI cJ cZ x0 n0 n1 n2 n3 n4 n5 n6 q0 q1 q2 q3 p0 p1 p2 p3 (v_heapsOfNet) (v_tallyOfNet) N_postCount N_roadCount N_first N_second N_number_0 N_allowed N_at N_beside Q_side Q_height Q_cell Q_taken Q_ways P_can_0 P_picked_0 P_left_0) kvX7_pickerHere wL_RX7_143 ⟨Nat.le_of_ble_eq_true rfl, Nat.le_of_ble_eq_true rfl⟩ rfl rfl [0, 1, 2, 3, 4, 5, 6, 7, 8, 9, 10, 11, 12, 13, 14, 15] [] rfl rfl rfl rfl (by decide) rfl rfl hl.1 (Nat.le_of_ble_eq_true rfl) dX7_first_26 ⟨Nat.le_of_ble_eq_true rfl, Nat.le_of_ble_eq_true rfl⟩ (fun u ra H locs hp hI => ?_)
        replace hp : ra = p0 := hp
        rw [hp]
        clear hp
        replace hI : WI D A s.heap [(x0, .inr (7, [.ref n0, .ref q0, v_heapsOfNet, .ref p0, v_tallyOfNet])), (n0, .inr (3, [.int N_postCount, .int N_roadCount, .ref n1, .ref n2, .ref n3, .ref n4, .ref n5, .ref n6])), (n1, .inl (cI, 24, .inl N_first)), (n2, .inl (cI, 24, .inl N_second)), (n3, .inl (cI, 24, .inl N_number_0)), (n4, .inl (cI, 24, .inl N_allowed)), (n5, .inl (cI, 12, .inl N_at)), (n6, .inl (cI, 24, .inl N_beside)), (q0, .inr (5, [.int Q_side, .int Q_height, .ref q1, .ref q2, .ref q3])), (q1, .inl (cI, 81, .inl Q_cell)), (q2, .inl (cI, 9, .inl Q_taken)), (q3, .inl (cI, 512, .inl Q_ways)), (p0, .inr (4, [.ref n0, .ref p1, .ref p2, .ref p3])), (p1, .inl (cI, 12, .inl P_can_0)), (p2, .inl (cI, 12, .inl P_picked_0)), (p3, .inl (cZ, 4096, .inl P_left_0))] H locs := hI
        refine lv_astore_n (lv' := [(2, .ref p0), (0, .ref x0), (1, .int a1)]) hx hb dX7_first_29 rfl hl (by decide) rfl (fun ls hl => ?_)
        refine lv_aload_n hx hb dX7_first_30 rfl (lv_at hl 0 rfl) ?_
        refine lv_iload_n hx hb dX7_first_31 rfl (lv_at hl 2 rfl) ?_
        obtain ⟨o1, ho1, hf⟩ := bd_e hf
        refine w_Vv (wc := (wP cI cJ cZ p0 p1 p2 p3 n0 n1 n2 n3 n4 n5 n6 P_can_0 P_picked_0 P_left_0 N_postCount N_roadCount N_first N_second N_number_0 N_allowed N_at N_beside)) (wr := [(x0, .inr (7, [.ref n0, .ref q0, v_heapsOfNet, .ref p0, v_tallyOfNet])), (q0, .inr (5, [.int Q_side, .int Q_height, .ref q1, .ref q2, .ref q3])), (q1, .inl (cI, 81, .inl Q_cell)), (q2, .inl (cI, 9, .inl Q_taken)), (q3, .inl (cI, 512, .inl Q_ways))]) (rest := []) hx hb hml hg hown hK hA hI (kX4_allowBelow l D cI cJ cZ p0 p1 p2 p3 n0 n1 n2 n3 n4 n5 n6 P_can_0 P_picked_0 P_left_0 N_postCount N_roadCount N_first N_second N_number_0 N_allowed N_at N_beside a1 o1 ho1) kvX4_allowBelow wL_RX7_152 ⟨Nat.le_of_ble_eq_true rfl, Nat.le_of_ble_eq_true rfl⟩ rfl rfl [12, 13, 14, 15, 1, 2, 3, 4, 5, 6, 7] [0, 8, 9, 10, 11] rfl rfl rfl rfl (by decide) rfl rfl hl.1 (Nat.le_of_ble_eq_true rfl) dX7_first_32 ⟨Nat.le_of_ble_eq_true rfl, Nat.le_of_ble_eq_true rfl⟩ (fun  u H locs hp hI => ?_)
        replace hI : WI D A s.heap [(x0, .inr (7, [.ref n0, .ref q0, v_heapsOfNet, .ref p0, v_tallyOfNet])), (n0, .inr (3, [.int N_postCount, .int N_roadCount, .ref n1, .ref n2, .ref n3, .ref n4, .ref n5, .ref n6])), (n1, .inl (cI, 24, .inl N_first)), (n2, .inl (cI, 24, .inl N_second)), (n3, .inl (cI, 24, .inl N_number_0)), (n4, .inl (cI, 24, .inl N_allowed)), (n5, .inl (cI, 12, .inl N_at)), (n6, .inl (cI, 24, .inl N_beside)), (q0, .inr (5, [.int Q_side, .int Q_height, .ref q1, .ref q2, .ref q3])), (q1, .inl (cI, 81, .inl Q_cell)), (q2, .inl (cI, 9, .inl Q_taken)), (q3, .inl (cI, 512, .inl Q_ways)), (p0, .inr (4, [.ref n0, .ref p1, .ref p2, .ref p3])), (p1, .inl (cI, 12, .inl o1)), (p2, .inl (cI, 12, .inl P_picked_0)), (p3, .inl (cZ, 4096, .inl P_left_0))] H locs := hI.perm [0, 9, 10, 11, 12, 13, 14, 15, 1, 2, 3, 4, 5, 6, 7, 8] rfl rfl
        refine lv_aload_n hx hb dX7_first_35 rfl (lv_at hl 0 rfl) ?_
        obtain ⟨o2, ho2, hf⟩ := bd_e hf
        refine w_Vi (wc := (wP cI cJ cZ p0 p1 p2 p3 n0 n1 n2 n3 n4 n5 n6 o1 P_picked_0 P_left_0 N_postCount N_roadCount N_first N_second N_number_0 N_allowed N_at N_beside)) (wr := [(x0, .inr (7, [.ref n0, .ref q0, v_heapsOfNet, .ref p0, v_tallyOfNet])), (q0, .inr (5, [.int Q_side, .int Q_height, .ref q1, .ref q2, .ref q3])), (q1, .inl (cI, 81, .inl Q_cell)), (q2, .inl (cI, 9, .inl Q_taken)), (q3, .inl (cI, 512, .inl Q_ways))]) (rest := []) hx hb hml hg hown hK hA hI (kX4_pickFirst l D cI cJ cZ p0 p1 p2 p3 n0 n1 n2 n3 n4 n5 n6 o1 P_picked_0 P_left_0 N_postCount N_roadCount N_first N_second N_number_0 N_allowed N_at N_beside  o2 ho2) kvX4_pickFirst wL_RX7_155 ⟨Nat.le_of_ble_eq_true rfl, Nat.le_of_ble_eq_true rfl⟩ rfl rfl [12, 13, 14, 15, 1, 2, 3, 4, 5, 6, 7] [0, 8, 9, 10, 11] rfl rfl rfl rfl (by decide) rfl rfl hl.1 (Nat.le_of_ble_eq_true rfl) dX7_first_36 ⟨Nat.le_of_ble_eq_true rfl, Nat.le_of_ble_eq_true rfl⟩ (fun r u H locs hp hI => ?_)
        replace hp : r = o2.1 := hp
        rw [hp]
        clear hp
        replace hI : WI D A s.heap [(x0, .inr (7, [.ref n0, .ref q0, v_heapsOfNet, .ref p0, v_tallyOfNet])), (n0, .inr (3, [.int N_postCount, .int N_roadCount, .ref n1, .ref n2, .ref n3, .ref n4, .ref n5, .ref n6])), (n1, .inl (cI, 24, .inl N_first)), (n2, .inl (cI, 24, .inl N_second)), (n3, .inl (cI, 24, .inl o2.2.2.2.2)), (n4, .inl (cI, 24, .inl N_allowed)), (n5, .inl (cI, 12, .inl N_at)), (n6, .inl (cI, 24, .inl N_beside)), (q0, .inr (5, [.int Q_side, .int Q_height, .ref q1, .ref q2, .ref q3])), (q1, .inl (cI, 81, .inl Q_cell)), (q2, .inl (cI, 9, .inl Q_taken)), (q3, .inl (cI, 512, .inl Q_ways)), (p0, .inr (4, [.ref n0, .ref p1, .ref p2, .ref p3])), (p1, .inl (cI, 12, .inl o2.2.1)), (p2, .inl (cI, 12, .inl o2.2.2.1)), (p3, .inl (cZ, 4096, .inl o2.2.2.2.1))] H locs := hI.perm [0, 9, 10, 11, 12, 13, 14, 15, 1, 2, 3, 4, 5, 6, 7, 8] rfl rfl
        obtain ⟨x3, hx3, hf⟩ := bd_e hf
        refine w_S (rest := []) hx hb hml hg hown hK (kX7_asBit l D cI cJ cZ o2.1 x3 hx3) ksX7_asBit wL_RX7_115 ⟨Nat.le_of_ble_eq_true rfl, Nat.le_of_ble_eq_true rfl⟩ ⟨rfl, rfl⟩ rfl rfl hl.1 (Nat.le_of_ble_eq_true rfl) dX7_first_39 ⟨Nat.le_of_ble_eq_true rfl, Nat.le_of_ble_eq_true rfl⟩ ?_
        replace hf := Option.some.inj hf
        subst hf
        replace hM : (x3, o2.2.1, o2.2.2.1, o2.2.2.2.1, o2.2.2.2.2) = out := hM
        subst hM
        refine W.widen (k := 0) (n := 0) (Nat.le_of_ble_eq_true rfl) (Nat.le_of_ble_eq_true rfl) ?_
        replace hI := hI.perm (w2 := [(x0, .inr (7, [.ref n0, .ref q0, v_heapsOfNet, .ref p0, v_tallyOfNet])), (n0, .inr (3, [.int N_postCount, .int N_roadCount, .ref n1, .ref n2, .ref n3, .ref n4, .ref n5, .ref n6])), (n1, .inl (cI, 24, .inl N_first)), (n2, .inl (cI, 24, .inl N_second)), (n3, .inl (cI, 24, .inl o2.2.2.2.2)), (n4, .inl (cI, 24, .inl N_allowed)), (n5, .inl (cI, 12, .inl N_at)), (n6, .inl (cI, 24, .inl N_beside)), (q0, .inr (5, [.int Q_side, .int Q_height, .ref q1, .ref q2, .ref q3])), (q1, .inl (cI, 81, .inl Q_cell)), (q2, .inl (cI, 9, .inl Q_taken)), (q3, .inl (cI, 512, .inl Q_ways)), (p0, .inr (4, [.ref n0, .ref p1, .ref p2, .ref p3])), (p1, .inl (cI, 12, .inl o2.2.1)), (p2, .inl (cI, 12, .inl o2.2.2.1)), (p3, .inl (cZ, 4096, .inl o2.2.2.2.1))]) [0, 1, 2, 3, 4, 5, 6, 7, 8, 9, 10, 11, 12, 13, 14, 15] rfl rfl
        exact rt_i (u := ()) hx hb hr hlocks rfl hI hAe rfl dX7_first_42
      · replace hf := ite_f hc hf
        refine lv_bipush (v := -2) hx hb dX7_first_22 (by decide) ?_
        replace hf := Option.some.inj hf
        subst hf
        replace hM : ((-2 : Int32), P_can_0, P_picked_0, P_left_0, N_number_0) = out := hM
        subst hM
        refine W.widen (k := 0) (n := 0) (Nat.le_of_ble_eq_true rfl) (Nat.le_of_ble_eq_true rfl) ?_
        replace hI := hI.perm (w2 := [(x0, .inr (7, [.ref n0, .ref q0, v_heapsOfNet, .ref p0, v_tallyOfNet])), (n0, .inr (3, [.int N_postCount, .int N_roadCount, .ref n1, .ref n2, .ref n3, .ref n4, .ref n5, .ref n6])), (n1, .inl (cI, 24, .inl N_first)), (n2, .inl (cI, 24, .inl N_second)), (n3, .inl (cI, 24, .inl N_number_0)), (n4, .inl (cI, 24, .inl N_allowed)), (n5, .inl (cI, 12, .inl N_at)), (n6, .inl (cI, 24, .inl N_beside)), (q0, .inr (5, [.int Q_side, .int Q_height, .ref q1, .ref q2, .ref q3])), (q1, .inl (cI, 81, .inl Q_cell)), (q2, .inl (cI, 9, .inl Q_taken)), (q3, .inl (cI, 512, .inl Q_ways)), (p0, .inr (4, [.ref n0, .ref p1, .ref p2, .ref p3])), (p1, .inl (cI, 12, .inl P_can_0)), (p2, .inl (cI, 12, .inl P_picked_0)), (p3, .inl (cZ, 4096, .inl P_left_0))]) [0, 1, 2, 3, 4, 5, 6, 7, 8, 9, 10, 11, 12, 13, 14, 15] rfl rfl
        exact rt_i (u := ()) hx hb hr hlocks rfl hI hAe rfl dX7_first_24
set_option maxHeartbeats 4000000 in
set_option maxRecDepth 100000 in
theorem kX7_first_n (l : Launch) (D : va_G) (cI cJ cZ : ClassId) (x0 n0 n1 n2 n3 n4 n5 n6 q0 q1 q2 q3 : Nat) (v_heapsOfNet : Value) (v_tallyOfNet : Value) (N_postCount : Int32) (N_roadCount : Int32) (N_first : Nat → Int32) (N_second : Nat → Int32) (N_number_0 : Nat → Int32) (N_allowed : Nat → Int32) (N_at : Nat → Int32) (N_beside : Nat → Int32) (Q_side : Int32) (Q_height : Int32) (Q_cell : Nat → Int32) (Q_taken : Nat → Int32) (Q_ways : Nat → Int32) (a1 : Int32) (out : Int32 × (Nat → Int32) × (Nat → Int32) × (Nat → Int32) × (Nat → Int32)) (hf : FX7_first (fun _ => 0) (fun _ => 0) (fun _ => 0) N_postCount N_roadCount N_first N_second N_number_0 N_allowed N_at N_beside a1 = some out) : MI l yX7_first (Cond.code yX7_first cX7_first 3 (some .int) :: GW) { frames := 20, cells := 4, slots := 4124, locals := 733 } D cI cJ cZ [.ref x0, .int a1] [(x0, .inr (7, [.ref n0, .ref q0, v_heapsOfNet, .null, v_tallyOfNet])), (n0, .inr (3, [.int N_postCount, .int N_roadCount, .ref n1, .ref n2, .ref n3, .ref n4, .ref n5, .ref n6])), (n1, .inl (cI, 24, .inl N_first)), (n2, .inl (cI, 24, .inl N_second)), (n3, .inl (cI, 24, .inl N_number_0)), (n4, .inl (cI, 24, .inl N_allowed)), (n5, .inl (cI, 12, .inl N_at)), (n6, .inl (cI, 24, .inl N_beside)), (q0, .inr (5, [.int Q_side, .int Q_height, .ref q1, .ref q2, .ref q3])), (q1, .inl (cI, 81, .inl Q_cell)), (q2, .inl (cI, 9, .inl Q_taken)), (q3, .inl (cI, 512, .inl Q_ways))] (fun r (_ : Option (Nat × Nat × Nat × Nat)) => r = out.1) (fun (u : Option (Nat × Nat × Nat × Nat)) => u.elim [(x0, .inr (7, [.ref n0, .ref q0, v_heapsOfNet, .null, v_tallyOfNet])), (n0, .inr (3, [.int N_postCount, .int N_roadCount, .ref n1, .ref n2, .ref n3, .ref n4, .ref n5, .ref n6])), (n1, .inl (cI, 24, .inl N_first)), (n2, .inl (cI, 24, .inl N_second)), (n3, .inl (cI, 24, .inl out.2.2.2.2)), (n4, .inl (cI, 24, .inl N_allowed)), (n5, .inl (cI, 12, .inl N_at)), (n6, .inl (cI, 24, .inl N_beside)), (q0, .inr (5, [.int Q_side, .int Q_height, .ref q1, .ref q2, .ref q3])), (q1, .inl (cI, 81, .inl Q_cell)), (q2, .inl (cI, 9, .inl Q_taken)), (q3, .inl (cI, 512, .inl Q_ways))] (fun q => [(x0, .inr (7, [.ref n0, .ref q0, v_heapsOfNet, .ref q.1, v_tallyOfNet])), (n0, .inr (3, [.int N_postCount, .int N_roadCount, .ref n1, .ref n2, .ref n3, .ref n4, .ref n5, .ref n6])), (n1, .inl (cI, 24, .inl N_first)), (n2, .inl (cI, 24, .inl N_second)), (n3, .inl (cI, 24, .inl out.2.2.2.2)), (n4, .inl (cI, 24, .inl N_allowed)), (n5, .inl (cI, 12, .inl N_at)), (n6, .inl (cI, 24, .inl N_beside)), (q0, .inr (5, [.int Q_side, .int Q_height, .ref q1, .ref q2, .ref q3])), (q1, .inl (cI, 81, .inl Q_cell)), (q2, .inl (cI, 9, .inl Q_taken)), (q3, .inl (cI, 512, .inl Q_ways)), (q.1, .inr (4, [.ref n0, .ref q.2.1, .ref q.2.2.1, .ref q.2.2.2])), (q.2.1, .inl (cI, 12, .inl out.2.1)), (q.2.2.1, .inl (cI, 12, .inl out.2.2.1)), (q.2.2.2, .inl (cZ, 4096, .inl out.2.2.2.1))])) := by
  intro sz
  refine Met.ofW (cc := cX7_first) (maxL := 3) (ret := (some .int)) (by decide +kernel) rfl ?_
  intro p e s m args below meth c s₁ B hml hv
  obtain ⟨rfl, hsz, hP, hK, hD0⟩ := hv
  have hx := B.exec
  have hb := B.bytes
  have hr := B.returns
  have hlocks := B.notSynchronized
  have hg : ∀ w ∈ GW, w.before _ s = true := fun w h => atoms_spec (ws := Cond.code yX7_first cX7_first 3 (some .int) :: GW) B.pre w (List.mem_cons_of_mem _ h)
  have hown : s.vm.findClass RX7 = some m.cls := findClass_of_methodNamed B.named
  subst hsz
  obtain ⟨A, hAe⟩ : ∃ A, A = va_A [(x0, .inr (7, [.ref n0, .ref q0, v_heapsOfNet, .null, v_tallyOfNet])), (n0, .inr (3, [.int N_postCount, .int N_roadCount, .ref n1, .ref n2, .ref n3, .ref n4, .ref n5, .ref n6])), (n1, .inl (cI, 24, .inl N_first)), (n2, .inl (cI, 24, .inl N_second)), (n3, .inl (cI, 24, .inl N_number_0)), (n4, .inl (cI, 24, .inl N_allowed)), (n5, .inl (cI, 12, .inl N_at)), (n6, .inl (cI, 24, .inl N_beside)), (q0, .inr (5, [.int Q_side, .int Q_height, .ref q1, .ref q2, .ref q3])), (q1, .inl (cI, 81, .inl Q_cell)), (q2, .inl (cI, 9, .inl Q_taken)), (q3, .inl (cI, 512, .inl Q_ways))] s.heap.size := ⟨_, rfl⟩
  have hA : ∀ q : Nat, s.heap.size ≤ q → A q := fun q h => by rw [hAe]; exact Or.inr h
  have hI : WI D A s.heap [(x0, .inr (7, [.ref n0, .ref q0, v_heapsOfNet, .null, v_tallyOfNet])), (n0, .inr (3, [.int N_postCount, .int N_roadCount, .ref n1, .ref n2, .ref n3, .ref n4, .ref n5, .ref n6])), (n1, .inl (cI, 24, .inl N_first)), (n2, .inl (cI, 24, .inl N_second)), (n3, .inl (cI, 24, .inl N_number_0)), (n4, .inl (cI, 24, .inl N_allowed)), (n5, .inl (cI, 12, .inl N_at)), (n6, .inl (cI, 24, .inl N_beside)), (q0, .inr (5, [.int Q_side, .int Q_height, .ref q1, .ref q2, .ref q3])), (q1, .inl (cI, 81, .inl Q_cell)), (q2, .inl (cI, 9, .inl Q_taken)), (q3, .inl (cI, 512, .inl Q_ways))] s.heap [] := ⟨hP, by rw [hAe]; exact hD0.self, va_S.rf⟩
  have hl := lv_entry [.ref x0, .int a1] (n := 3) (Nat.le_of_ble_eq_true rfl)
  rw [lg_entry_eq]
  generalize (lg_sl [.ref x0, .int a1] ++ List.replicate (3 - (lg_sl [.ref x0, .int a1]).length) Slot.unset).toArray = ls at hl ⊢
  replace hl : lv_has ls 3 [(0, .ref x0), (1, .int a1)] := hl
  obtain ⟨x, hf, hM⟩ : ∃ x, FX7_first (fun _ => 0) (fun _ => 0) (fun _ => 0) N_postCount N_roadCount N_first N_second N_number_0 N_allowed N_at N_beside a1 = some x ∧ x = out := ⟨out, hf, rfl⟩
  refine lv_iload_n hx hb dX7_first_0 rfl (lv_at hl 1 rfl) ?_
  refine lv_if_lt (tgt := 22) hx hb dX7_first_1 (by decide) (fun hc => ?_) (fun hc => ?_)
  · replace hf := ite_t hc hf
    refine lv_bipush (v := -2) hx hb dX7_first_22 (by decide) ?_
    replace hf := Option.some.inj hf
    subst hf
    replace hM : ((-2 : Int32), (fun _ => 0), (fun _ => 0), (fun _ => 0), N_number_0) = out := hM
    subst hM
    refine W.widen (k := 4) (n := 4124) (Nat.le_of_ble_eq_true rfl) (Nat.le_of_ble_eq_true rfl) ?_
    replace hI := hI.perm (w2 := [(x0, .inr (7, [.ref n0, .ref q0, v_heapsOfNet, .null, v_tallyOfNet])), (n0, .inr (3, [.int N_postCount, .int N_roadCount, .ref n1, .ref n2, .ref n3, .ref n4, .ref n5, .ref n6])), (n1, .inl (cI, 24, .inl N_first)), (n2, .inl (cI, 24, .inl N_second)), (n3, .inl (cI, 24, .inl N_number_0)), (n4, .inl (cI, 24, .inl N_allowed)), (n5, .inl (cI, 12, .inl N_at)), (n6, .inl (cI, 24, .inl N_beside)), (q0, .inr (5, [.int Q_side, .int Q_height, .ref q1, .ref q2, .ref q3])), (q1, .inl (cI, 81, .inl Q_cell)), (q2, .inl (cI, 9, .inl Q_taken)), (q3, .inl (cI, 512, .inl Q_ways))]) [0, 1, 2, 3, 4, 5, 6, 7, 8, 9, 10, 11] rfl rfl
    exact rt_i (u := none) hx hb hr hlocks rfl hI hAe rfl dX7_first_24
  · replace hf := ite_f hc hf
    refine lv_iload_n hx hb dX7_first_4 rfl (lv_at hl 1 rfl) ?_
    refine lv_bipush (v := 16) hx hb dX7_first_5 (by decide) ?_
    refine lv_icmp_gt (tgt := 22) hx hb dX7_first_7 (by decide) (fun hc => ?_) (fun hc => ?_)
    · replace hf := ite_t hc hf
      refine lv_bipush (v := -2) hx hb dX7_first_22 (by decide) ?_
      replace hf := Option.some.inj hf
      subst hf
      replace hM : ((-2 : Int32), (fun _ => 0), (fun _ => 0), (fun _ => 0), N_number_0) = out := hM
      subst hM
      refine W.widen (k := 4) (n := 4124) (Nat.le_of_ble_eq_true rfl) (Nat.le_of_ble_eq_true rfl) ?_
      replace hI := hI.perm (w2 := [(x0, .inr (7, [.ref n0, .ref q0, v_heapsOfNet, .null, v_tallyOfNet])), (n0, .inr (3, [.int N_postCount, .int N_roadCount, .ref n1, .ref n2, .ref n3, .ref n4, .ref n5, .ref n6])), (n1, .inl (cI, 24, .inl N_first)), (n2, .inl (cI, 24, .inl N_second)), (n3, .inl (cI, 24, .inl N_number_0)), (n4, .inl (cI, 24, .inl N_allowed)), (n5, .inl (cI, 12, .inl N_at)), (n6, .inl (cI, 24, .inl N_beside)), (q0, .inr (5, [.int Q_side, .int Q_height, .ref q1, .ref q2, .ref q3])), (q1, .inl (cI, 81, .inl Q_cell)), (q2, .inl (cI, 9, .inl Q_taken)), (q3, .inl (cI, 512, .inl Q_ways))]) [0, 1, 2, 3, 4, 5, 6, 7, 8, 9, 10, 11] rfl rfl
      exact rt_i (u := none) hx hb hr hlocks rfl hI hAe rfl dX7_first_24
    · replace hf := ite_f hc hf
      refine lv_aload_n hx hb dX7_first_10 rfl (lv_at hl 0 rfl) ?_
      refine w_get hx hb hg hown hK hI iX7 0 rfl rfl 0 (by decide) wF_RX7_12 rfl dX7_first_11 ?_
      refine w_get hx hb hg hown hK hI iX3 1 rfl rfl 1 (by decide) wF_RX7_35 rfl dX7_first_14 ?_
      refine lv_bipush (v := 12) hx hb dX7_first_17 (by decide) ?_
      refine lv_icmp_le (tgt := 25) hx hb dX7_first_19 (by decide) (fun hc => ?_) (fun hc => ?_)
      · replace hf := ite_t hc hf
        refine lv_aload_n hx hb dX7_first_25 rfl (lv_at hl 0 rfl) ?_
        refine w_Vr (wc := [(x0, .inr (7, [.ref n0, .ref q0, v_heapsOfNet, .null, v_tallyOfNet])), (n0, .inr (3, [.int N_postCount, .int N_roadCount, .ref n1, .ref n2, .ref n3, .ref n4, .ref n5, .ref n6])), (n1, .inl (cI, 24, .inl N_first)), (n2, .inl (cI, 24, .inl N_second)), (n3, .inl (cI, 24, .inl N_number_0)), (n4, .inl (cI, 24, .inl N_allowed)), (n5, .inl (cI, 12, .inl N_at)), (n6, .inl (cI, 24, .inl N_beside)), (q0, .inr (5, [.int Q_side, .int Q_height, .ref q1, .ref q2, .ref q3])), (q1, .inl (cI, 81, .inl Q_cell)), (q2, .inl (cI, 9, .inl Q_taken)), (q3, .inl (cI, 512, .inl Q_ways))]) (wr := []) (rest := []) hx hb hml hg hown hK hA hI (kRX7_pickerHere_n l D cI cJ cZ x0 n0 n1 n2 n3 n4 n5 n6 q0 q1 q2 q3 (v_heapsOfNet) (v_tallyOfNet) N_postCount N_roadCount N_first N_second N_number_0 N_allowed N_at N_beside Q_side Q_height Q_cell Q_taken Q_ways) kvX7_pickerHere wL_RX7_143 ⟨Nat.le_of_ble_eq_true rfl, Nat.le_of_ble_eq_true rfl⟩ rfl rfl [0, 1, 2, 3, 4, 5, 6, 7, 8, 9, 10, 11] [] rfl rfl rfl rfl (by decide) rfl rfl hl.1 (Nat.le_of_ble_eq_true rfl) dX7_first_26 ⟨Nat.le_of_ble_eq_true rfl, Nat.le_of_ble_eq_true rfl⟩ (fun u ra H locs hp hI => ?_)
        obtain ⟨b1, b2, b3, b4⟩ := u
        replace hp : ra = b1 := hp
        rw [hp]
        clear hp
        replace hI : WI D A s.heap [(x0, .inr (7, [.ref n0, .ref q0, v_heapsOfNet, .ref b1, v_tallyOfNet])), (n0, .inr (3, [.int N_postCount, .int N_roadCount, .ref n1, .ref n2, .ref n3, .ref n4, .ref n5, .ref n6])), (n1, .inl (cI, 24, .inl N_first)), (n2, .inl (cI, 24, .inl N_second)), (n3, .inl (cI, 24, .inl N_number_0)), (n4, .inl (cI, 24, .inl N_allowed)), (n5, .inl (cI, 12, .inl N_at)), (n6, .inl (cI, 24, .inl N_beside)), (q0, .inr (5, [.int Q_side, .int Q_height, .ref q1, .ref q2, .ref q3])), (q1, .inl (cI, 81, .inl Q_cell)), (q2, .inl (cI, 9, .inl Q_taken)), (q3, .inl (cI, 512, .inl Q_ways)), (b1, .inr (4, [.ref n0, .ref b2, .ref b3, .ref b4])), (b2, .inl (cI, 12, .inl (fun _ => 0))), (b3, .inl (cI, 12, .inl (fun _ => 0))), (b4, .inl (cZ, 4096, .inl (fun _ => 0)))] H locs := hI
        refine lv_astore_n (lv' := [(2, .ref b1), (0, .ref x0), (1, .int a1)]) hx hb dX7_first_29 rfl hl (by decide) rfl (fun ls hl => ?_)
        refine lv_aload_n hx hb dX7_first_30 rfl (lv_at hl 0 rfl) ?_
        refine lv_iload_n hx hb dX7_first_31 rfl (lv_at hl 2 rfl) ?_
        obtain ⟨o5, ho5, hf⟩ := bd_e hf
        refine w_Vv (wc := (wP cI cJ cZ b1 b2 b3 b4 n0 n1 n2 n3 n4 n5 n6 (fun _ => 0) (fun _ => 0) (fun _ => 0) N_postCount N_roadCount N_first N_second N_number_0 N_allowed N_at N_beside)) (wr := [(x0, .inr (7, [.ref n0, .ref q0, v_heapsOfNet, .ref b1, v_tallyOfNet])), (q0, .inr (5, [.int Q_side, .int Q_height, .ref q1, .ref q2, .ref q3])), (q1, .inl (cI, 81, .inl Q_cell)), (q2, .inl (cI, 9, .inl Q_taken)), (q3, .inl (cI, 512, .inl Q_ways))]) (rest := []) hx hb hml hg hown hK hA hI (kX4_allowBelow l D cI cJ cZ b1 b2 b3 b4 n0 n1 n2 n3 n4 n5 n6 (fun _ => 0) (fun _ => 0) (fun _ => 0) N_postCount N_roadCount N_first N_second N_number_0 N_allowed N_at N_beside a1 o5 ho5) kvX4_allowBelow wL_RX7_152 ⟨Nat.le_of_ble_eq_true rfl, Nat.le_of_ble_eq_true rfl⟩ rfl rfl [12, 13, 14, 15, 1, 2, 3, 4, 5, 6, 7] [0, 8, 9, 10, 11] rfl rfl rfl rfl (by decide) rfl rfl hl.1 (Nat.le_of_ble_eq_true rfl) dX7_first_32 ⟨Nat.le_of_ble_eq_true rfl, Nat.le_of_ble_eq_true rfl⟩ (fun  u H locs hp hI => ?_)
        replace hI : WI D A s.heap [(x0, .inr (7, [.ref n0, .ref q0, v_heapsOfNet, .ref b1, v_tallyOfNet])), (n0, .inr (3, [.int N_postCount, .int N_roadCount, .ref n1, .ref n2, .ref n3, .ref n4, .ref n5, .ref n6])), (n1, .inl (cI, 24, .inl N_first)), (n2, .inl (cI, 24, .inl N_second)), (n3, .inl (cI, 24, .inl N_number_0)), (n4, .inl (cI, 24, .inl N_allowed)), (n5, .inl (cI, 12, .inl N_at)), (n6, .inl (cI, 24, .inl N_beside)), (q0, .inr (5, [.int Q_side, .int Q_height, .ref q1, .ref q2, .ref q3])), (q1, .inl (cI, 81, .inl Q_cell)), (q2, .inl (cI, 9, .inl Q_taken)), (q3, .inl (cI, 512, .inl Q_ways)), (b1, .inr (4, [.ref n0, .ref b2, .ref b3, .ref b4])), (b2, .inl (cI, 12, .inl o5)), (b3, .inl (cI, 12, .inl (fun _ => 0))), (b4, .inl (cZ, 4096, .inl (fun _ => 0)))] H locs := hI.perm [0, 9, 10, 11, 12, 13, 14, 15, 1, 2, 3, 4, 5, 6, 7, 8] rfl rfl
        refine lv_aload_n hx hb dX7_first_35 rfl (lv_at hl 0 rfl) ?_
        obtain ⟨o6, ho6, hf⟩ := bd_e hf
        refine w_Vi (wc := (wP cI cJ cZ b1 b2 b3 b4 n0 n1 n2 n3 n4 n5 n6 o5 (fun _ => 0) (fun _ => 0) N_postCount N_roadCount N_first N_second N_number_0 N_allowed N_at N_beside)) (wr := [(x0, .inr (7, [.ref n0, .ref q0, v_heapsOfNet, .ref b1, v_tallyOfNet])), (q0, .inr (5, [.int Q_side, .int Q_height, .ref q1, .ref q2, .ref q3])), (q1, .inl (cI, 81, .inl Q_cell)), (q2, .inl (cI, 9, .inl Q_taken)), (q3, .inl (cI, 512, .inl Q_ways))]) (rest := []) hx hb hml hg hown hK hA hI (kX4_pickFirst l D cI cJ cZ b1 b2 b3 b4 n0 n1 n2 n3 n4 n5 n6 o5 (fun _ => 0) (fun _ => 0) N_postCount N_roadCount N_first N_second N_number_0 N_allowed N_at N_beside  o6 ho6) kvX4_pickFirst wL_RX7_155 ⟨Nat.le_of_ble_eq_true rfl, Nat.le_of_ble_eq_true rfl⟩ rfl rfl [12, 13, 14, 15, 1, 2, 3, 4, 5, 6, 7] [0, 8, 9, 10, 11] rfl rfl rfl rfl (by decide) rfl rfl hl.1 (Nat.le_of_ble_eq_true rfl) dX7_first_36 ⟨Nat.le_of_ble_eq_true rfl, Nat.le_of_ble_eq_true rfl⟩ (fun r u H locs hp hI => ?_)
        replace hp : r = o6.1 := hp
        rw [hp]
        clear hp
        replace hI : WI D A s.heap [(x0, .inr (7, [.ref n0, .ref q0, v_heapsOfNet, .ref b1, v_tallyOfNet])), (n0, .inr (3, [.int N_postCount, .int N_roadCount, .ref n1, .ref n2, .ref n3, .ref n4, .ref n5, .ref n6])), (n1, .inl (cI, 24, .inl N_first)), (n2, .inl (cI, 24, .inl N_second)), (n3, .inl (cI, 24, .inl o6.2.2.2.2)), (n4, .inl (cI, 24, .inl N_allowed)), (n5, .inl (cI, 12, .inl N_at)), (n6, .inl (cI, 24, .inl N_beside)), (q0, .inr (5, [.int Q_side, .int Q_height, .ref q1, .ref q2, .ref q3])), (q1, .inl (cI, 81, .inl Q_cell)), (q2, .inl (cI, 9, .inl Q_taken)), (q3, .inl (cI, 512, .inl Q_ways)), (b1, .inr (4, [.ref n0, .ref b2, .ref b3, .ref b4])), (b2, .inl (cI, 12, .inl o6.2.1)), (b3, .inl (cI, 12, .inl o6.2.2.1)), (b4, .inl (cZ, 4096, .inl o6.2.2.2.1))] H locs := hI.perm [0, 9, 10, 11, 12, 13, 14, 15, 1, 2, 3, 4, 5, 6, 7, 8] rfl rfl
        obtain ⟨x7, hx7, hf⟩ := bd_e hf
        refine w_S (rest := []) hx hb hml hg hown hK (kX7_asBit l D cI cJ cZ o6.1 x7 hx7) ksX7_asBit wL_RX7_115 ⟨Nat.le_of_ble_eq_true rfl, Nat.le_of_ble_eq_true rfl⟩ ⟨rfl, rfl⟩ rfl rfl hl.1 (Nat.le_of_ble_eq_true rfl) dX7_first_39 ⟨Nat.le_of_ble_eq_true rfl, Nat.le_of_ble_eq_true rfl⟩ ?_
        replace hf := Option.some.inj hf
        subst hf
        replace hM : (x7, o6.2.1, o6.2.2.1, o6.2.2.2.1, o6.2.2.2.2) = out := hM
        subst hM
        refine W.widen (k := 4) (n := 4124) (Nat.le_of_ble_eq_true rfl) (Nat.le_of_ble_eq_true rfl) ?_
        replace hI := hI.perm (w2 := [(x0, .inr (7, [.ref n0, .ref q0, v_heapsOfNet, .ref b1, v_tallyOfNet])), (n0, .inr (3, [.int N_postCount, .int N_roadCount, .ref n1, .ref n2, .ref n3, .ref n4, .ref n5, .ref n6])), (n1, .inl (cI, 24, .inl N_first)), (n2, .inl (cI, 24, .inl N_second)), (n3, .inl (cI, 24, .inl o6.2.2.2.2)), (n4, .inl (cI, 24, .inl N_allowed)), (n5, .inl (cI, 12, .inl N_at)), (n6, .inl (cI, 24, .inl N_beside)), (q0, .inr (5, [.int Q_side, .int Q_height, .ref q1, .ref q2, .ref q3])), (q1, .inl (cI, 81, .inl Q_cell)), (q2, .inl (cI, 9, .inl Q_taken)), (q3, .inl (cI, 512, .inl Q_ways)), (b1, .inr (4, [.ref n0, .ref b2, .ref b3, .ref b4])), (b2, .inl (cI, 12, .inl o6.2.1)), (b3, .inl (cI, 12, .inl o6.2.2.1)), (b4, .inl (cZ, 4096, .inl o6.2.2.2.1))]) [0, 1, 2, 3, 4, 5, 6, 7, 8, 9, 10, 11, 12, 13, 14, 15] rfl rfl
        exact rt_i (u := (some (b1, b2, b3, b4))) hx hb hr hlocks rfl hI hAe rfl dX7_first_42
      · replace hf := ite_f hc hf
        refine lv_bipush (v := -2) hx hb dX7_first_22 (by decide) ?_
        replace hf := Option.some.inj hf
        subst hf
        replace hM : ((-2 : Int32), (fun _ => 0), (fun _ => 0), (fun _ => 0), N_number_0) = out := hM
        subst hM
        refine W.widen (k := 4) (n := 4124) (Nat.le_of_ble_eq_true rfl) (Nat.le_of_ble_eq_true rfl) ?_
        replace hI := hI.perm (w2 := [(x0, .inr (7, [.ref n0, .ref q0, v_heapsOfNet, .null, v_tallyOfNet])), (n0, .inr (3, [.int N_postCount, .int N_roadCount, .ref n1, .ref n2, .ref n3, .ref n4, .ref n5, .ref n6])), (n1, .inl (cI, 24, .inl N_first)), (n2, .inl (cI, 24, .inl N_second)), (n3, .inl (cI, 24, .inl N_number_0)), (n4, .inl (cI, 24, .inl N_allowed)), (n5, .inl (cI, 12, .inl N_at)), (n6, .inl (cI, 24, .inl N_beside)), (q0, .inr (5, [.int Q_side, .int Q_height, .ref q1, .ref q2, .ref q3])), (q1, .inl (cI, 81, .inl Q_cell)), (q2, .inl (cI, 9, .inl Q_taken)), (q3, .inl (cI, 512, .inl Q_ways))]) [0, 1, 2, 3, 4, 5, 6, 7, 8, 9, 10, 11] rfl rfl
        exact rt_i (u := none) hx hb hr hlocks rfl hI hAe rfl dX7_first_24
theorem kvX7_critical : CalV RX7 yX7_critical cX7_critical 1 (some .int) 0 := ⟨wC_yX7_critical, wM_yX7_critical, wS_yX7_critical, wI_RX7, by decide +kernel⟩
noncomputable def FX7_critical (P_can : Nat → Int32) (P_picked : Nat → Int32) (P_left : Nat → Int32) (N_postCount : Int32) (N_roadCount : Int32) (N_first : Nat → Int32) (N_second : Nat → Int32) (N_number : Nat → Int32) (N_allowed : Nat → Int32) (N_at : Nat → Int32) (N_beside : Nat → Int32) : Option (Int32 × (Nat → Int32) × (Nat → Int32) × (Nat → Int32)) :=
  if N_roadCount ≤ (12 : Int32) then ((FX4_isCritical P_can P_left N_postCount N_roadCount N_first N_second N_at N_beside).bind (fun o1 => (FX7_asBit o1.1).bind (fun x2 => some (x2, o1.2.1, P_picked, o1.2.2)))) else (some ((-2 : Int32), P_can, P_picked, P_left))
set_option maxHeartbeats 4000000 in
set_option maxRecDepth 100000 in
theorem kX7_critical_s (l : Launch) (D : va_G) (cI cJ cZ : ClassId) (x0 n0 n1 n2 n3 n4 n5 n6 q0 q1 q2 q3 p0 p1 p2 p3 : Nat) (v_heapsOfNet : Value) (v_tallyOfNet : Value) (N_postCount : Int32) (N_roadCount : Int32) (N_first : Nat → Int32) (N_second : Nat → Int32) (N_number : Nat → Int32) (N_allowed : Nat → Int32) (N_at : Nat → Int32) (N_beside : Nat → Int32) (Q_side : Int32) (Q_height : Int32) (Q_cell : Nat → Int32) (Q_taken : Nat → Int32) (Q_ways : Nat → Int32) (P_can_0 : Nat → Int32) (P_picked_0 : Nat → Int32) (P_left_0 : Nat → Int32) (out : Int32 × (Nat → Int32) × (Nat → Int32) × (Nat → Int32)) (hf : FX7_critical P_can_0 P_picked_0 P_left_0 N_postCount N_roadCount N_first N_second N_number N_allowed N_at N_beside = some out) : MI l yX7_critical (Cond.code yX7_critical cX7_critical 1 (some .int) :: GW) { frames := 19, cells := 0, slots := 0, locals := 709 } D cI cJ cZ [.ref x0] [(x0, .inr (7, [.ref n0, .ref q0, v_heapsOfNet, .ref p0, v_tallyOfNet])), (n0, .inr (3, [.int N_postCount, .int N_roadCount, .ref n1, .ref n2, .ref n3, .ref n4, .ref n5, .ref n6])), (n1, .inl (cI, 24, .inl N_first)), (n2, .inl (cI, 24, .inl N_second)), (n3, .inl (cI, 24, .inl N_number)), (n4, .inl (cI, 24, .inl N_allowed)), (n5, .inl (cI, 12, .inl N_at)), (n6, .inl (cI, 24, .inl N_beside)), (q0, .inr (5, [.int Q_side, .int Q_height, .ref q1, .ref q2, .ref q3])), (q1, .inl (cI, 81, .inl Q_cell)), (q2, .inl (cI, 9, .inl Q_taken)), (q3, .inl (cI, 512, .inl Q_ways)), (p0, .inr (4, [.ref n0, .ref p1, .ref p2, .ref p3])), (p1, .inl (cI, 12, .inl P_can_0)), (p2, .inl (cI, 12, .inl P_picked_0)), (p3, .inl (cZ, 4096, .inl P_left_0))] (fun r (_ : Unit) => r = out.1) (fun (_ : Unit) => [(x0, .inr (7, [.ref n0, .ref q0, v_heapsOfNet, .ref p0, v_tallyOfNet])), (n0, .inr (3, [.int N_postCount, .int N_roadCount, .ref n1, .ref n2, .ref n3, .ref n4, .ref n5, .ref n6])), (n1, .inl (cI, 24, .inl N_first)), (n2, .inl (cI, 24, .inl N_second)), (n3, .inl (cI, 24, .inl N_number)), (n4, .inl (cI, 24, .inl N_allowed)), (n5, .inl (cI, 12, .inl N_at)), (n6, .inl (cI, 24, .inl N_beside)), (q0, .inr (5, [.int Q_side, .int Q_height, .ref q1, .ref q2, .ref q3])), (q1, .inl (cI, 81, .inl Q_cell)), (q2, .inl (cI, 9, .inl Q_taken)), (q3, .inl (cI, 512, .inl Q_ways)), (p0, .inr (4, [.ref n0, .ref p1, .ref p2, .ref p3])), (p1, .inl (cI, 12, .inl out.2.1)), (p2, .inl (cI, 12, .inl out.2.2.1)), (p3, .inl (cZ, 4096, .inl out.2.2.2))]) := by
  intro sz
  refine Met.ofW (cc := cX7_critical) (maxL := 1) (ret := (some .int)) (by decide +kernel) rfl ?_
  intro p e s m args below meth c s₁ B hml hv
  obtain ⟨rfl, hsz, hP, hK, hD0⟩ := hv
  have hx := B.exec
  have hb := B.bytes
  have hr := B.returns
  have hlocks := B.notSynchronized
  have hg : ∀ w ∈ GW, w.before _ s = true := fun w h => atoms_spec (ws := Cond.code yX7_critical cX7_critical 1 (some .int) :: GW) B.pre w (List.mem_cons_of_mem _ h)
  have hown : s.vm.findClass RX7 = some m.cls := findClass_of_methodNamed B.named
  subst hsz
  obtain ⟨A, hAe⟩ : ∃ A, A = va_A [(x0, .inr (7, [.ref n0, .ref q0, v_heapsOfNet, .ref p0, v_tallyOfNet])), (n0, .inr (3, [.int N_postCount, .int N_roadCount, .ref n1, .ref n2, .ref n3, .ref n4, .ref n5, .ref n6])), (n1, .inl (cI, 24, .inl N_first)), (n2, .inl (cI, 24, .inl N_second)), (n3, .inl (cI, 24, .inl N_number)), (n4, .inl (cI, 24, .inl N_allowed)), (n5, .inl (cI, 12, .inl N_at)), (n6, .inl (cI, 24, .inl N_beside)), (q0, .inr (5, [.int Q_side, .int Q_height, .ref q1, .ref q2, .ref q3])), (q1, .inl (cI, 81, .inl Q_cell)), (q2, .inl (cI, 9, .inl Q_taken)), (q3, .inl (cI, 512, .inl Q_ways)), (p0, .inr (4, [.ref n0, .ref p1, .ref p2, .ref p3])), (p1, .inl (cI, 12, .inl P_can_0)), (p2, .inl (cI, 12, .inl P_picked_0)), (p3, .inl (cZ, 4096, .inl P_left_0))] s.heap.size := ⟨_, rfl⟩
  have hA : ∀ q : Nat, s.heap.size ≤ q → A q := fun q h => by rw [hAe]; exact Or.inr h
  have hI : WI D A s.heap [(x0, .inr (7, [.ref n0, .ref q0, v_heapsOfNet, .ref p0, v_tallyOfNet])), (n0, .inr (3, [.int N_postCount, .int N_roadCount, .ref n1, .ref n2, .ref n3, .ref n4, .ref n5, .ref n6])), (n1, .inl (cI, 24, .inl N_first)), (n2, .inl (cI, 24, .inl N_second)), (n3, .inl (cI, 24, .inl N_number)), (n4, .inl (cI, 24, .inl N_allowed)), (n5, .inl (cI, 12, .inl N_at)), (n6, .inl (cI, 24, .inl N_beside)), (q0, .inr (5, [.int Q_side, .int Q_height, .ref q1, .ref q2, .ref q3])), (q1, .inl (cI, 81, .inl Q_cell)), (q2, .inl (cI, 9, .inl Q_taken)), (q3, .inl (cI, 512, .inl Q_ways)), (p0, .inr (4, [.ref n0, .ref p1, .ref p2, .ref p3])), (p1, .inl (cI, 12, .inl P_can_0)), (p2, .inl (cI, 12, .inl P_picked_0)), (p3, .inl (cZ, 4096, .inl P_left_0))] s.heap [] := ⟨hP, by rw [hAe]; exact hD0.self, va_S.rf⟩
  have hl := lv_entry [.ref x0] (n := 1) (Nat.le_of_ble_eq_true rfl)
  rw [lg_entry_eq]
  generalize (lg_sl [.ref x0] ++ List.replicate (1 - (lg_sl [.ref x0]).length) Slot.unset).toArray = ls at hl ⊢
  replace hl : lv_has ls 1 [(0, .ref x0)] := hl
  obtain ⟨x, hf, hM⟩ : ∃ x, FX7_critical P_can_0 P_picked_0 P_left_0 N_postCount N_roadCount N_first N_second N_number N_allowed N_at N_beside = some x ∧ x = out := ⟨out, hf, rfl⟩
  refine lv_aload_n hx hb dX7_critical_0 rfl (lv_at hl 0 rfl) ?_
  refine w_get hx hb hg hown hK hI iX7 0 rfl rfl 0 (by decide) wF_RX7_12 rfl dX7_critical_1 ?_
  refine w_get hx hb hg hown hK hI iX3 1 rfl rfl 1 (by decide) wF_RX7_35 rfl dX7_critical_4 ?_
  refine lv_bipush (v := 12) hx hb dX7_critical_7 (by decide) ?_
  refine lv_icmp_le (tgt := 15) hx hb dX7_critical_9 (by decide) (fun hc => ?_) (fun hc => ?_)
  · replace hf := ite_t hc hf
    refine lv_aload_n hx hb dX7_critical_15 rfl (lv_at hl 0 rfl) ?_
    refine w_Vr (wc := [(x0, .inr (7, [.ref n0, .ref q0, v_heapsOfNet, .ref p0, v_tallyOfNet])), (n0, .inr (3, [.int N_postCount, .int N_roadCount, .ref n1, .ref n2, .ref n3, .ref n4, .ref n5, .ref n6])), (n1, .inl (cI, 24, .inl N_first)), (n2, .inl (cI, 24, .inl N_second)), (n3, .inl (cI, 24, .inl N_number)), (n4, .inl (cI, 24, .inl N_allowed)), (n5, .inl (cI, 12, .inl N_at)), (n6, .inl (cI, 24, .inl N_beside)), (q0, .inr (5, [.int Q_side, .int Q_height, .ref q1, .ref q2, .ref q3])), (q1, .inl (cI, 81, .inl Q_cell)), (q2, .inl (cI, 9, .inl Q_taken)), (q3, .inl (cI, 512, .inl Q_ways)), (p0, .inr (4, [.ref n0, .ref p1, .ref p2, .ref p3])), (p1, .inl (cI, 12, .inl P_can_0)), (p2, .inl (cI, 12, .inl P_picked_0)), (p3, .inl (cZ, 4096, .inl P_left_0))]) (wr := []) (rest := []) hx hb hml hg hown hK hA hI (kRX7_pickerHere_s l D cI cJ cZ x0 n0 n1 n2 n3 n4 n5 n6 q0 q1 q2 q3 p0 p1 p2 p3 (v_heapsOfNet) (v_tallyOfNet) N_postCount N_roadCount N_first N_second N_number N_allowed N_at N_beside Q_side Q_height Q_cell Q_taken Q_ways P_can_0 P_picked_0 P_left_0) kvX7_pickerHere wL_RX7_143 ⟨Nat.le_of_ble_eq_true rfl, Nat.le_of_ble_eq_true rfl⟩ rfl rfl [0, 1, 2, 3, 4, 5, 6, 7, 8, 9, 10, 11, 12, 13, 14, 15] [] rfl rfl rfl rfl (by decide) rfl rfl hl.1 (Nat.le_of_ble_eq_true rfl) dX7_critical_16 ⟨Nat.le_of_ble_eq_true rfl, Nat.le_of_ble_eq_true rfl⟩ (fun u ra H locs hp hI => ?_)
    replace hp : ra = p0 := hp
    rw [hp]
    clear hp
    replace hI : WI D A s.heap [(x0, .inr (7, [.ref n0, .ref q0, v_heapsOfNet, .ref p0, v_tallyOfNet])), (n0, .inr (3, [.int N_postCount, .int N_roadCount, .ref n1, .ref n2, .ref n3, .ref n4, .ref n5, .ref n6])), (n1, .inl (cI, 24, .inl N_first)), (n2, .inl (cI, 24, .inl N_second)), (n3, .inl (cI, 24, .inl N_number)), (n4, .inl (cI, 24, .inl N_allowed)), (n5, .inl (cI, 12, .inl N_at)), (n6, .inl (cI, 24, .inl N_beside)), (q0, .inr (5, [.int Q_side, .int Q_height, .ref q1, .ref q2, .ref q3])), (q1, .inl (cI, 81, .inl Q_cell)), (q2, .inl (cI, 9, .inl Q_taken)), (q3, .inl (cI, 512, .inl Q_ways)), (p0, .inr (4, [.ref n0, .ref p1, .ref p2, .ref p3])), (p1, .inl (cI, 12, .inl P_can_0)), (p2, .inl (cI, 12, .inl P_picked_0)), (p3, .inl (cZ, 4096, .inl P_left_0))] H locs := hI
    obtain ⟨o1, ho1, hf⟩ := bd_e hf
    refine w_Vi (wc := (wP cI cJ cZ p0 p1 p2 p3 n0 n1 n2 n3 n4 n5 n6 P_can_0 P_picked_0 P_left_0 N_postCount N_roadCount N_first N_second N_number N_allowed N_at N_beside)) (wr := [(x0, .inr (7, [.ref n0, .ref q0, v_heapsOfNet, .ref p0, v_tallyOfNet])), (q0, .inr (5, [.int Q_side, .int Q_height, .ref q1, .ref q2, .ref q3])), (q1, .inl (cI, 81, .inl Q_cell)), (q2, .inl (cI, 9, .inl Q_taken)), (q3, .inl (cI, 512, .inl Q_ways))]) (rest := []) hx hb hml hg hown hK hA hI (kX4_isCritical l D cI cJ cZ p0 p1 p2 p3 n0 n1 n2 n3 n4 n5 n6 P_can_0 P_picked_0 P_left_0 N_postCount N_roadCount N_first N_second N_number N_allowed N_at N_beside  o1 ho1) kvX4_isCritical wL_RX7_173 ⟨Nat.le_of_ble_eq_true rfl, Nat.le_of_ble_eq_true rfl⟩ rfl rfl [12, 13, 14, 15, 1, 2, 3, 4, 5, 6, 7] [0, 8, 9, 10, 11] rfl rfl rfl rfl (by decide) rfl rfl hl.1 (Nat.le_of_ble_eq_true rfl) dX7_critical_19 ⟨Nat.le_of_ble_eq_true rfl, Nat.le_of_ble_eq_true rfl⟩ (fun r u H locs hp hI => ?_)
    replace hp : r = o1.1 := hp
    rw [hp]
    clear hp
    replace hI : WI D A s.heap [(x0, .inr (7, [.ref n0, .ref q0, v_heapsOfNet, .ref p0, v_tallyOfNet])), (n0, .inr (3, [.int N_postCount, .int N_roadCount, .ref n1, .ref n2, .ref n3, .ref n4, .ref n5, .ref n6])), (n1, .inl (cI, 24, .inl N_first)), (n2, .inl (cI, 24, .inl N_second)), (n3, .inl (cI, 24, .inl N_number)), (n4, .inl (cI, 24, .inl N_allowed)), (n5, .inl (cI, 12, .inl N_at)), (n6, .inl (cI, 24, .inl N_beside)), (q0, .inr (5, [.int Q_side, .int Q_height, .ref q1, .ref q2, .ref q3])), (q1, .inl (cI, 81, .inl Q_cell)), (q2, .inl (cI, 9, .inl Q_taken)), (q3, .inl (cI, 512, .inl Q_ways)), (p0, .inr (4, [.ref n0, .ref p1, .ref p2, .ref p3])), (p1, .inl (cI, 12, .inl o1.2.1)), (p2, .inl (cI, 12, .inl P_picked_0)), (p3, .inl (cZ, 4096, .inl o1.2.2))] H locs := hI.perm [0, 9, 10, 11, 12, 13, 14, 15, 1, 2, 3, 4, 5, 6, 7, 8] rfl rfl
    obtain ⟨x2, hx2, hf⟩ := bd_e hf
    refine w_S (rest := []) hx hb hml hg hown hK (kX7_asBit l D cI cJ cZ o1.1 x2 hx2) ksX7_asBit wL_RX7_115 ⟨Nat.le_of_ble_eq_true rfl, Nat.le_of_ble_eq_true rfl⟩ ⟨rfl, rfl⟩ rfl rfl hl.1 (Nat.le_of_ble_eq_true rfl) dX7_critical_22 ⟨Nat.le_of_ble_eq_true rfl, Nat.le_of_ble_eq_true rfl⟩ ?_
    replace hf := Option.some.inj hf
    subst hf
    replace hM : (x2, o1.2.1, P_picked_0, o1.2.2) = out := hM
    subst hM
    refine W.widen (k := 0) (n := 0) (Nat.le_of_ble_eq_true rfl) (Nat.le_of_ble_eq_true rfl) ?_
    replace hI := hI.perm (w2 := [(x0, .inr (7, [.ref n0, .ref q0, v_heapsOfNet, .ref p0, v_tallyOfNet])), (n0, .inr (3, [.int N_postCount, .int N_roadCount, .ref n1, .ref n2, .ref n3, .ref n4, .ref n5, .ref n6])), (n1, .inl (cI, 24, .inl N_first)), (n2, .inl (cI, 24, .inl N_second)), (n3, .inl (cI, 24, .inl N_number)), (n4, .inl (cI, 24, .inl N_allowed)), (n5, .inl (cI, 12, .inl N_at)), (n6, .inl (cI, 24, .inl N_beside)), (q0, .inr (5, [.int Q_side, .int Q_height, .ref q1, .ref q2, .ref q3])), (q1, .inl (cI, 81, .inl Q_cell)), (q2, .inl (cI, 9, .inl Q_taken)), (q3, .inl (cI, 512, .inl Q_ways)), (p0, .inr (4, [.ref n0, .ref p1, .ref p2, .ref p3])), (p1, .inl (cI, 12, .inl o1.2.1)), (p2, .inl (cI, 12, .inl P_picked_0)), (p3, .inl (cZ, 4096, .inl o1.2.2))]) [0, 1, 2, 3, 4, 5, 6, 7, 8, 9, 10, 11, 12, 13, 14, 15] rfl rfl
    exact rt_i (u := ()) hx hb hr hlocks rfl hI hAe rfl dX7_critical_25
  · replace hf := ite_f hc hf
    refine lv_bipush (v := -2) hx hb dX7_critical_12 (by decide) ?_
    replace hf := Option.some.inj hf
    subst hf
    replace hM : ((-2 : Int32), P_can_0, P_picked_0, P_left_0) = out := hM
    subst hM
    refine W.widen (k := 0) (n := 0) (Nat.le_of_ble_eq_true rfl) (Nat.le_of_ble_eq_true rfl) ?_
    replace hI := hI.perm (w2 := [(x0, .inr (7, [.ref n0, .ref q0, v_heapsOfNet, .ref p0, v_tallyOfNet])), (n0, .inr (3, [.int N_postCount, .int N_roadCount, .ref n1, .ref n2, .ref n3, .ref n4, .ref n5, .ref n6])), (n1, .inl (cI, 24, .inl N_first)), (n2, .inl (cI, 24, .inl N_second)), (n3, .inl (cI, 24, .inl N_number)), (n4, .inl (cI, 24, .inl N_allowed)), (n5, .inl (cI, 12, .inl N_at)), (n6, .inl (cI, 24, .inl N_beside)), (q0, .inr (5, [.int Q_side, .int Q_height, .ref q1, .ref q2, .ref q3])), (q1, .inl (cI, 81, .inl Q_cell)), (q2, .inl (cI, 9, .inl Q_taken)), (q3, .inl (cI, 512, .inl Q_ways)), (p0, .inr (4, [.ref n0, .ref p1, .ref p2, .ref p3])), (p1, .inl (cI, 12, .inl P_can_0)), (p2, .inl (cI, 12, .inl P_picked_0)), (p3, .inl (cZ, 4096, .inl P_left_0))]) [0, 1, 2, 3, 4, 5, 6, 7, 8, 9, 10, 11, 12, 13, 14, 15] rfl rfl
    exact rt_i (u := ()) hx hb hr hlocks rfl hI hAe rfl dX7_critical_14
set_option maxHeartbeats 4000000 in
set_option maxRecDepth 100000 in
theorem kX7_critical_n (l : Launch) (D : va_G) (cI cJ cZ : ClassId) (x0 n0 n1 n2 n3 n4 n5 n6 q0 q1 q2 q3 : Nat) (v_heapsOfNet : Value) (v_tallyOfNet : Value) (N_postCount : Int32) (N_roadCount : Int32) (N_first : Nat → Int32) (N_second : Nat → Int32) (N_number : Nat → Int32) (N_allowed : Nat → Int32) (N_at : Nat → Int32) (N_beside : Nat → Int32) (Q_side : Int32) (Q_height : Int32) (Q_cell : Nat → Int32) (Q_taken : Nat → Int32) (Q_ways : Nat → Int32) (out : Int32 × (Nat → Int32) × (Nat → Int32) × (Nat → Int32)) (hf : FX7_critical (fun _ => 0) (fun _ => 0) (fun _ => 0) N_postCount N_roadCount N_first N_second N_number N_allowed N_at N_beside = some out) : MI l yX7_critical (Cond.code yX7_critical cX7_critical 1 (some .int) :: GW) { frames := 19, cells := 4, slots := 4124, locals := 709 } D cI cJ cZ [.ref x0] [(x0, .inr (7, [.ref n0, .ref q0, v_heapsOfNet, .null, v_tallyOfNet])), (n0, .inr (3, [.int N_postCount, .int N_roadCount, .ref n1, .ref n2, .ref n3, .ref n4, .ref n5, .ref n6])), (n1, .inl (cI, 24, .inl N_first)), (n2, .inl (cI, 24, .inl N_second)), (n3, .inl (cI, 24, .inl N_number)), (n4, .inl (cI, 24, .inl N_allowed)), (n5, .inl (cI, 12, .inl N_at)), (n6, .inl (cI, 24, .inl N_beside)), (q0, .inr (5, [.int Q_side, .int Q_height, .ref q1, .ref q2, .ref q3])), (q1, .inl (cI, 81, .inl Q_cell)), (q2, .inl (cI, 9, .inl Q_taken)), (q3, .inl (cI, 512, .inl Q_ways))] (fun r (_ : Option (Nat × Nat × Nat × Nat)) => r = out.1) (fun (u : Option (Nat × Nat × Nat × Nat)) => u.elim [(x0, .inr (7, [.ref n0, .ref q0, v_heapsOfNet, .null, v_tallyOfNet])), (n0, .inr (3, [.int N_postCount, .int N_roadCount, .ref n1, .ref n2, .ref n3, .ref n4, .ref n5, .ref n6])), (n1, .inl (cI, 24, .inl N_first)), (n2, .inl (cI, 24, .inl N_second)), (n3, .inl (cI, 24, .inl N_number)), (n4, .inl (cI, 24, .inl N_allowed)), (n5, .inl (cI, 12, .inl N_at)), (n6, .inl (cI, 24, .inl N_beside)), (q0, .inr (5, [.int Q_side, .int Q_height, .ref q1, .ref q2, .ref q3])), (q1, .inl (cI, 81, .inl Q_cell)), (q2, .inl (cI, 9, .inl Q_taken)), (q3, .inl (cI, 512, .inl Q_ways))] (fun q => [(x0, .inr (7, [.ref n0, .ref q0, v_heapsOfNet, .ref q.1, v_tallyOfNet])), (n0, .inr (3, [.int N_postCount, .int N_roadCount, .ref n1, .ref n2, .ref n3, .ref n4, .ref n5, .ref n6])), (n1, .inl (cI, 24, .inl N_first)), (n2, .inl (cI, 24, .inl N_second)), (n3, .inl (cI, 24, .inl N_number)), (n4, .inl (cI, 24, .inl N_allowed)), (n5, .inl (cI, 12, .inl N_at)), (n6, .inl (cI, 24, .inl N_beside)), (q0, .inr (5, [.int Q_side, .int Q_height, .ref q1, .ref q2, .ref q3])), (q1, .inl (cI, 81, .inl Q_cell)), (q2, .inl (cI, 9, .inl Q_taken)), (q3, .inl (cI, 512, .inl Q_ways)), (q.1, .inr (4, [.ref n0, .ref q.2.1, .ref q.2.2.1, .ref q.2.2.2])), (q.2.1, .inl (cI, 12, .inl out.2.1)), (q.2.2.1, .inl (cI, 12, .inl out.2.2.1)), (q.2.2.2, .inl (cZ, 4096, .inl out.2.2.2))])) := by
  intro sz
  refine Met.ofW (cc := cX7_critical) (maxL := 1) (ret := (some .int)) (by decide +kernel) rfl ?_
  intro p e s m args below meth c s₁ B hml hv
  obtain ⟨rfl, hsz, hP, hK, hD0⟩ := hv
  have hx := B.exec
  have hb := B.bytes
  have hr := B.returns
  have hlocks := B.notSynchronized
  have hg : ∀ w ∈ GW, w.before _ s = true := fun w h => atoms_spec (ws := Cond.code yX7_critical cX7_critical 1 (some .int) :: GW) B.pre w (List.mem_cons_of_mem _ h)
  have hown : s.vm.findClass RX7 = some m.cls := findClass_of_methodNamed B.named
  subst hsz
  obtain ⟨A, hAe⟩ : ∃ A, A = va_A [(x0, .inr (7, [.ref n0, .ref q0, v_heapsOfNet, .null, v_tallyOfNet])), (n0, .inr (3, [.int N_postCount, .int N_roadCount, .ref n1, .ref n2, .ref n3, .ref n4, .ref n5, .ref n6])), (n1, .inl (cI, 24, .inl N_first)), (n2, .inl (cI, 24, .inl N_second)), (n3, .inl (cI, 24, .inl N_number)), (n4, .inl (cI, 24, .inl N_allowed)), (n5, .inl (cI, 12, .inl N_at)), (n6, .inl (cI, 24, .inl N_beside)), (q0, .inr (5, [.int Q_side, .int Q_height, .ref q1, .ref q2, .ref q3])), (q1, .inl (cI, 81, .inl Q_cell)), (q2, .inl (cI, 9, .inl Q_taken)), (q3, .inl (cI, 512, .inl Q_ways))] s.heap.size := ⟨_, rfl⟩
  have hA : ∀ q : Nat, s.heap.size ≤ q → A q := fun q h => by rw [hAe]; exact Or.inr h
  have hI : WI D A s.heap [(x0, .inr (7, [.ref n0, .ref q0, v_heapsOfNet, .null, v_tallyOfNet])), (n0, .inr (3, [.int N_postCount, .int N_roadCount, .ref n1, .ref n2, .ref n3, .ref n4, .ref n5, .ref n6])), (n1, .inl (cI, 24, .inl N_first)), (n2, .inl (cI, 24, .inl N_second)), (n3, .inl (cI, 24, .inl N_number)), (n4, .inl (cI, 24, .inl N_allowed)), (n5, .inl (cI, 12, .inl N_at)), (n6, .inl (cI, 24, .inl N_beside)), (q0, .inr (5, [.int Q_side, .int Q_height, .ref q1, .ref q2, .ref q3])), (q1, .inl (cI, 81, .inl Q_cell)), (q2, .inl (cI, 9, .inl Q_taken)), (q3, .inl (cI, 512, .inl Q_ways))] s.heap [] := ⟨hP, by rw [hAe]; exact hD0.self, va_S.rf⟩
  have hl := lv_entry [.ref x0] (n := 1) (Nat.le_of_ble_eq_true rfl)
  rw [lg_entry_eq]
  generalize (lg_sl [.ref x0] ++ List.replicate (1 - (lg_sl [.ref x0]).length) Slot.unset).toArray = ls at hl ⊢
  replace hl : lv_has ls 1 [(0, .ref x0)] := hl
  obtain ⟨x, hf, hM⟩ : ∃ x, FX7_critical (fun _ => 0) (fun _ => 0) (fun _ => 0) N_postCount N_roadCount N_first N_second N_number N_allowed N_at N_beside = some x ∧ x = out := ⟨out, hf, rfl⟩
  refine lv_aload_n hx hb dX7_critical_0 rfl (lv_at hl 0 rfl) ?_
  refine w_get hx hb hg hown hK hI iX7 0 rfl rfl 0 (by decide) wF_RX7_12 rfl dX7_critical_1 ?_
  refine w_get hx hb hg hown hK hI iX3 1 rfl rfl 1 (by decide) wF_RX7_35 rfl dX7_critical_4 ?_
  refine lv_bipush (v := 12) hx hb dX7_critical_7 (by decide) ?_
  refine lv_icmp_le (tgt := 15) hx hb dX7_critical_9 (by decide) (fun hc => ?_) (fun hc => ?_)
  · replace hf := ite_t hc hf
    refine lv_aload_n hx hb dX7_critical_15 rfl (lv_at hl 0 rfl) ?_
    refine w_Vr (wc := [(x0, .inr (7, [.ref n0, .ref q0, v_heapsOfNet, .null, v_tallyOfNet])), (n0, .inr (3, [.int N_postCount, .int N_roadCount, .ref n1, .ref n2, .ref n3, .ref n4, .ref n5, .ref n6])), (n1, .inl (cI, 24, .inl N_first)), (n2, .inl (cI, 24, .inl N_second)), (n3, .inl (cI, 24, .inl N_number)), (n4, .inl (cI, 24, .inl N_allowed)), (n5, .inl (cI, 12, .inl N_at)), (n6, .inl (cI, 24, .inl N_beside)), (q0, .inr (5, [.int Q_side, .int Q_height, .ref q1, .ref q2, .ref q3])), (q1, .inl (cI, 81, .inl Q_cell)), (q2, .inl (cI, 9, .inl Q_taken)), (q3, .inl (cI, 512, .inl Q_ways))]) (wr := []) (rest := []) hx hb hml hg hown hK hA hI (kRX7_pickerHere_n l D cI cJ cZ x0 n0 n1 n2 n3 n4 n5 n6 q0 q1 q2 q3 (v_heapsOfNet) (v_tallyOfNet) N_postCount N_roadCount N_first N_second N_number N_allowed N_at N_beside Q_side Q_height Q_cell Q_taken Q_ways) kvX7_pickerHere wL_RX7_143 ⟨Nat.le_of_ble_eq_true rfl, Nat.le_of_ble_eq_true rfl⟩ rfl rfl [0, 1, 2, 3, 4, 5, 6, 7, 8, 9, 10, 11] [] rfl rfl rfl rfl (by decide) rfl rfl hl.1 (Nat.le_of_ble_eq_true rfl) dX7_critical_16 ⟨Nat.le_of_ble_eq_true rfl, Nat.le_of_ble_eq_true rfl⟩ (fun u ra H locs hp hI => ?_)
    obtain ⟨b1, b2, b3, b4⟩ := u
    replace hp : ra = b1 := hp
    rw [hp]
    clear hp
    replace hI : WI D A s.heap [(x0, .inr (7, [.ref n0, .ref q0, v_heapsOfNet, .ref b1, v_tallyOfNet])), (n0, .inr (3, [.int N_postCount, .int N_roadCount, .ref n1, .ref n2, .ref n3, .ref n4, .ref n5, .ref n6])), (n1, .inl (cI, 24, .inl N_first)), (n2, .inl (cI, 24, .inl N_second)), (n3, .inl (cI, 24, .inl N_number)), (n4, .inl (cI, 24, .inl N_allowed)), (n5, .inl (cI, 12, .inl N_at)), (n6, .inl (cI, 24, .inl N_beside)), (q0, .inr (5, [.int Q_side, .int Q_height, .ref q1, .ref q2, .ref q3])), (q1, .inl (cI, 81, .inl Q_cell)), (q2, .inl (cI, 9, .inl Q_taken)), (q3, .inl (cI, 512, .inl Q_ways)), (b1, .inr (4, [.ref n0, .ref b2, .ref b3, .ref b4])), (b2, .inl (cI, 12, .inl (fun _ => 0))), (b3, .inl (cI, 12, .inl (fun _ => 0))), (b4, .inl (cZ, 4096, .inl (fun _ => 0)))] H locs := hI
    obtain ⟨o5, ho5, hf⟩ := bd_e hf
    refine w_Vi (wc := (wP cI cJ cZ b1 b2 b3 b4 n0 n1 n2 n3 n4 n5 n6 (fun _ => 0) (fun _ => 0) (fun _ => 0) N_postCount N_roadCount N_first N_second N_number N_allowed N_at N_beside)) (wr := [(x0, .inr (7, [.ref n0, .ref q0, v_heapsOfNet, .ref b1, v_tallyOfNet])), (q0, .inr (5, [.int Q_side, .int Q_height, .ref q1, .ref q2, .ref q3])), (q1, .inl (cI, 81, .inl Q_cell)), (q2, .inl (cI, 9, .inl Q_taken)), (q3, .inl (cI, 512, .inl Q_ways))]) (rest := []) hx hb hml hg hown hK hA hI (kX4_isCritical l D cI cJ cZ b1 b2 b3 b4 n0 n1 n2 n3 n4 n5 n6 (fun _ => 0) (fun _ => 0) (fun _ => 0) N_postCount N_roadCount N_first N_second N_number N_allowed N_at N_beside  o5 ho5) kvX4_isCritical wL_RX7_173 ⟨Nat.le_of_ble_eq_true rfl, Nat.le_of_ble_eq_true rfl⟩ rfl rfl [12, 13, 14, 15, 1, 2, 3, 4, 5, 6, 7] [0, 8, 9, 10, 11] rfl rfl rfl rfl (by decide) rfl rfl hl.1 (Nat.le_of_ble_eq_true rfl) dX7_critical_19 ⟨Nat.le_of_ble_eq_true rfl, Nat.le_of_ble_eq_true rfl⟩ (fun r u H locs hp hI => ?_)
    replace hp : r = o5.1 := hp
    rw [hp]
    clear hp
    replace hI : WI D A s.heap [(x0, .inr (7, [.ref n0, .ref q0, v_heapsOfNet, .ref b1, v_tallyOfNet])), (n0, .inr (3, [.int N_postCount, .int N_roadCount, .ref n1, .ref n2, .ref n3, .ref n4, .ref n5, .ref n6])), (n1, .inl (cI, 24, .inl N_first)), (n2, .inl (cI, 24, .inl N_second)), (n3, .inl (cI, 24, .inl N_number)), (n4, .inl (cI, 24, .inl N_allowed)), (n5, .inl (cI, 12, .inl N_at)), (n6, .inl (cI, 24, .inl N_beside)), (q0, .inr (5, [.int Q_side, .int Q_height, .ref q1, .ref q2, .ref q3])), (q1, .inl (cI, 81, .inl Q_cell)), (q2, .inl (cI, 9, .inl Q_taken)), (q3, .inl (cI, 512, .inl Q_ways)), (b1, .inr (4, [.ref n0, .ref b2, .ref b3, .ref b4])), (b2, .inl (cI, 12, .inl o5.2.1)), (b3, .inl (cI, 12, .inl (fun _ => 0))), (b4, .inl (cZ, 4096, .inl o5.2.2))] H locs := hI.perm [0, 9, 10, 11, 12, 13, 14, 15, 1, 2, 3, 4, 5, 6, 7, 8] rfl rfl
    obtain ⟨x6, hx6, hf⟩ := bd_e hf
    refine w_S (rest := []) hx hb hml hg hown hK (kX7_asBit l D cI cJ cZ o5.1 x6 hx6) ksX7_asBit wL_RX7_115 ⟨Nat.le_of_ble_eq_true rfl, Nat.le_of_ble_eq_true rfl⟩ ⟨rfl, rfl⟩ rfl rfl hl.1 (Nat.le_of_ble_eq_true rfl) dX7_critical_22 ⟨Nat.le_of_ble_eq_true rfl, Nat.le_of_ble_eq_true rfl⟩ ?_
    replace hf := Option.some.inj hf
    subst hf
    replace hM : (x6, o5.2.1, (fun _ => 0), o5.2.2) = out := hM
    subst hM
    refine W.widen (k := 4) (n := 4124) (Nat.le_of_ble_eq_true rfl) (Nat.le_of_ble_eq_true rfl) ?_
    replace hI := hI.perm (w2 := [(x0, .inr (7, [.ref n0, .ref q0, v_heapsOfNet, .ref b1, v_tallyOfNet])), (n0, .inr (3, [.int N_postCount, .int N_roadCount, .ref n1, .ref n2, .ref n3, .ref n4, .ref n5, .ref n6])), (n1, .inl (cI, 24, .inl N_first)), (n2, .inl (cI, 24, .inl N_second)), (n3, .inl (cI, 24, .inl N_number)), (n4, .inl (cI, 24, .inl N_allowed)), (n5, .inl (cI, 12, .inl N_at)), (n6, .inl (cI, 24, .inl N_beside)), (q0, .inr (5, [.int Q_side, .int Q_height, .ref q1, .ref q2, .ref q3])), (q1, .inl (cI, 81, .inl Q_cell)), (q2, .inl (cI, 9, .inl Q_taken)), (q3, .inl (cI, 512, .inl Q_ways)), (b1, .inr (4, [.ref n0, .ref b2, .ref b3, .ref b4])), (b2, .inl (cI, 12, .inl o5.2.1)), (b3, .inl (cI, 12, .inl (fun _ => 0))), (b4, .inl (cZ, 4096, .inl o5.2.2))]) [0, 1, 2, 3, 4, 5, 6, 7, 8, 9, 10, 11, 12, 13, 14, 15] rfl rfl
    exact rt_i (u := (some (b1, b2, b3, b4))) hx hb hr hlocks rfl hI hAe rfl dX7_critical_25
  · replace hf := ite_f hc hf
    refine lv_bipush (v := -2) hx hb dX7_critical_12 (by decide) ?_
    replace hf := Option.some.inj hf
    subst hf
    replace hM : ((-2 : Int32), (fun _ => 0), (fun _ => 0), (fun _ => 0)) = out := hM
    subst hM
    refine W.widen (k := 4) (n := 4124) (Nat.le_of_ble_eq_true rfl) (Nat.le_of_ble_eq_true rfl) ?_
    replace hI := hI.perm (w2 := [(x0, .inr (7, [.ref n0, .ref q0, v_heapsOfNet, .null, v_tallyOfNet])), (n0, .inr (3, [.int N_postCount, .int N_roadCount, .ref n1, .ref n2, .ref n3, .ref n4, .ref n5, .ref n6])), (n1, .inl (cI, 24, .inl N_first)), (n2, .inl (cI, 24, .inl N_second)), (n3, .inl (cI, 24, .inl N_number)), (n4, .inl (cI, 24, .inl N_allowed)), (n5, .inl (cI, 12, .inl N_at)), (n6, .inl (cI, 24, .inl N_beside)), (q0, .inr (5, [.int Q_side, .int Q_height, .ref q1, .ref q2, .ref q3])), (q1, .inl (cI, 81, .inl Q_cell)), (q2, .inl (cI, 9, .inl Q_taken)), (q3, .inl (cI, 512, .inl Q_ways))]) [0, 1, 2, 3, 4, 5, 6, 7, 8, 9, 10, 11] rfl rfl
    exact rt_i (u := none) hx hb hr hlocks rfl hI hAe rfl dX7_critical_14
theorem kvX7_choose : CalV RX7 yX7_choose cX7_choose 2 (some .int) 0 := ⟨wC_yX7_choose, wM_yX7_choose, wS_yX7_choose, wI_RX7, by decide +kernel⟩
noncomputable def FX7_choose (P_can : Nat → Int32) (P_picked : Nat → Int32) (P_left : Nat → Int32) (N_postCount : Int32) (N_roadCount : Int32) (N_first : Nat → Int32) (N_second : Nat → Int32) (N_number : Nat → Int32) (N_allowed : Nat → Int32) (N_at : Nat → Int32) (N_beside : Nat → Int32) : Option (Int32 × (Nat → Int32) × (Nat → Int32) × (Nat → Int32) × (Nat → Int32)) :=
  if N_roadCount ≤ (8 : Int32) then ((FX4_allowListed P_can N_roadCount N_allowed).bind (fun o1 => (FX4_pickFirst o1 P_picked P_left N_roadCount N_first N_second N_number N_beside).bind (fun o2 => (FX7_asBit o2.1).bind (fun x3 => some (x3, o2.2.1, o2.2.2.1, o2.2.2.2.1, o2.2.2.2.2))))) else (some ((-2 : Int32), P_can, P_picked, P_left, N_number))
set_option maxHeartbeats 4000000 in
set_option maxRecDepth 100000 in
theorem kX7_choose_s (l : Launch) (D : va_G) (cI cJ cZ : ClassId) (x0 n0 n1 n2 n3 n4 n5 n6 q0 q1 q2 q3 p0 p1 p2 p3 : Nat) (v_heapsOfNet : Value) (v_tallyOfNet : Value) (N_postCount : Int32) (N_roadCount : Int32) (N_first : Nat → Int32) (N_second : Nat → Int32) (N_number_0 : Nat → Int32) (N_allowed : Nat → Int32) (N_at : Nat → Int32) (N_beside : Nat → Int32) (Q_side : Int32) (Q_height : Int32) (Q_cell : Nat → Int32) (Q_taken : Nat → Int32) (Q_ways : Nat → Int32) (P_can_0 : Nat → Int32) (P_picked_0 : Nat → Int32) (P_left_0 : Nat → Int32) (out : Int32 × (Nat → Int32) × (Nat → Int32) × (Nat → Int32) × (Nat → Int32)) (hf : FX7_choose P_can_0 P_picked_0 P_left_0 N_postCount N_roadCount N_first N_second N_number_0 N_allowed N_at N_beside = some out) : MI l yX7_choose (Cond.code yX7_choose cX7_choose 2 (some .int) :: GW) { frames := 20, cells := 0, slots := 0, locals := 733 } D cI cJ cZ [.ref x0] [(x0, .inr (7, [.ref n0, .ref q0, v_heapsOfNet, .ref p0, v_tallyOfNet])), (n0, .inr (3, [.int N_postCount, .int N_roadCount, .ref n1, .ref n2, .ref n3, .ref n4, .ref n5, .ref n6])), (n1, .inl (cI, 24, .inl N_first)), (n2, .inl (cI, 24, .inl N_second)), (n3, .inl (cI, 24, .inl N_number_0)), (n4, .inl (cI, 24, .inl N_allowed)), (n5, .inl (cI, 12, .inl N_at)), (n6, .inl (cI, 24, .inl N_beside)), (q0, .inr (5, [.int Q_side, .int Q_height, .ref q1, .ref q2, .ref q3])), (q1, .inl (cI, 81, .inl Q_cell)), (q2, .inl (cI, 9, .inl Q_taken)), (q3, .inl (cI, 512, .inl Q_ways)), (p0, .inr (4, [.ref n0, .ref p1, .ref p2, .ref p3])), (p1, .inl (cI, 12, .inl P_can_0)), (p2, .inl (cI, 12, .inl P_picked_0)), (p3, .inl (cZ, 4096, .inl P_left_0))] (fun r (_ : Unit) => r = out.1) (fun (_ : Unit) => [(x0, .inr (7, [.ref n0, .ref q0, v_heapsOfNet, .ref p0, v_tallyOfNet])), (n0, .inr (3, [.int N_postCount, .int N_roadCount, .ref n1, .ref n2, .ref n3, .ref n4, .ref n5, .ref n6])), (n1, .inl (cI, 24, .inl N_first)), (n2, .inl (cI, 24, .inl N_second)), (n3, .inl (cI, 24, .inl out.2.2.2.2)), (n4, .inl (cI, 24, .inl N_allowed)), (n5, .inl (cI, 12, .inl N_at)), (n6, .inl (cI, 24, .inl N_beside)), (q0, .inr (5, [.int Q_side, .int Q_height, .ref q1, .ref q2, .ref q3])), (q1, .inl (cI, 81, .inl Q_cell)), (q2, .inl (cI, 9, .inl Q_taken)), (q3, .inl (cI, 512, .inl Q_ways)), (p0, .inr (4, [.ref n0, .ref p1, .ref p2, .ref p3])), (p1, .inl (cI, 12, .inl out.2.1)), (p2, .inl (cI, 12, .inl out.2.2.1)), (p3, .inl (cZ, 4096, .inl out.2.2.2.1))]) := by
  intro sz
  refine Met.ofW (cc := cX7_choose) (maxL := 2) (ret := (some .int)) (by decide +kernel) rfl ?_
  intro p e s m args below meth c s₁ B hml hv
  obtain ⟨rfl, hsz, hP, hK, hD0⟩ := hv
  have hx := B.exec
  have hb := B.bytes
  have hr := B.returns
  have hlocks := B.notSynchronized
  have hg : ∀ w ∈ GW, w.before _ s = true := fun w h => atoms_spec (ws := Cond.code yX7_choose cX7_choose 2 (some .int) :: GW) B.pre w (List.mem_cons_of_mem _ h)
  have hown : s.vm.findClass RX7 = some m.cls := findClass_of_methodNamed B.named
  subst hsz
  obtain ⟨A, hAe⟩ : ∃ A, A = va_A [(x0, .inr (7, [.ref n0, .ref q0, v_heapsOfNet, .ref p0, v_tallyOfNet])), (n0, .inr (3, [.int N_postCount, .int N_roadCount, .ref n1, .ref n2, .ref n3, .ref n4, .ref n5, .ref n6])), (n1, .inl (cI, 24, .inl N_first)), (n2, .inl (cI, 24, .inl N_second)), (n3, .inl (cI, 24, .inl N_number_0)), (n4, .inl (cI, 24, .inl N_allowed)), (n5, .inl (cI, 12, .inl N_at)), (n6, .inl (cI, 24, .inl N_beside)), (q0, .inr (5, [.int Q_side, .int Q_height, .ref q1, .ref q2, .ref q3])), (q1, .inl (cI, 81, .inl Q_cell)), (q2, .inl (cI, 9, .inl Q_taken)), (q3, .inl (cI, 512, .inl Q_ways)), (p0, .inr (4, [.ref n0, .ref p1, .ref p2, .ref p3])), (p1, .inl (cI, 12, .inl P_can_0)), (p2, .inl (cI, 12, .inl P_picked_0)), (p3, .inl (cZ, 4096, .inl P_left_0))] s.heap.size := ⟨_, rfl⟩
  have hA : ∀ q : Nat, s.heap.size ≤ q → A q := fun q h => by rw [hAe]; exact Or.inr h
  have hI : WI D A s.heap [(x0, .inr (7, [.ref n0, .ref q0, v_heapsOfNet, .ref p0, v_tallyOfNet])), (n0, .inr (3, [.int N_postCount, .int N_roadCount, .ref n1, .ref n2, .ref n3, .ref n4, .ref n5, .ref n6])), (n1, .inl (cI, 24, .inl N_first)), (n2, .inl (cI, 24, .inl N_second)), (n3, .inl (cI, 24, .inl N_number_0)), (n4, .inl (cI, 24, .inl N_allowed)), (n5, .inl (cI, 12, .inl N_at)), (n6, .inl (cI, 24, .inl N_beside)), (q0, .inr (5, [.int Q_side, .int Q_height, .ref q1, .ref q2, .ref q3])), (q1, .inl (cI, 81, .inl Q_cell)), (q2, .inl (cI, 9, .inl Q_taken)), (q3, .inl (cI, 512, .inl Q_ways)), (p0, .inr (4, [.ref n0, .ref p1, .ref p2, .ref p3])), (p1, .inl (cI, 12, .inl P_can_0)), (p2, .inl (cI, 12, .inl P_picked_0)), (p3, .inl (cZ, 4096, .inl P_left_0))] s.heap [] := ⟨hP, by rw [hAe]; exact hD0.self, va_S.rf⟩
  have hl := lv_entry [.ref x0] (n := 2) (Nat.le_of_ble_eq_true rfl)
  rw [lg_entry_eq]
  generalize (lg_sl [.ref x0] ++ List.replicate (2 - (lg_sl [.ref x0]).length) Slot.unset).toArray = ls at hl ⊢
  replace hl : lv_has ls 2 [(0, .ref x0)] := hl
  obtain ⟨x, hf, hM⟩ : ∃ x, FX7_choose P_can_0 P_picked_0 P_left_0 N_postCount N_roadCount N_first N_second N_number_0 N_allowed N_at N_beside = some x ∧ x = out := ⟨out, hf, rfl⟩
  refine lv_aload_n hx hb dX7_choose_0 rfl (lv_at hl 0 rfl) ?_
  refine w_get hx hb hg hown hK hI iX7 0 rfl rfl 0 (by decide) wF_RX7_12 rfl dX7_choose_1 ?_
  refine w_get hx hb hg hown hK hI iX3 1 rfl rfl 1 (by decide) wF_RX7_35 rfl dX7_choose_4 ?_
  refine lv_bipush (v := 8) hx hb dX7_choose_7 (by decide) ?_
  refine lv_icmp_le (tgt := 15) hx hb dX7_choose_9 (by decide) (fun hc => ?_) (fun hc => ?_)
  · replace hf := ite_t hc hf
    refine lv_aload_n hx hb dX7_choose_15 rfl (lv_at hl 0 rfl) ?_
    refine w_Vr (wc := [(x0, .inr (7, [.ref n0, .ref q0, v_heapsOfNet, .ref p0, v_tallyOfNet])), (n0, .inr (3, [.int N_postCount, .int N_roadCount, .ref n1, .ref n2, .ref n3, .ref n4, .ref n5, .ref n6])), (n1, .inl (cI, 24, .inl N_first)), (n2, .inl (cI, 24, .inl N_second)), (n3, .inl (cI, 24, .inl N_number_0)), (n4, .inl (cI, 24, .inl N_allowed)), (n5, .inl (cI, 12, .inl N_at)), (n6, .inl (cI, 24, .inl N_beside)), (q0, .inr (5, [.int Q_side, .int Q_height, .ref q1, .ref q2, .ref q3])), (q1, .inl (cI, 81, .inl Q_cell)), (q2, .inl (cI, 9, .inl Q_taken)), (q3, .inl (cI, 512, .inl Q_ways)), (p0, .inr (4, [.ref n0, .ref p1, .ref p2, .ref p3])), (p1, .inl (cI, 12, .inl P_can_0)), (p2, .inl (cI, 12, .inl P_picked_0)), (p3, .inl (cZ, 4096, .inl P_left_0))]) (wr := []) (rest := []) hx hb hml hg hown hK hA hI (kRX7_pickerHere_s l D cI cJ cZ x0 n0 n1 n2 n3 n4 n5 n6 q0 q1 q2 q3 p0 p1 p2 p3 (v_heapsOfNet) (v_tallyOfNet) N_postCount N_roadCount N_first N_second N_number_0 N_allowed N_at N_beside Q_side Q_height Q_cell Q_taken Q_ways P_can_0 P_picked_0 P_left_0) kvX7_pickerHere wL_RX7_143 ⟨Nat.le_of_ble_eq_true rfl, Nat.le_of_ble_eq_true rfl⟩ rfl rfl [0, 1, 2, 3, 4, 5, 6, 7, 8, 9, 10, 11, 12, 13, 14, 15] [] rfl rfl rfl rfl (by decide) rfl rfl hl.1 (Nat.le_of_ble_eq_true rfl) dX7_choose_16 ⟨Nat.le_of_ble_eq_true rfl, Nat.le_of_ble_eq_true rfl⟩ (fun u ra H locs hp hI => ?_)
    replace hp : ra = p0 := hp
    rw [hp]
    clear hp
    replace hI : WI D A s.heap [(x0, .inr (7, [.ref n0, .ref q0, v_heapsOfNet, .ref p0, v_tallyOfNet])), (n0, .inr (3, [.int N_postCount, .int N_roadCount, .ref n1, .ref n2, .ref n3, .ref n4, .ref n5, .ref n6])), (n1, .inl (cI, 24, .inl N_first)), (n2, .inl (cI, 24, .inl N_second)), (n3, .inl (cI, 24, .inl N_number_0)), (n4, .inl (cI, 24, .inl N_allowed)), (n5, .inl (cI, 12, .inl N_at)), (n6, .inl (cI, 24, .inl N_beside)), (q0, .inr (5, [.int Q_side, .int Q_height, .ref q1, .ref q2, .ref q3])), (q1, .inl (cI, 81, .inl Q_cell)), (q2, .inl (cI, 9, .inl Q_taken)), (q3, .inl (cI, 512, .inl Q_ways)), (p0, .inr (4, [.ref n0, .ref p1, .ref p2, .ref p3])), (p1, .inl (cI, 12, .inl P_can_0)), (p2, .inl (cI, 12, .inl P_picked_0)), (p3, .inl (cZ, 4096, .inl P_left_0))] H locs := hI
    refine lv_astore_n (lv' := [(1, .ref p0), (0, .ref x0)]) hx hb dX7_choose_19 rfl hl (by decide) rfl (fun ls hl => ?_)
    refine lv_aload_n hx hb dX7_choose_20 rfl (lv_at hl 0 rfl) ?_
    obtain ⟨o1, ho1, hf⟩ := bd_e hf
    refine w_Vv (wc := (wP cI cJ cZ p0 p1 p2 p3 n0 n1 n2 n3 n4 n5 n6 P_can_0 P_picked_0 P_left_0 N_postCount N_roadCount N_first N_second N_number_0 N_allowed N_at N_beside)) (wr := [(x0, .inr (7, [.ref n0, .ref q0, v_heapsOfNet, .ref p0, v_tallyOfNet])), (q0, .inr (5, [.int Q_side, .int Q_height, .ref q1, .ref q2, .ref q3])), (q1, .inl (cI, 81, .inl Q_cell)), (q2, .inl (cI, 9, .inl Q_taken)), (q3, .inl (cI, 512, .inl Q_ways))]) (rest := []) hx hb hml hg hown hK hA hI (kX4_allowListed l D cI cJ cZ p0 p1 p2 p3 n0 n1 n2 n3 n4 n5 n6 P_can_0 P_picked_0 P_left_0 N_postCount N_roadCount N_first N_second N_number_0 N_allowed N_at N_beside  o1 ho1) kvX4_allowListed wL_RX7_189 ⟨Nat.le_of_ble_eq_true rfl, Nat.le_of_ble_eq_true rfl⟩ rfl rfl [12, 13, 14, 15, 1, 2, 3, 4, 5, 6, 7] [0, 8, 9, 10, 11] rfl rfl rfl rfl (by decide) rfl rfl hl.1 (Nat.le_of_ble_eq_true rfl) dX7_choose_21 ⟨Nat.le_of_ble_eq_true rfl, Nat.le_of_ble_eq_true rfl⟩ (fun  u H locs hp hI => ?_)
    replace hI : WI D A s.heap [(x0, .inr (7, [.ref n0, .ref q0, v_heapsOfNet, .ref p0, v_tallyOfNet])), (n0, .inr (3, [.int N_postCount, .int N_roadCount, .ref n1, .ref n2, .ref n3, .ref n4, .ref n5, .ref n6])), (n1, .inl (cI, 24, .inl N_first)), (n2, .inl (cI, 24, .inl N_second)), (n3, .inl (cI, 24, .inl N_number_0)), (n4, .inl (cI, 24, .inl N_allowed)), (n5, .inl (cI, 12, .inl N_at)), (n6, .inl (cI, 24, .inl N_beside)), (q0, .inr (5, [.int Q_side, .int Q_height, .ref q1, .ref q2, .ref q3])), (q1, .inl (cI, 81, .inl Q_cell)), (q2, .inl (cI, 9, .inl Q_taken)), (q3, .inl (cI, 512, .inl Q_ways)), (p0, .inr (4, [.ref n0, .ref p1, .ref p2, .ref p3])), (p1, .inl (cI, 12, .inl o1)), (p2, .inl (cI, 12, .inl P_picked_0)), (p3, .inl (cZ, 4096, .inl P_left_0))] H locs := hI.perm [0, 9, 10, 11, 12, 13, 14, 15, 1, 2, 3, 4, 5, 6, 7, 8] rfl rfl
    refine lv_aload_n hx hb dX7_choose_24 rfl (lv_at hl 0 rfl) ?_
    obtain ⟨o2, ho2, hf⟩ := bd_e hf
    refine w_Vi (wc := (wP cI cJ cZ p0 p1 p2 p3 n0 n1 n2 n3 n4 n5 n6 o1 P_picked_0 P_left_0 N_postCount N_roadCount N_first N_second N_number_0 N_allowed N_at N_beside)) (wr := [(x0, .inr (7, [.ref n0, .ref q0, v_heapsOfNet, .ref p0, v_tallyOfNet])), (q0, .inr (5, [.int Q_side, .int Q_height, .ref q1, .ref q2, .ref q3])), (q1, .inl (cI, 81, .inl Q_cell)), (q2, .inl (cI, 9, .inl Q_taken)), (q3, .inl (cI, 512, .inl Q_ways))]) (rest := []) hx hb hml hg hown hK hA hI (kX4_pickFirst l D cI cJ cZ p0 p1 p2 p3 n0 n1 n2 n3 n4 n5 n6 o1 P_picked_0 P_left_0 N_postCount N_roadCount N_first N_second N_number_0 N_allowed N_at N_beside  o2 ho2) kvX4_pickFirst wL_RX7_155 ⟨Nat.le_of_ble_eq_true rfl, Nat.le_of_ble_eq_true rfl⟩ rfl rfl [12, 13, 14, 15, 1, 2, 3, 4, 5, 6, 7] [0, 8, 9, 10, 11] rfl rfl rfl rfl (by decide) rfl rfl hl.1 (Nat.le_of_ble_eq_true rfl) dX7_choose_25 ⟨Nat.le_of_ble_eq_true rfl, Nat.le_of_ble_eq_true rfl⟩ (fun r u H locs hp hI => ?_)
    replace hp : r = o2.1 := hp
    rw [hp]
    clear hp
    replace hI : WI D A s.heap [(x0, .inr (7, [.ref n0, .ref q0, v_heapsOfNet, .ref p0, v_tallyOfNet])), (n0, .inr (3, [.int N_postCount, .int N_roadCount, .ref n1, .ref n2, .ref n3, .ref n4, .ref n5, .ref n6])), (n1, .inl (cI, 24, .inl N_first)), (n2, .inl (cI, 24, .inl N_second)), (n3, .inl (cI, 24, .inl o2.2.2.2.2)), (n4, .inl (cI, 24, .inl N_allowed)), (n5, .inl (cI, 12, .inl N_at)), (n6, .inl (cI, 24, .inl N_beside)), (q0, .inr (5, [.int Q_side, .int Q_height, .ref q1, .ref q2, .ref q3])), (q1, .inl (cI, 81, .inl Q_cell)), (q2, .inl (cI, 9, .inl Q_taken)), (q3, .inl (cI, 512, .inl Q_ways)), (p0, .inr (4, [.ref n0, .ref p1, .ref p2, .ref p3])), (p1, .inl (cI, 12, .inl o2.2.1)), (p2, .inl (cI, 12, .inl o2.2.2.1)), (p3, .inl (cZ, 4096, .inl o2.2.2.2.1))] H locs := hI.perm [0, 9, 10, 11, 12, 13, 14, 15, 1, 2, 3, 4, 5, 6, 7, 8] rfl rfl
    obtain ⟨x3, hx3, hf⟩ := bd_e hf
    refine w_S (rest := []) hx hb hml hg hown hK (kX7_asBit l D cI cJ cZ o2.1 x3 hx3) ksX7_asBit wL_RX7_115 ⟨Nat.le_of_ble_eq_true rfl, Nat.le_of_ble_eq_true rfl⟩ ⟨rfl, rfl⟩ rfl rfl hl.1 (Nat.le_of_ble_eq_true rfl) dX7_choose_28 ⟨Nat.le_of_ble_eq_true rfl, Nat.le_of_ble_eq_true rfl⟩ ?_
    replace hf := Option.some.inj hf
    subst hf
    replace hM : (x3, o2.2.1, o2.2.2.1, o2.2.2.2.1, o2.2.2.2.2) = out := hM
    subst hM
    refine W.widen (k := 0) (n := 0) (Nat.le_of_ble_eq_true rfl) (Nat.le_of_ble_eq_true rfl) ?_
    replace hI := hI.perm (w2 := [(x0, .inr (7, [.ref n0, .ref q0, v_heapsOfNet, .ref p0, v_tallyOfNet])), (n0, .inr (3, [.int N_postCount, .int N_roadCount, .ref n1, .ref n2, .ref n3, .ref n4, .ref n5, .ref n6])), (n1, .inl (cI, 24, .inl N_first)), (n2, .inl (cI, 24, .inl N_second)), (n3, .inl (cI, 24, .inl o2.2.2.2.2)), (n4, .inl (cI, 24, .inl N_allowed)), (n5, .inl (cI, 12, .inl N_at)), (n6, .inl (cI, 24, .inl N_beside)), (q0, .inr (5, [.int Q_side, .int Q_height, .ref q1, .ref q2, .ref q3])), (q1, .inl (cI, 81, .inl Q_cell)), (q2, .inl (cI, 9, .inl Q_taken)), (q3, .inl (cI, 512, .inl Q_ways)), (p0, .inr (4, [.ref n0, .ref p1, .ref p2, .ref p3])), (p1, .inl (cI, 12, .inl o2.2.1)), (p2, .inl (cI, 12, .inl o2.2.2.1)), (p3, .inl (cZ, 4096, .inl o2.2.2.2.1))]) [0, 1, 2, 3, 4, 5, 6, 7, 8, 9, 10, 11, 12, 13, 14, 15] rfl rfl
    exact rt_i (u := ()) hx hb hr hlocks rfl hI hAe rfl dX7_choose_31
  · replace hf := ite_f hc hf
    refine lv_bipush (v := -2) hx hb dX7_choose_12 (by decide) ?_
    replace hf := Option.some.inj hf
    subst hf
    replace hM : ((-2 : Int32), P_can_0, P_picked_0, P_left_0, N_number_0) = out := hM
    subst hM
    refine W.widen (k := 0) (n := 0) (Nat.le_of_ble_eq_true rfl) (Nat.le_of_ble_eq_true rfl) ?_
    replace hI := hI.perm (w2 := [(x0, .inr (7, [.ref n0, .ref q0, v_heapsOfNet, .ref p0, v_tallyOfNet])), (n0, .inr (3, [.int N_postCount, .int N_roadCount, .ref n1, .ref n2, .ref n3, .ref n4, .ref n5, .ref n6])), (n1, .inl (cI, 24, .inl N_first)), (n2, .inl (cI, 24, .inl N_second)), (n3, .inl (cI, 24, .inl N_number_0)), (n4, .inl (cI, 24, .inl N_allowed)), (n5, .inl (cI, 12, .inl N_at)), (n6, .inl (cI, 24, .inl N_beside)), (q0, .inr (5, [.int Q_side, .int Q_height, .ref q1, .ref q2, .ref q3])), (q1, .inl (cI, 81, .inl Q_cell)), (q2, .inl (cI, 9, .inl Q_taken)), (q3, .inl (cI, 512, .inl Q_ways)), (p0, .inr (4, [.ref n0, .ref p1, .ref p2, .ref p3])), (p1, .inl (cI, 12, .inl P_can_0)), (p2, .inl (cI, 12, .inl P_picked_0)), (p3, .inl (cZ, 4096, .inl P_left_0))]) [0, 1, 2, 3, 4, 5, 6, 7, 8, 9, 10, 11, 12, 13, 14, 15] rfl rfl
    exact rt_i (u := ()) hx hb hr hlocks rfl hI hAe rfl dX7_choose_14
set_option maxHeartbeats 4000000 in
set_option maxRecDepth 100000 in
theorem kX7_choose_n (l : Launch) (D : va_G) (cI cJ cZ : ClassId) (x0 n0 n1 n2 n3 n4 n5 n6 q0 q1 q2 q3 : Nat) (v_heapsOfNet : Value) (v_tallyOfNet : Value) (N_postCount : Int32) (N_roadCount : Int32) (N_first : Nat → Int32) (N_second : Nat → Int32) (N_number_0 : Nat → Int32) (N_allowed : Nat → Int32) (N_at : Nat → Int32) (N_beside : Nat → Int32) (Q_side : Int32) (Q_height : Int32) (Q_cell : Nat → Int32) (Q_taken : Nat → Int32) (Q_ways : Nat → Int32) (out : Int32 × (Nat → Int32) × (Nat → Int32) × (Nat → Int32) × (Nat → Int32)) (hf : FX7_choose (fun _ => 0) (fun _ => 0) (fun _ => 0) N_postCount N_roadCount N_first N_second N_number_0 N_allowed N_at N_beside = some out) : MI l yX7_choose (Cond.code yX7_choose cX7_choose 2 (some .int) :: GW) { frames := 20, cells := 4, slots := 4124, locals := 733 } D cI cJ cZ [.ref x0] [(x0, .inr (7, [.ref n0, .ref q0, v_heapsOfNet, .null, v_tallyOfNet])), (n0, .inr (3, [.int N_postCount, .int N_roadCount, .ref n1, .ref n2, .ref n3, .ref n4, .ref n5, .ref n6])), (n1, .inl (cI, 24, .inl N_first)), (n2, .inl (cI, 24, .inl N_second)), (n3, .inl (cI, 24, .inl N_number_0)), (n4, .inl (cI, 24, .inl N_allowed)), (n5, .inl (cI, 12, .inl N_at)), (n6, .inl (cI, 24, .inl N_beside)), (q0, .inr (5, [.int Q_side, .int Q_height, .ref q1, .ref q2, .ref q3])), (q1, .inl (cI, 81, .inl Q_cell)), (q2, .inl (cI, 9, .inl Q_taken)), (q3, .inl (cI, 512, .inl Q_ways))] (fun r (_ : Option (Nat × Nat × Nat × Nat)) => r = out.1) (fun (u : Option (Nat × Nat × Nat × Nat)) => u.elim [(x0, .inr (7, [.ref n0, .ref q0, v_heapsOfNet, .null, v_tallyOfNet])), (n0, .inr (3, [.int N_postCount, .int N_roadCount, .ref n1, .ref n2, .ref n3, .ref n4, .ref n5, .ref n6])), (n1, .inl (cI, 24, .inl N_first)), (n2, .inl (cI, 24, .inl N_second)), (n3, .inl (cI, 24, .inl out.2.2.2.2)), (n4, .inl (cI, 24, .inl N_allowed)), (n5, .inl (cI, 12, .inl N_at)), (n6, .inl (cI, 24, .inl N_beside)), (q0, .inr (5, [.int Q_side, .int Q_height, .ref q1, .ref q2, .ref q3])), (q1, .inl (cI, 81, .inl Q_cell)), (q2, .inl (cI, 9, .inl Q_taken)), (q3, .inl (cI, 512, .inl Q_ways))] (fun q => [(x0, .inr (7, [.ref n0, .ref q0, v_heapsOfNet, .ref q.1, v_tallyOfNet])), (n0, .inr (3, [.int N_postCount, .int N_roadCount, .ref n1, .ref n2, .ref n3, .ref n4, .ref n5, .ref n6])), (n1, .inl (cI, 24, .inl N_first)), (n2, .inl (cI, 24, .inl N_second)), (n3, .inl (cI, 24, .inl out.2.2.2.2)), (n4, .inl (cI, 24, .inl N_allowed)), (n5, .inl (cI, 12, .inl N_at)), (n6, .inl (cI, 24, .inl N_beside)), (q0, .inr (5, [.int Q_side, .int Q_height, .ref q1, .ref q2, .ref q3])), (q1, .inl (cI, 81, .inl Q_cell)), (q2, .inl (cI, 9, .inl Q_taken)), (q3, .inl (cI, 512, .inl Q_ways)), (q.1, .inr (4, [.ref n0, .ref q.2.1, .ref q.2.2.1, .ref q.2.2.2])), (q.2.1, .inl (cI, 12, .inl out.2.1)), (q.2.2.1, .inl (cI, 12, .inl out.2.2.1)), (q.2.2.2, .inl (cZ, 4096, .inl out.2.2.2.1))])) := by
  intro sz
  refine Met.ofW (cc := cX7_choose) (maxL := 2) (ret := (some .int)) (by decide +kernel) rfl ?_
  intro p e s m args below meth c s₁ B hml hv
  obtain ⟨rfl, hsz, hP, hK, hD0⟩ := hv
  have hx := B.exec
  have hb := B.bytes
  have hr := B.returns
  have hlocks := B.notSynchronized
  have hg : ∀ w ∈ GW, w.before _ s = true := fun w h => atoms_spec (ws := Cond.code yX7_choose cX7_choose 2 (some .int) :: GW) B.pre w (List.mem_cons_of_mem _ h)
  have hown : s.vm.findClass RX7 = some m.cls := findClass_of_methodNamed B.named
  subst hsz
  obtain ⟨A, hAe⟩ : ∃ A, A = va_A [(x0, .inr (7, [.ref n0, .ref q0, v_heapsOfNet, .null, v_tallyOfNet])), (n0, .inr (3, [.int N_postCount, .int N_roadCount, .ref n1, .ref n2, .ref n3, .ref n4, .ref n5, .ref n6])), (n1, .inl (cI, 24, .inl N_first)), (n2, .inl (cI, 24, .inl N_second)), (n3, .inl (cI, 24, .inl N_number_0)), (n4, .inl (cI, 24, .inl N_allowed)), (n5, .inl (cI, 12, .inl N_at)), (n6, .inl (cI, 24, .inl N_beside)), (q0, .inr (5, [.int Q_side, .int Q_height, .ref q1, .ref q2, .ref q3])), (q1, .inl (cI, 81, .inl Q_cell)), (q2, .inl (cI, 9, .inl Q_taken)), (q3, .inl (cI, 512, .inl Q_ways))] s.heap.size := ⟨_, rfl⟩
  have hA : ∀ q : Nat, s.heap.size ≤ q → A q := fun q h => by rw [hAe]; exact Or.inr h
  have hI : WI D A s.heap [(x0, .inr (7, [.ref n0, .ref q0, v_heapsOfNet, .null, v_tallyOfNet])), (n0, .inr (3, [.int N_postCount, .int N_roadCount, .ref n1, .ref n2, .ref n3, .ref n4, .ref n5, .ref n6])), (n1, .inl (cI, 24, .inl N_first)), (n2, .inl (cI, 24, .inl N_second)), (n3, .inl (cI, 24, .inl N_number_0)), (n4, .inl (cI, 24, .inl N_allowed)), (n5, .inl (cI, 12, .inl N_at)), (n6, .inl (cI, 24, .inl N_beside)), (q0, .inr (5, [.int Q_side, .int Q_height, .ref q1, .ref q2, .ref q3])), (q1, .inl (cI, 81, .inl Q_cell)), (q2, .inl (cI, 9, .inl Q_taken)), (q3, .inl (cI, 512, .inl Q_ways))] s.heap [] := ⟨hP, by rw [hAe]; exact hD0.self, va_S.rf⟩
  have hl := lv_entry [.ref x0] (n := 2) (Nat.le_of_ble_eq_true rfl)
  rw [lg_entry_eq]
  generalize (lg_sl [.ref x0] ++ List.replicate (2 - (lg_sl [.ref x0]).length) Slot.unset).toArray = ls at hl ⊢
  replace hl : lv_has ls 2 [(0, .ref x0)] := hl
  obtain ⟨x, hf, hM⟩ : ∃ x, FX7_choose (fun _ => 0) (fun _ => 0) (fun _ => 0) N_postCount N_roadCount N_first N_second N_number_0 N_allowed N_at N_beside = some x ∧ x = out := ⟨out, hf, rfl⟩
  refine lv_aload_n hx hb dX7_choose_0 rfl (lv_at hl 0 rfl) ?_
  refine w_get hx hb hg hown hK hI iX7 0 rfl rfl 0 (by decide) wF_RX7_12 rfl dX7_choose_1 ?_
  refine w_get hx hb hg hown hK hI iX3 1 rfl rfl 1 (by decide) wF_RX7_35 rfl dX7_choose_4 ?_
  refine lv_bipush (v := 8) hx hb dX7_choose_7 (by decide) ?_
  refine lv_icmp_le (tgt := 15) hx hb dX7_choose_9 (by decide) (fun hc => ?_) (fun hc => ?_)
  · replace hf := ite_t hc hf
    refine lv_aload_n hx hb dX7_choose_15 rfl (lv_at hl 0 rfl) ?_
    refine w_Vr (wc := [(x0, .inr (7, [.ref n0, .ref q0, v_heapsOfNet, .null, v_tallyOfNet])), (n0, .inr (3, [.int N_postCount, .int N_roadCount, .ref n1, .ref n2, .ref n3, .ref n4, .ref n5, .ref n6])), (n1, .inl (cI, 24, .inl N_first)), (n2, .inl (cI, 24, .inl N_second)), (n3, .inl (cI, 24, .inl N_number_0)), (n4, .inl (cI, 24, .inl N_allowed)), (n5, .inl (cI, 12, .inl N_at)), (n6, .inl (cI, 24, .inl N_beside)), (q0, .inr (5, [.int Q_side, .int Q_height, .ref q1, .ref q2, .ref q3])), (q1, .inl (cI, 81, .inl Q_cell)), (q2, .inl (cI, 9, .inl Q_taken)), (q3, .inl (cI, 512, .inl Q_ways))]) (wr := []) (rest := []) hx hb hml hg hown hK hA hI (kRX7_pickerHere_n l D cI cJ cZ x0 n0 n1 n2 n3 n4 n5 n6 q0 q1 q2 q3 (v_heapsOfNet) (v_tallyOfNet) N_postCount N_roadCount N_first N_second N_number_0 N_allowed N_at N_beside Q_side Q_height Q_cell Q_taken Q_ways) kvX7_pickerHere wL_RX7_143 ⟨Nat.le_of_ble_eq_true rfl, Nat.le_of_ble_eq_true rfl⟩ rfl rfl [0, 1, 2, 3, 4, 5, 6, 7, 8, 9, 10, 11] [] rfl rfl rfl rfl (by decide) rfl rfl hl.1 (Nat.le_of_ble_eq_true rfl) dX7_choose_16 ⟨Nat.le_of_ble_eq_true rfl, Nat.le_of_ble_eq_true rfl⟩ (fun u ra H locs hp hI => ?_)
    obtain ⟨b1, b2, b3, b4⟩ := u
    replace hp : ra = b1 := hp
    rw [hp]
    clear hp
    replace hI : WI D A s.heap [(x0, .inr (7, [.ref n0, .ref q0, v_heapsOfNet, .ref b1, v_tallyOfNet])), (n0, .inr (3, [.int N_postCount, .int N_roadCount, .ref n1, .ref n2, .ref n3, .ref n4, .ref n5, .ref n6])), (n1, .inl (cI, 24, .inl N_first)), (n2, .inl (cI, 24, .inl N_second)), (n3, .inl (cI, 24, .inl N_number_0)), (n4, .inl (cI, 24, .inl N_allowed)), (n5, .inl (cI, 12, .inl N_at)), (n6, .inl (cI, 24, .inl N_beside)), (q0, .inr (5, [.int Q_side, .int Q_height, .ref q1, .ref q2, .ref q3])), (q1, .inl (cI, 81, .inl Q_cell)), (q2, .inl (cI, 9, .inl Q_taken)), (q3, .inl (cI, 512, .inl Q_ways)), (b1, .inr (4, [.ref n0, .ref b2, .ref b3, .ref b4])), (b2, .inl (cI, 12, .inl (fun _ => 0))), (b3, .inl (cI, 12, .inl (fun _ => 0))), (b4, .inl (cZ, 4096, .inl (fun _ => 0)))] H locs := hI
    refine lv_astore_n (lv' := [(1, .ref b1), (0, .ref x0)]) hx hb dX7_choose_19 rfl hl (by decide) rfl (fun ls hl => ?_)
    refine lv_aload_n hx hb dX7_choose_20 rfl (lv_at hl 0 rfl) ?_
    obtain ⟨o5, ho5, hf⟩ := bd_e hf
    refine w_Vv (wc := (wP cI cJ cZ b1 b2 b3 b4 n0 n1 n2 n3 n4 n5 n6 (fun _ => 0) (fun _ => 0) (fun _ => 0) N_postCount N_roadCount N_first N_second N_number_0 N_allowed N_at N_beside)) (wr := [(x0, .inr (7, [.ref n0, .ref q0, v_heapsOfNet, .ref b1, v_tallyOfNet])), (q0, .inr (5, [.int Q_side, .int Q_height, .ref q1, .ref q2, .ref q3])), (q1, .inl (cI, 81, .inl Q_cell)), (q2, .inl (cI, 9, .inl Q_taken)), (q3, .inl (cI, 512, .inl Q_ways))]) (rest := []) hx hb hml hg hown hK hA hI (kX4_allowListed l D cI cJ cZ b1 b2 b3 b4 n0 n1 n2 n3 n4 n5 n6 (fun _ => 0) (fun _ => 0) (fun _ => 0) N_postCount N_roadCount N_first N_second N_number_0 N_allowed N_at N_beside  o5 ho5) kvX4_allowListed wL_RX7_189 ⟨Nat.le_of_ble_eq_true rfl, Nat.le_of_ble_eq_true rfl⟩ rfl rfl [12, 13, 14, 15, 1, 2, 3, 4, 5, 6, 7] [0, 8, 9, 10, 11] rfl rfl rfl rfl (by decide) rfl rfl hl.1 (Nat.le_of_ble_eq_true rfl) dX7_choose_21 ⟨Nat.le_of_ble_eq_true rfl, Nat.le_of_ble_eq_true rfl⟩ (fun  u H locs hp hI => ?_)
    replace hI : WI D A s.heap [(x0, .inr (7, [.ref n0, .ref q0, v_heapsOfNet, .ref b1, v_tallyOfNet])), (n0, .inr (3, [.int N_postCount, .int N_roadCount, .ref n1, .ref n2, .ref n3, .ref n4, .ref n5, .ref n6])), (n1, .inl (cI, 24, .inl N_first)), (n2, .inl (cI, 24, .inl N_second)), (n3, .inl (cI, 24, .inl N_number_0)), (n4, .inl (cI, 24, .inl N_allowed)), (n5, .inl (cI, 12, .inl N_at)), (n6, .inl (cI, 24, .inl N_beside)), (q0, .inr (5, [.int Q_side, .int Q_height, .ref q1, .ref q2, .ref q3])), (q1, .inl (cI, 81, .inl Q_cell)), (q2, .inl (cI, 9, .inl Q_taken)), (q3, .inl (cI, 512, .inl Q_ways)), (b1, .inr (4, [.ref n0, .ref b2, .ref b3, .ref b4])), (b2, .inl (cI, 12, .inl o5)), (b3, .inl (cI, 12, .inl (fun _ => 0))), (b4, .inl (cZ, 4096, .inl (fun _ => 0)))] H locs := hI.perm [0, 9, 10, 11, 12, 13, 14, 15, 1, 2, 3, 4, 5, 6, 7, 8] rfl rfl
    refine lv_aload_n hx hb dX7_choose_24 rfl (lv_at hl 0 rfl) ?_
    obtain ⟨o6, ho6, hf⟩ := bd_e hf
    refine w_Vi (wc := (wP cI cJ cZ b1 b2 b3 b4 n0 n1 n2 n3 n4 n5 n6 o5 (fun _ => 0) (fun _ => 0) N_postCount N_roadCount N_first N_second N_number_0 N_allowed N_at N_beside)) (wr := [(x0, .inr (7, [.ref n0, .ref q0, v_heapsOfNet, .ref b1, v_tallyOfNet])), (q0, .inr (5, [.int Q_side, .int Q_height, .ref q1, .ref q2, .ref q3])), (q1, .inl (cI, 81, .inl Q_cell)), (q2, .inl (cI, 9, .inl Q_taken)), (q3, .inl (cI, 512, .inl Q_ways))]) (rest := []) hx hb hml hg hown hK hA hI (kX4_pickFirst l D cI cJ cZ b1 b2 b3 b4 n0 n1 n2 n3 n4 n5 n6 o5 (fun _ => 0) (fun _ => 0) N_postCount N_roadCount N_first N_second N_number_0 N_allowed N_at N_beside  o6 ho6) kvX4_pickFirst wL_RX7_155 ⟨Nat.le_of_ble_eq_true rfl, Nat.le_of_ble_eq_true rfl⟩ rfl rfl [12, 13, 14, 15, 1, 2, 3, 4, 5, 6, 7] [0, 8, 9, 10, 11] rfl rfl rfl rfl (by decide) rfl rfl hl.1 (Nat.le_of_ble_eq_true rfl) dX7_choose_25 ⟨Nat.le_of_ble_eq_true rfl, Nat.le_of_ble_eq_true rfl⟩ (fun r u H locs hp hI => ?_)
    replace hp : r = o6.1 := hp
    rw [hp]
    clear hp
    replace hI : WI D A s.heap [(x0, .inr (7, [.ref n0, .ref q0, v_heapsOfNet, .ref b1, v_tallyOfNet])), (n0, .inr (3, [.int N_postCount, .int N_roadCount, .ref n1, .ref n2, .ref n3, .ref n4, .ref n5, .ref n6])), (n1, .inl (cI, 24, .inl N_first)), (n2, .inl (cI, 24, .inl N_second)), (n3, .inl (cI, 24, .inl o6.2.2.2.2)), (n4, .inl (cI, 24, .inl N_allowed)), (n5, .inl (cI, 12, .inl N_at)), (n6, .inl (cI, 24, .inl N_beside)), (q0, .inr (5, [.int Q_side, .int Q_height, .ref q1, .ref q2, .ref q3])), (q1, .inl (cI, 81, .inl Q_cell)), (q2, .inl (cI, 9, .inl Q_taken)), (q3, .inl (cI, 512, .inl Q_ways)), (b1, .inr (4, [.ref n0, .ref b2, .ref b3, .ref b4])), (b2, .inl (cI, 12, .inl o6.2.1)), (b3, .inl (cI, 12, .inl o6.2.2.1)), (b4, .inl (cZ, 4096, .inl o6.2.2.2.1))] H locs := hI.perm [0, 9, 10, 11, 12, 13, 14, 15, 1, 2, 3, 4, 5, 6, 7, 8] rfl rfl
    obtain ⟨x7, hx7, hf⟩ := bd_e hf
    refine w_S (rest := []) hx hb hml hg hown hK (kX7_asBit l D cI cJ cZ o6.1 x7 hx7) ksX7_asBit wL_RX7_115 ⟨Nat.le_of_ble_eq_true rfl, Nat.le_of_ble_eq_true rfl⟩ ⟨rfl, rfl⟩ rfl rfl hl.1 (Nat.le_of_ble_eq_true rfl) dX7_choose_28 ⟨Nat.le_of_ble_eq_true rfl, Nat.le_of_ble_eq_true rfl⟩ ?_
    replace hf := Option.some.inj hf
    subst hf
    replace hM : (x7, o6.2.1, o6.2.2.1, o6.2.2.2.1, o6.2.2.2.2) = out := hM
    subst hM
    refine W.widen (k := 4) (n := 4124) (Nat.le_of_ble_eq_true rfl) (Nat.le_of_ble_eq_true rfl) ?_
    replace hI := hI.perm (w2 := [(x0, .inr (7, [.ref n0, .ref q0, v_heapsOfNet, .ref b1, v_tallyOfNet])), (n0, .inr (3, [.int N_postCount, .int N_roadCount, .ref n1, .ref n2, .ref n3, .ref n4, .ref n5, .ref n6])), (n1, .inl (cI, 24, .inl N_first)), (n2, .inl (cI, 24, .inl N_second)), (n3, .inl (cI, 24, .inl o6.2.2.2.2)), (n4, .inl (cI, 24, .inl N_allowed)), (n5, .inl (cI, 12, .inl N_at)), (n6, .inl (cI, 24, .inl N_beside)), (q0, .inr (5, [.int Q_side, .int Q_height, .ref q1, .ref q2, .ref q3])), (q1, .inl (cI, 81, .inl Q_cell)), (q2, .inl (cI, 9, .inl Q_taken)), (q3, .inl (cI, 512, .inl Q_ways)), (b1, .inr (4, [.ref n0, .ref b2, .ref b3, .ref b4])), (b2, .inl (cI, 12, .inl o6.2.1)), (b3, .inl (cI, 12, .inl o6.2.2.1)), (b4, .inl (cZ, 4096, .inl o6.2.2.2.1))]) [0, 1, 2, 3, 4, 5, 6, 7, 8, 9, 10, 11, 12, 13, 14, 15] rfl rfl
    exact rt_i (u := (some (b1, b2, b3, b4))) hx hb hr hlocks rfl hI hAe rfl dX7_choose_31
  · replace hf := ite_f hc hf
    refine lv_bipush (v := -2) hx hb dX7_choose_12 (by decide) ?_
    replace hf := Option.some.inj hf
    subst hf
    replace hM : ((-2 : Int32), (fun _ => 0), (fun _ => 0), (fun _ => 0), N_number_0) = out := hM
    subst hM
    refine W.widen (k := 4) (n := 4124) (Nat.le_of_ble_eq_true rfl) (Nat.le_of_ble_eq_true rfl) ?_
    replace hI := hI.perm (w2 := [(x0, .inr (7, [.ref n0, .ref q0, v_heapsOfNet, .null, v_tallyOfNet])), (n0, .inr (3, [.int N_postCount, .int N_roadCount, .ref n1, .ref n2, .ref n3, .ref n4, .ref n5, .ref n6])), (n1, .inl (cI, 24, .inl N_first)), (n2, .inl (cI, 24, .inl N_second)), (n3, .inl (cI, 24, .inl N_number_0)), (n4, .inl (cI, 24, .inl N_allowed)), (n5, .inl (cI, 12, .inl N_at)), (n6, .inl (cI, 24, .inl N_beside)), (q0, .inr (5, [.int Q_side, .int Q_height, .ref q1, .ref q2, .ref q3])), (q1, .inl (cI, 81, .inl Q_cell)), (q2, .inl (cI, 9, .inl Q_taken)), (q3, .inl (cI, 512, .inl Q_ways))]) [0, 1, 2, 3, 4, 5, 6, 7, 8, 9, 10, 11] rfl rfl
    exact rt_i (u := none) hx hb hr hlocks rfl hI hAe rfl dX7_choose_14
theorem kvX7_count : CalV RX7 yX7_count cX7_count 2 (some .long) 1 := ⟨wC_yX7_count, wM_yX7_count, wS_yX7_count, wI_RX7, by decide +kernel⟩
noncomputable def FX7_count (T_ways : Nat → Int64) (N_postCount : Int32) (N_roadCount : Int32) (N_first : Nat → Int32) (N_second : Nat → Int32) (N_number : Nat → Int32) (N_allowed : Nat → Int32) (N_at : Nat → Int32) (N_beside : Nat → Int32) (a1 : Int32) : Option (Int64 × (Nat → Int64)) :=
  if a1 < (0 : Int32) then (some ((-2 : Int64), T_ways)) else (if (9 : Int32) < a1 then (some ((-2 : Int64), T_ways)) else (if N_roadCount ≤ (12 : Int32) then ((FX6_colourings T_ways N_roadCount N_beside a1).bind (fun o1 => some (o1.1, o1.2))) else (some ((-2 : Int64), T_ways))))
set_option maxHeartbeats 4000000 in
set_option maxRecDepth 100000 in
theorem kX7_count_s (l : Launch) (D : va_G) (cI cJ cZ : ClassId) (x0 n0 n1 n2 n3 n4 n5 n6 q0 q1 q2 q3 t0 t1 : Nat) (v_heapsOfNet : Value) (v_pickerOfNet : Value) (N_postCount : Int32) (N_roadCount : Int32) (N_first : Nat → Int32) (N_second : Nat → Int32) (N_number : Nat → Int32) (N_allowed : Nat → Int32) (N_at : Nat → Int32) (N_beside : Nat → Int32) (Q_side : Int32) (Q_height : Int32) (Q_cell : Nat → Int32) (Q_taken : Nat → Int32) (Q_ways : Nat → Int32) (T_ways_0 : Nat → Int64) (a1 : Int32) (out : Int64 × (Nat → Int64)) (hf : FX7_count T_ways_0 N_postCount N_roadCount N_first N_second N_number N_allowed N_at N_beside a1 = some out) : ML l yX7_count (Cond.code yX7_count cX7_count 2 (some .long) :: GW) { frames := 18, cells := 0, slots := 0, locals := 689 } D cI cJ cZ [.ref x0, .int a1] [(x0, .inr (7, [.ref n0, .ref q0, v_heapsOfNet, v_pickerOfNet, .ref t0])), (n0, .inr (3, [.int N_postCount, .int N_roadCount, .ref n1, .ref n2, .ref n3, .ref n4, .ref n5, .ref n6])), (n1, .inl (cI, 24, .inl N_first)), (n2, .inl (cI, 24, .inl N_second)), (n3, .inl (cI, 24, .inl N_number)), (n4, .inl (cI, 24, .inl N_allowed)), (n5, .inl (cI, 12, .inl N_at)), (n6, .inl (cI, 24, .inl N_beside)), (q0, .inr (5, [.int Q_side, .int Q_height, .ref q1, .ref q2, .ref q3])), (q1, .inl (cI, 81, .inl Q_cell)), (q2, .inl (cI, 9, .inl Q_taken)), (q3, .inl (cI, 512, .inl Q_ways)), (t0, .inr (6, [.ref n0, .ref t1])), (t1, .inl (cJ, 4096, .inr (.inl T_ways_0)))] (fun r (_ : Unit) => r = out.1) (fun (_ : Unit) => [(x0, .inr (7, [.ref n0, .ref q0, v_heapsOfNet, v_pickerOfNet, .ref t0])), (n0, .inr (3, [.int N_postCount, .int N_roadCount, .ref n1, .ref n2, .ref n3, .ref n4, .ref n5, .ref n6])), (n1, .inl (cI, 24, .inl N_first)), (n2, .inl (cI, 24, .inl N_second)), (n3, .inl (cI, 24, .inl N_number)), (n4, .inl (cI, 24, .inl N_allowed)), (n5, .inl (cI, 12, .inl N_at)), (n6, .inl (cI, 24, .inl N_beside)), (q0, .inr (5, [.int Q_side, .int Q_height, .ref q1, .ref q2, .ref q3])), (q1, .inl (cI, 81, .inl Q_cell)), (q2, .inl (cI, 9, .inl Q_taken)), (q3, .inl (cI, 512, .inl Q_ways)), (t0, .inr (6, [.ref n0, .ref t1])), (t1, .inl (cJ, 4096, .inr (.inl out.2)))]) := by
  intro sz
  refine Met.ofW (cc := cX7_count) (maxL := 2) (ret := (some .long)) (by decide +kernel) rfl ?_
  intro p e s m args below meth c s₁ B hml hv
  obtain ⟨rfl, hsz, hP, hK, hD0⟩ := hv
  have hx := B.exec
  have hb := B.bytes
  have hr := B.returns
  have hlocks := B.notSynchronized
  have hg : ∀ w ∈ GW, w.before _ s = true := fun w h => atoms_spec (ws := Cond.code yX7_count cX7_count 2 (some .long) :: GW) B.pre w (List.mem_cons_of_mem _ h)
  have hown : s.vm.findClass RX7 = some m.cls := findClass_of_methodNamed B.named
  subst hsz
  obtain ⟨A, hAe⟩ : ∃ A, A = va_A [(x0, .inr (7, [.ref n0, .ref q0, v_heapsOfNet, v_pickerOfNet, .ref t0])), (n0, .inr (3, [.int N_postCount, .int N_roadCount, .ref n1, .ref n2, .ref n3, .ref n4, .ref n5, .ref n6])), (n1, .inl (cI, 24, .inl N_first)), (n2, .inl (cI, 24, .inl N_second)), (n3, .inl (cI, 24, .inl N_number)), (n4, .inl (cI, 24, .inl N_allowed)), (n5, .inl (cI, 12, .inl N_at)), (n6, .inl (cI, 24, .inl N_beside)), (q0, .inr (5, [.int Q_side, .int Q_height, .ref q1, .ref q2, .ref q3])), (q1, .inl (cI, 81, .inl Q_cell)), (q2, .inl (cI, 9, .inl Q_taken)), (q3, .inl (cI, 512, .inl Q_ways)), (t0, .inr (6, [.ref n0, .ref t1])), (t1, .inl (cJ, 4096, .inr (.inl T_ways_0)))] s.heap.size := ⟨_, rfl⟩
  have hA : ∀ q : Nat, s.heap.size ≤ q → A q := fun q h => by rw [hAe]; exact Or.inr h
  have hI : WI D A s.heap [(x0, .inr (7, [.ref n0, .ref q0, v_heapsOfNet, v_pickerOfNet, .ref t0])), (n0, .inr (3, [.int N_postCount, .int N_roadCount, .ref n1, .ref n2, .ref n3, .ref n4, .ref n5, .ref n6])), (n1, .inl (cI, 24, .inl N_first)), (n2, .inl (cI, 24, .inl N_second)), (n3, .inl (cI, 24, .inl N_number)), (n4, .inl (cI, 24, .inl N_allowed)), (n5, .inl (cI, 12, .inl N_at)), (n6, .inl (cI, 24, .inl N_beside)), (q0, .inr (5, [.int Q_side, .int Q_height, .ref q1, .ref q2, .ref q3])), (q1, .inl (cI, 81, .inl Q_cell)), (q2, .inl (cI, 9, .inl Q_taken)), (q3, .inl (cI, 512, .inl Q_ways)), (t0, .inr (6, [.ref n0, .ref t1])), (t1, .inl (cJ, 4096, .inr (.inl T_ways_0)))] s.heap [] := ⟨hP, by rw [hAe]; exact hD0.self, va_S.rf⟩
  have hl := lv_entry [.ref x0, .int a1] (n := 2) (Nat.le_of_ble_eq_true rfl)
  rw [lg_entry_eq]
  generalize (lg_sl [.ref x0, .int a1] ++ List.replicate (2 - (lg_sl [.ref x0, .int a1]).length) Slot.unset).toArray = ls at hl ⊢
  replace hl : lv_has ls 2 [(0, .ref x0), (1, .int a1)] := hl
  obtain ⟨x, hf, hM⟩ : ∃ x, FX7_count T_ways_0 N_postCount N_roadCount N_first N_second N_number N_allowed N_at N_beside a1 = some x ∧ x = out := ⟨out, hf, rfl⟩
  refine lv_iload_n hx hb dX7_count_0 rfl (lv_at hl 1 rfl) ?_
  refine lv_if_lt (tgt := 22) hx hb dX7_count_1 (by decide) (fun hc => ?_) (fun hc => ?_)
  · replace hf := ite_t hc hf
    refine lv_ldc2 hx hb hown (hg _ wW_RX7_158) dX7_count_22 ?_
    replace hf := Option.some.inj hf
    subst hf
    replace hM : ((-2 : Int64), T_ways_0) = out := hM
    subst hM
    refine W.widen (k := 0) (n := 0) (Nat.le_of_ble_eq_true rfl) (Nat.le_of_ble_eq_true rfl) ?_
    replace hI := hI.perm (w2 := [(x0, .inr (7, [.ref n0, .ref q0, v_heapsOfNet, v_pickerOfNet, .ref t0])), (n0, .inr (3, [.int N_postCount, .int N_roadCount, .ref n1, .ref n2, .ref n3, .ref n4, .ref n5, .ref n6])), (n1, .inl (cI, 24, .inl N_first)), (n2, .inl (cI, 24, .inl N_second)), (n3, .inl (cI, 24, .inl N_number)), (n4, .inl (cI, 24, .inl N_allowed)), (n5, .inl (cI, 12, .inl N_at)), (n6, .inl (cI, 24, .inl N_beside)), (q0, .inr (5, [.int Q_side, .int Q_height, .ref q1, .ref q2, .ref q3])), (q1, .inl (cI, 81, .inl Q_cell)), (q2, .inl (cI, 9, .inl Q_taken)), (q3, .inl (cI, 512, .inl Q_ways)), (t0, .inr (6, [.ref n0, .ref t1])), (t1, .inl (cJ, 4096, .inr (.inl T_ways_0)))]) [0, 1, 2, 3, 4, 5, 6, 7, 8, 9, 10, 11, 12, 13] rfl rfl
    exact rt_l (u := ()) hx hb hr hlocks hI hAe rfl dX7_count_25
  · replace hf := ite_f hc hf
    refine lv_iload_n hx hb dX7_count_4 rfl (lv_at hl 1 rfl) ?_
    refine lv_bipush (v := 9) hx hb dX7_count_5 (by decide) ?_
    refine lv_icmp_gt (tgt := 22) hx hb dX7_count_7 (by decide) (fun hc => ?_) (fun hc => ?_)
    · replace hf := ite_t hc hf
      refine lv_ldc2 hx hb hown (hg _ wW_RX7_158) dX7_count_22 ?_
      replace hf := Option.some.inj hf
      subst hf
      replace hM : ((-2 : Int64), T_ways_0) = out := hM
      subst hM
      refine W.widen (k := 0) (n := 0) (Nat.le_of_ble_eq_true rfl) (Nat.le_of_ble_eq_true rfl) ?_
      replace hI := hI.perm (w2 := [(x0, .inr (7, [.ref n0, .ref q0, v_heapsOfNet, v_pickerOfNet, .ref t0])), (n0, .inr (3, [.int N_postCount, .int N_roadCount, .ref n1, .ref n2, .ref n3, .ref n4, .ref n5, .ref n6])), (n1, .inl (cI, 24, .inl N_first)), (n2, .inl (cI, 24, .inl N_second)), (n3, .inl (cI, 24, .inl N_number)), (n4, .inl (cI, 24, .inl N_allowed)), (n5, .inl (cI, 12, .inl N_at)), (n6, .inl (cI, 24, .inl N_beside)), (q0, .inr (5, [.int Q_side, .int Q_height, .ref q1, .ref q2, .ref q3])), (q1, .inl (cI, 81, .inl Q_cell)), (q2, .inl (cI, 9, .inl Q_taken)), (q3, .inl (cI, 512, .inl Q_ways)), (t0, .inr (6, [.ref n0, .ref t1])), (t1, .inl (cJ, 4096, .inr (.inl T_ways_0)))]) [0, 1, 2, 3, 4, 5, 6, 7, 8, 9, 10, 11, 12, 13] rfl rfl
      exact rt_l (u := ()) hx hb hr hlocks hI hAe rfl dX7_count_25
    · replace hf := ite_f hc hf
      refine lv_aload_n hx hb dX7_count_10 rfl (lv_at hl 0 rfl) ?_
      refine w_get hx hb hg hown hK hI iX7 0 rfl rfl 0 (by decide) wF_RX7_12 rfl dX7_count_11 ?_
      refine w_get hx hb hg hown hK hI iX3 1 rfl rfl 1 (by decide) wF_RX7_35 rfl dX7_count_14 ?_
      refine lv_bipush (v := 12) hx hb dX7_count_17 (by decide) ?_
      refine lv_icmp_le (tgt := 26) hx hb dX7_count_19 (by decide) (fun hc => ?_) (fun hc => ?_)
      · replace hf := ite_t hc hf
        refine lv_aload_n hx hb dX7_count_26 rfl (lv_at hl 0 rfl) ?_
        refine w_get hx hb hg hown hK hI iX7 0 rfl rfl 4 (by decide) wF_RX7_160 rfl dX7_count_27 ?_
        refine lv_ifnonnull (tgt := 48) hx hb dX7_count_30 (by decide) ?_
        refine lv_aload_n hx hb dX7_count_48 rfl (lv_at hl 0 rfl) ?_
        refine w_get hx hb hg hown hK hI iX7 0 rfl rfl 4 (by decide) wF_RX7_160 rfl dX7_count_49 ?_
        refine lv_iload_n hx hb dX7_count_52 rfl (lv_at hl 1 rfl) ?_
        obtain ⟨o1, ho1, hf⟩ := bd_e hf
        refine w_Vl (wc := (wT cI cJ cZ t0 t1 n0 n1 n2 n3 n4 n5 n6 T_ways_0 N_postCount N_roadCount N_first N_second N_number N_allowed N_at N_beside)) (wr := [(x0, .inr (7, [.ref n0, .ref q0, v_heapsOfNet, v_pickerOfNet, .ref t0])), (q0, .inr (5, [.int Q_side, .int Q_height, .ref q1, .ref q2, .ref q3])), (q1, .inl (cI, 81, .inl Q_cell)), (q2, .inl (cI, 9, .inl Q_taken)), (q3, .inl (cI, 512, .inl Q_ways))]) (rest := []) hx hb hml hg hown hK hA hI (kX6_colourings l D cI cJ cZ t0 t1 n0 n1 n2 n3 n4 n5 n6 T_ways_0 N_postCount N_roadCount N_first N_second N_number N_allowed N_at N_beside a1 o1 ho1) kvX6_colourings wL_RX7_169 ⟨Nat.le_of_ble_eq_true rfl, Nat.le_of_ble_eq_true rfl⟩ rfl rfl [12, 13, 1, 2, 3, 4, 5, 6, 7] [0, 8, 9, 10, 11] rfl rfl rfl rfl (by decide) rfl rfl hl.1 (Nat.le_of_ble_eq_true rfl) dX7_count_53 ⟨Nat.le_of_ble_eq_true rfl, Nat.le_of_ble_eq_true rfl⟩ (fun r u H locs hp hI => ?_)
        replace hp : r = o1.1 := hp
        rw [hp]
        clear hp
        replace hI : WI D A s.heap [(x0, .inr (7, [.ref n0, .ref q0, v_heapsOfNet, v_pickerOfNet, .ref t0])), (n0, .inr (3, [.int N_postCount, .int N_roadCount, .ref n1, .ref n2, .ref n3, .ref n4, .ref n5, .ref n6])), (n1, .inl (cI, 24, .inl N_first)), (n2, .inl (cI, 24, .inl N_second)), (n3, .inl (cI, 24, .inl N_number)), (n4, .inl (cI, 24, .inl N_allowed)), (n5, .inl (cI, 12, .inl N_at)), (n6, .inl (cI, 24, .inl N_beside)), (q0, .inr (5, [.int Q_side, .int Q_height, .ref q1, .ref q2, .ref q3])), (q1, .inl (cI, 81, .inl Q_cell)), (q2, .inl (cI, 9, .inl Q_taken)), (q3, .inl (cI, 512, .inl Q_ways)), (t0, .inr (6, [.ref n0, .ref t1])), (t1, .inl (cJ, 4096, .inr (.inl o1.2)))] H locs := hI.perm [0, 7, 8, 9, 10, 11, 12, 13, 1, 2, 3, 4, 5, 6] rfl rfl
        replace hf := Option.some.inj hf
        subst hf
        replace hM : (o1.1, o1.2) = out := hM
        subst hM
        refine W.widen (k := 0) (n := 0) (Nat.le_of_ble_eq_true rfl) (Nat.le_of_ble_eq_true rfl) ?_
        replace hI := hI.perm (w2 := [(x0, .inr (7, [.ref n0, .ref q0, v_heapsOfNet, v_pickerOfNet, .ref t0])), (n0, .inr (3, [.int N_postCount, .int N_roadCount, .ref n1, .ref n2, .ref n3, .ref n4, .ref n5, .ref n6])), (n1, .inl (cI, 24, .inl N_first)), (n2, .inl (cI, 24, .inl N_second)), (n3, .inl (cI, 24, .inl N_number)), (n4, .inl (cI, 24, .inl N_allowed)), (n5, .inl (cI, 12, .inl N_at)), (n6, .inl (cI, 24, .inl N_beside)), (q0, .inr (5, [.int Q_side, .int Q_height, .ref q1, .ref q2, .ref q3])), (q1, .inl (cI, 81, .inl Q_cell)), (q2, .inl (cI, 9, .inl Q_taken)), (q3, .inl (cI, 512, .inl Q_ways)), (t0, .inr (6, [.ref n0, .ref t1])), (t1, .inl (cJ, 4096, .inr (.inl o1.2)))]) [0, 1, 2, 3, 4, 5, 6, 7, 8, 9, 10, 11, 12, 13] rfl rfl
        exact rt_l (u := ()) hx hb hr hlocks hI hAe rfl dX7_count_56
      · replace hf := ite_f hc hf
        refine lv_ldc2 hx hb hown (hg _ wW_RX7_158) dX7_count_22 ?_
        replace hf := Option.some.inj hf
        subst hf
        replace hM : ((-2 : Int64), T_ways_0) = out := hM
        subst hM
        refine W.widen (k := 0) (n := 0) (Nat.le_of_ble_eq_true rfl) (Nat.le_of_ble_eq_true rfl) ?_
        replace hI := hI.perm (w2 := [(x0, .inr (7, [.ref n0, .ref q0, v_heapsOfNet, v_pickerOfNet, .ref t0])), (n0, .inr (3, [.int N_postCount, .int N_roadCount, .ref n1, .ref n2, .ref n3, .ref n4, .ref n5, .ref n6])), (n1, .inl (cI, 24, .inl N_first)), (n2, .inl (cI, 24, .inl N_second)), (n3, .inl (cI, 24, .inl N_number)), (n4, .inl (cI, 24, .inl N_allowed)), (n5, .inl (cI, 12, .inl N_at)), (n6, .inl (cI, 24, .inl N_beside)), (q0, .inr (5, [.int Q_side, .int Q_height, .ref q1, .ref q2, .ref q3])), (q1, .inl (cI, 81, .inl Q_cell)), (q2, .inl (cI, 9, .inl Q_taken)), (q3, .inl (cI, 512, .inl Q_ways)), (t0, .inr (6, [.ref n0, .ref t1])), (t1, .inl (cJ, 4096, .inr (.inl T_ways_0)))]) [0, 1, 2, 3, 4, 5, 6, 7, 8, 9, 10, 11, 12, 13] rfl rfl
        exact rt_l (u := ()) hx hb hr hlocks hI hAe rfl dX7_count_25
set_option maxHeartbeats 4000000 in
set_option maxRecDepth 100000 in
theorem kX7_count_n (l : Launch) (D : va_G) (cI cJ cZ : ClassId) (x0 n0 n1 n2 n3 n4 n5 n6 q0 q1 q2 q3 : Nat) (v_heapsOfNet : Value) (v_pickerOfNet : Value) (N_postCount : Int32) (N_roadCount : Int32) (N_first : Nat → Int32) (N_second : Nat → Int32) (N_number : Nat → Int32) (N_allowed : Nat → Int32) (N_at : Nat → Int32) (N_beside : Nat → Int32) (Q_side : Int32) (Q_height : Int32) (Q_cell : Nat → Int32) (Q_taken : Nat → Int32) (Q_ways : Nat → Int32) (a1 : Int32) (out : Int64 × (Nat → Int64)) (hf : FX7_count (fun _ => 0) N_postCount N_roadCount N_first N_second N_number N_allowed N_at N_beside a1 = some out) : ML l yX7_count (Cond.code yX7_count cX7_count 2 (some .long) :: GW) { frames := 18, cells := 2, slots := 4098, locals := 689 } D cI cJ cZ [.ref x0, .int a1] [(x0, .inr (7, [.ref n0, .ref q0, v_heapsOfNet, v_pickerOfNet, .null])), (n0, .inr (3, [.int N_postCount, .int N_roadCount, .ref n1, .ref n2, .ref n3, .ref n4, .ref n5, .ref n6])), (n1, .inl (cI, 24, .inl N_first)), (n2, .inl (cI, 24, .inl N_second)), (n3, .inl (cI, 24, .inl N_number)), (n4, .inl (cI, 24, .inl N_allowed)), (n5, .inl (cI, 12, .inl N_at)), (n6, .inl (cI, 24, .inl N_beside)), (q0, .inr (5, [.int Q_side, .int Q_height, .ref q1, .ref q2, .ref q3])), (q1, .inl (cI, 81, .inl Q_cell)), (q2, .inl (cI, 9, .inl Q_taken)), (q3, .inl (cI, 512, .inl Q_ways))] (fun r (_ : Option (Nat × Nat)) => r = out.1) (fun (u : Option (Nat × Nat)) => u.elim [(x0, .inr (7, [.ref n0, .ref q0, v_heapsOfNet, v_pickerOfNet, .null])), (n0, .inr (3, [.int N_postCount, .int N_roadCount, .ref n1, .ref n2, .ref n3, .ref n4, .ref n5, .ref n6])), (n1, .inl (cI, 24, .inl N_first)), (n2, .inl (cI, 24, .inl N_second)), (n3, .inl (cI, 24, .inl N_number)), (n4, .inl (cI, 24, .inl N_allowed)), (n5, .inl (cI, 12, .inl N_at)), (n6, .inl (cI, 24, .inl N_beside)), (q0, .inr (5, [.int Q_side, .int Q_height, .ref q1, .ref q2, .ref q3])), (q1, .inl (cI, 81, .inl Q_cell)), (q2, .inl (cI, 9, .inl Q_taken)), (q3, .inl (cI, 512, .inl Q_ways))] (fun q => [(x0, .inr (7, [.ref n0, .ref q0, v_heapsOfNet, v_pickerOfNet, .ref q.1])), (n0, .inr (3, [.int N_postCount, .int N_roadCount, .ref n1, .ref n2, .ref n3, .ref n4, .ref n5, .ref n6])), (n1, .inl (cI, 24, .inl N_first)), (n2, .inl (cI, 24, .inl N_second)), (n3, .inl (cI, 24, .inl N_number)), (n4, .inl (cI, 24, .inl N_allowed)), (n5, .inl (cI, 12, .inl N_at)), (n6, .inl (cI, 24, .inl N_beside)), (q0, .inr (5, [.int Q_side, .int Q_height, .ref q1, .ref q2, .ref q3])), (q1, .inl (cI, 81, .inl Q_cell)), (q2, .inl (cI, 9, .inl Q_taken)), (q3, .inl (cI, 512, .inl Q_ways)), (q.1, .inr (6, [.ref n0, .ref q.2])), (q.2, .inl (cJ, 4096, .inr (.inl out.2)))])) := by
  intro sz
  refine Met.ofW (cc := cX7_count) (maxL := 2) (ret := (some .long)) (by decide +kernel) rfl ?_
  intro p e s m args below meth c s₁ B hml hv
  obtain ⟨rfl, hsz, hP, hK, hD0⟩ := hv
  have hx := B.exec
  have hb := B.bytes
  have hr := B.returns
  have hlocks := B.notSynchronized
  have hg : ∀ w ∈ GW, w.before _ s = true := fun w h => atoms_spec (ws := Cond.code yX7_count cX7_count 2 (some .long) :: GW) B.pre w (List.mem_cons_of_mem _ h)
  have hown : s.vm.findClass RX7 = some m.cls := findClass_of_methodNamed B.named
  subst hsz
  obtain ⟨A, hAe⟩ : ∃ A, A = va_A [(x0, .inr (7, [.ref n0, .ref q0, v_heapsOfNet, v_pickerOfNet, .null])), (n0, .inr (3, [.int N_postCount, .int N_roadCount, .ref n1, .ref n2, .ref n3, .ref n4, .ref n5, .ref n6])), (n1, .inl (cI, 24, .inl N_first)), (n2, .inl (cI, 24, .inl N_second)), (n3, .inl (cI, 24, .inl N_number)), (n4, .inl (cI, 24, .inl N_allowed)), (n5, .inl (cI, 12, .inl N_at)), (n6, .inl (cI, 24, .inl N_beside)), (q0, .inr (5, [.int Q_side, .int Q_height, .ref q1, .ref q2, .ref q3])), (q1, .inl (cI, 81, .inl Q_cell)), (q2, .inl (cI, 9, .inl Q_taken)), (q3, .inl (cI, 512, .inl Q_ways))] s.heap.size := ⟨_, rfl⟩
  have hA : ∀ q : Nat, s.heap.size ≤ q → A q := fun q h => by rw [hAe]; exact Or.inr h
  have hI : WI D A s.heap [(x0, .inr (7, [.ref n0, .ref q0, v_heapsOfNet, v_pickerOfNet, .null])), (n0, .inr (3, [.int N_postCount, .int N_roadCount, .ref n1, .ref n2, .ref n3, .ref n4, .ref n5, .ref n6])), (n1, .inl (cI, 24, .inl N_first)), (n2, .inl (cI, 24, .inl N_second)), (n3, .inl (cI, 24, .inl N_number)), (n4, .inl (cI, 24, .inl N_allowed)), (n5, .inl (cI, 12, .inl N_at)), (n6, .inl (cI, 24, .inl N_beside)), (q0, .inr (5, [.int Q_side, .int Q_height, .ref q1, .ref q2, .ref q3])), (q1, .inl (cI, 81, .inl Q_cell)), (q2, .inl (cI, 9, .inl Q_taken)), (q3, .inl (cI, 512, .inl Q_ways))] s.heap [] := ⟨hP, by rw [hAe]; exact hD0.self, va_S.rf⟩
  have hl := lv_entry [.ref x0, .int a1] (n := 2) (Nat.le_of_ble_eq_true rfl)
  rw [lg_entry_eq]
  generalize (lg_sl [.ref x0, .int a1] ++ List.replicate (2 - (lg_sl [.ref x0, .int a1]).length) Slot.unset).toArray = ls at hl ⊢
  replace hl : lv_has ls 2 [(0, .ref x0), (1, .int a1)] := hl
  obtain ⟨x, hf, hM⟩ : ∃ x, FX7_count (fun _ => 0) N_postCount N_roadCount N_first N_second N_number N_allowed N_at N_beside a1 = some x ∧ x = out := ⟨out, hf, rfl⟩
  refine lv_iload_n hx hb dX7_count_0 rfl (lv_at hl 1 rfl) ?_
  refine lv_if_lt (tgt := 22) hx hb dX7_count_1 (by decide) (fun hc => ?_) (fun hc => ?_)
  · replace hf := ite_t hc hf
    refine lv_ldc2 hx hb hown (hg _ wW_RX7_158) dX7_count_22 ?_
    replace hf := Option.some.inj hf
    subst hf
    replace hM : ((-2 : Int64), (fun _ => 0)) = out := hM
    subst hM
    refine W.widen (k := 2) (n := 4098) (Nat.le_of_ble_eq_true rfl) (Nat.le_of_ble_eq_true rfl) ?_
    replace hI := hI.perm (w2 := [(x0, .inr (7, [.ref n0, .ref q0, v_heapsOfNet, v_pickerOfNet, .null])), (n0, .inr (3, [.int N_postCount, .int N_roadCount, .ref n1, .ref n2, .ref n3, .ref n4, .ref n5, .ref n6])), (n1, .inl (cI, 24, .inl N_first)), (n2, .inl (cI, 24, .inl N_second)), (n3, .inl (cI, 24, .inl N_number)), (n4, .inl (cI, 24, .inl N_allowed)), (n5, .inl (cI, 12, .inl N_at)), (n6, .inl (cI, 24, .inl N_beside)), (q0, .inr (5, [.int Q_side, .int Q_height, .ref q1, .ref q2, .ref q3])), (q1, .inl (cI, 81, .inl Q_cell)), (q2, .inl (cI, 9, .inl Q_taken)), (q3, .inl (cI, 512, .inl Q_ways))]) [0, 1, 2, 3, 4, 5, 6, 7, 8, 9, 10, 11] rfl rfl
    exact rt_l (u := none) hx hb hr hlocks hI hAe rfl dX7_count_25
  · replace hf := ite_f hc hf
    refine lv_iload_n hx hb dX7_count_4 rfl (lv_at hl 1 rfl) ?_
    refine lv_bipush (v := 9) hx hb dX7_count_5 (by decide) ?_
    refine lv_icmp_gt (tgt := 22) hx hb dX7_count_7 (by decide) (fun hc => ?_) (fun hc => ?_)
    · replace hf := ite_t hc hf
      refine lv_ldc2 hx hb hown (hg _ wW_RX7_158) dX7_count_22 ?_
      replace hf := Option.some.inj hf
      subst hf
      replace hM : ((-2 : Int64), (fun _ => 0)) = out := hM
      subst hM
      refine W.widen (k := 2) (n := 4098) (Nat.le_of_ble_eq_true rfl) (Nat.le_of_ble_eq_true rfl) ?_
      replace hI := hI.perm (w2 := [(x0, .inr (7, [.ref n0, .ref q0, v_heapsOfNet, v_pickerOfNet, .null])), (n0, .inr (3, [.int N_postCount, .int N_roadCount, .ref n1, .ref n2, .ref n3, .ref n4, .ref n5, .ref n6])), (n1, .inl (cI, 24, .inl N_first)), (n2, .inl (cI, 24, .inl N_second)), (n3, .inl (cI, 24, .inl N_number)), (n4, .inl (cI, 24, .inl N_allowed)), (n5, .inl (cI, 12, .inl N_at)), (n6, .inl (cI, 24, .inl N_beside)), (q0, .inr (5, [.int Q_side, .int Q_height, .ref q1, .ref q2, .ref q3])), (q1, .inl (cI, 81, .inl Q_cell)), (q2, .inl (cI, 9, .inl Q_taken)), (q3, .inl (cI, 512, .inl Q_ways))]) [0, 1, 2, 3, 4, 5, 6, 7, 8, 9, 10, 11] rfl rfl
      exact rt_l (u := none) hx hb hr hlocks hI hAe rfl dX7_count_25
    · replace hf := ite_f hc hf
      refine lv_aload_n hx hb dX7_count_10 rfl (lv_at hl 0 rfl) ?_
      refine w_get hx hb hg hown hK hI iX7 0 rfl rfl 0 (by decide) wF_RX7_12 rfl dX7_count_11 ?_
      refine w_get hx hb hg hown hK hI iX3 1 rfl rfl 1 (by decide) wF_RX7_35 rfl dX7_count_14 ?_
      refine lv_bipush (v := 12) hx hb dX7_count_17 (by decide) ?_
      refine lv_icmp_le (tgt := 26) hx hb dX7_count_19 (by decide) (fun hc => ?_) (fun hc => ?_)
      · replace hf := ite_t hc hf
        refine lv_aload_n hx hb dX7_count_26 rfl (lv_at hl 0 rfl) ?_
        refine w_get hx hb hg hown hK hI iX7 0 rfl rfl 4 (by decide) wF_RX7_160 rfl dX7_count_27 ?_
        refine lv_ifnonnullN hx hb dX7_count_30 ?_
        refine lv_aload_n hx hb dX7_count_33 rfl (lv_at hl 0 rfl) ?_
        refine va_new (ci := 6) (fs := [.null, .null]) (C := RX6) (T := TX6) (N := 2) hx hb hg iX6 tyX6 tyX6_ok hown (hg _ wK_RX7_164) (hg _ wN_RX6) (hg _ wI_RX6) hK.1 hI.1 hI.2.1 hI.2.2 hA rfl (by intro j hj; match j, hj with | 0, _ => rfl | 1, _ => rfl | (j + 2), hj => exact absurd hj (by omega)) (Nat.le_of_ble_eq_true rfl) (Nat.le_of_ble_eq_true rfl) dX7_count_34 (fun b1 H hP hD hS => ?_)
        replace hI : WI D A s.heap [(x0, .inr (7, [.ref n0, .ref q0, v_heapsOfNet, v_pickerOfNet, .null])), (n0, .inr (3, [.int N_postCount, .int N_roadCount, .ref n1, .ref n2, .ref n3, .ref n4, .ref n5, .ref n6])), (n1, .inl (cI, 24, .inl N_first)), (n2, .inl (cI, 24, .inl N_second)), (n3, .inl (cI, 24, .inl N_number)), (n4, .inl (cI, 24, .inl N_allowed)), (n5, .inl (cI, 12, .inl N_at)), (n6, .inl (cI, 24, .inl N_beside)), (q0, .inr (5, [.int Q_side, .int Q_height, .ref q1, .ref q2, .ref q3])), (q1, .inl (cI, 81, .inl Q_cell)), (q2, .inl (cI, 9, .inl Q_taken)), (q3, .inl (cI, 512, .inl Q_ways)), (b1, .inr (6, [.null, .null]))] H _ := ⟨hP, hD, hS⟩
        clear hP hD hS
        refine lv_dup hx hb dX7_count_37 rfl ?_
        refine lv_aload_n hx hb dX7_count_38 rfl (lv_at hl 0 rfl) ?_
        refine w_get hx hb hg hown hK hI iX7 0 rfl rfl 0 (by decide) wF_RX7_12 rfl dX7_count_39 ?_
        refine w_I (wc := [(b1, .inr (6, [.null, .null]))]) (wr := [(x0, .inr (7, [.ref n0, .ref q0, v_heapsOfNet, v_pickerOfNet, .null])), (n0, .inr (3, [.int N_postCount, .int N_roadCount, .ref n1, .ref n2, .ref n3, .ref n4, .ref n5, .ref n6])), (n1, .inl (cI, 24, .inl N_first)), (n2, .inl (cI, 24, .inl N_second)), (n3, .inl (cI, 24, .inl N_number)), (n4, .inl (cI, 24, .inl N_allowed)), (n5, .inl (cI, 12, .inl N_at)), (n6, .inl (cI, 24, .inl N_beside)), (q0, .inr (5, [.int Q_side, .int Q_height, .ref q1, .ref q2, .ref q3])), (q1, .inl (cI, 81, .inl Q_cell)), (q2, .inl (cI, 9, .inl Q_taken)), (q3, .inl (cI, 512, .inl Q_ways))]) (rest := [.ref b1, .ref x0]) hx hb hml hg hown hK hA hI (kIX6_init l D cI cJ cZ b1 n0) kiX6_init wL_RX7_166 ⟨Nat.le_of_ble_eq_true rfl, Nat.le_of_ble_eq_true rfl⟩ [12] [0, 1, 2, 3, 4, 5, 6, 7, 8, 9, 10, 11] rfl rfl rfl rfl (by decide) rfl rfl hl.1 (Nat.le_of_ble_eq_true rfl) dX7_count_42 ⟨Nat.le_of_ble_eq_true rfl, Nat.le_of_ble_eq_true rfl⟩ (fun u H locs hp hI => ?_)
        obtain ⟨b2, rfl⟩ : ∃ b, b = u := ⟨u, rfl⟩
        replace hI : WI D A s.heap [(x0, .inr (7, [.ref n0, .ref q0, v_heapsOfNet, v_pickerOfNet, .null])), (n0, .inr (3, [.int N_postCount, .int N_roadCount, .ref n1, .ref n2, .ref n3, .ref n4, .ref n5, .ref n6])), (n1, .inl (cI, 24, .inl N_first)), (n2, .inl (cI, 24, .inl N_second)), (n3, .inl (cI, 24, .inl N_number)), (n4, .inl (cI, 24, .inl N_allowed)), (n5, .inl (cI, 12, .inl N_at)), (n6, .inl (cI, 24, .inl N_beside)), (q0, .inr (5, [.int Q_side, .int Q_height, .ref q1, .ref q2, .ref q3])), (q1, .inl (cI, 81, .inl Q_cell)), (q2, .inl (cI, 9, .inl Q_taken)), (q3, .inl (cI, 512, .inl Q_ways)), (b1, .inr (6, [.ref n0, .ref b2])), (b2, .inl (cJ, 4096, .inr (.inl (fun _ => 0))))] H locs := hI
        clear hp
        refine w_put (W1 := [(x0, .inr (7, [.ref n0, .ref q0, v_heapsOfNet, v_pickerOfNet, .ref b1])), (n0, .inr (3, [.int N_postCount, .int N_roadCount, .ref n1, .ref n2, .ref n3, .ref n4, .ref n5, .ref n6])), (n1, .inl (cI, 24, .inl N_first)), (n2, .inl (cI, 24, .inl N_second)), (n3, .inl (cI, 24, .inl N_number)), (n4, .inl (cI, 24, .inl N_allowed)), (n5, .inl (cI, 12, .inl N_at)), (n6, .inl (cI, 24, .inl N_beside)), (q0, .inr (5, [.int Q_side, .int Q_height, .ref q1, .ref q2, .ref q3])), (q1, .inl (cI, 81, .inl Q_cell)), (q2, .inl (cI, 9, .inl Q_taken)), (q3, .inl (cI, 512, .inl Q_ways)), (b1, .inr (6, [.ref n0, .ref b2])), (b2, .inl (cJ, 4096, .inr (.inl (fun _ => 0))))]) hx hb hg hown hK hI iX7 tyX7 tyX7_ok nmX7 0 rfl rfl 4 (by decide) wF_RX7_160 rfl (tyX7_ok 4 (by decide)) rfl rfl (Nat.le_of_ble_eq_true rfl) dX7_count_45 rfl (fun H locs hI => ?_)
        refine lv_aload_n hx hb dX7_count_48 rfl (lv_at hl 0 rfl) ?_
        refine w_get hx hb hg hown hK hI iX7 0 rfl rfl 4 (by decide) wF_RX7_160 rfl dX7_count_49 ?_
        refine lv_iload_n hx hb dX7_count_52 rfl (lv_at hl 1 rfl) ?_
        obtain ⟨o3, ho3, hf⟩ := bd_e hf
        refine w_Vl (wc := (wT cI cJ cZ b1 b2 n0 n1 n2 n3 n4 n5 n6 (fun _ => 0) N_postCount N_roadCount N_first N_second N_number N_allowed N_at N_beside)) (wr := [(x0, .inr (7, [.ref n0, .ref q0, v_heapsOfNet, v_pickerOfNet, .ref b1])), (q0, .inr (5, [.int Q_side, .int Q_height, .ref q1, .ref q2, .ref q3])), (q1, .inl (cI, 81, .inl Q_cell)), (q2, .inl (cI, 9, .inl Q_taken)), (q3, .inl (cI, 512, .inl Q_ways))]) (rest := []) hx hb hml hg hown hK hA hI (kX6_colourings l D cI cJ cZ b1 b2 n0 n1 n2 n3 n4 n5 n6 (fun _ => 0) N_postCount N_roadCount N_first N_second N_number N_allowed N_at N_beside a1 o3 ho3) kvX6_colourings wL_RX7_169 ⟨Nat.le_of_ble_eq_true rfl, Nat.le_of_ble_eq_true rfl⟩ rfl rfl [12, 13, 1, 2, 3, 4, 5, 6, 7] [0, 8, 9, 10, 11] rfl rfl rfl rfl (by decide) rfl rfl hl.1 (Nat.le_of_ble_eq_true rfl) dX7_count_53 ⟨Nat.le_of_ble_eq_true rfl, Nat.le_of_ble_eq_true rfl⟩ (fun r u H locs hp hI => ?_)
        replace hp : r = o3.1 := hp
        rw [hp]
        clear hp
        replace hI : WI D A s.heap [(x0, .inr (7, [.ref n0, .ref q0, v_heapsOfNet, v_pickerOfNet, .ref b1])), (n0, .inr (3, [.int N_postCount, .int N_roadCount, .ref n1, .ref n2, .ref n3, .ref n4, .ref n5, .ref n6])), (n1, .inl (cI, 24, .inl N_first)), (n2, .inl (cI, 24, .inl N_second)), (n3, .inl (cI, 24, .inl N_number)), (n4, .inl (cI, 24, .inl N_allowed)), (n5, .inl (cI, 12, .inl N_at)), (n6, .inl (cI, 24, .inl N_beside)), (q0, .inr (5, [.int Q_side, .int Q_height, .ref q1, .ref q2, .ref q3])), (q1, .inl (cI, 81, .inl Q_cell)), (q2, .inl (cI, 9, .inl Q_taken)), (q3, .inl (cI, 512, .inl Q_ways)), (b1, .inr (6, [.ref n0, .ref b2])), (b2, .inl (cJ, 4096, .inr (.inl o3.2)))] H locs := hI.perm [0, 7, 8, 9, 10, 11, 12, 13, 1, 2, 3, 4, 5, 6] rfl rfl
        replace hf := Option.some.inj hf
        subst hf
        replace hM : (o3.1, o3.2) = out := hM
        subst hM
        refine W.widen (k := 2) (n := 4098) (Nat.le_of_ble_eq_true rfl) (Nat.le_of_ble_eq_true rfl) ?_
        replace hI := hI.perm (w2 := [(x0, .inr (7, [.ref n0, .ref q0, v_heapsOfNet, v_pickerOfNet, .ref b1])), (n0, .inr (3, [.int N_postCount, .int N_roadCount, .ref n1, .ref n2, .ref n3, .ref n4, .ref n5, .ref n6])), (n1, .inl (cI, 24, .inl N_first)), (n2, .inl (cI, 24, .inl N_second)), (n3, .inl (cI, 24, .inl N_number)), (n4, .inl (cI, 24, .inl N_allowed)), (n5, .inl (cI, 12, .inl N_at)), (n6, .inl (cI, 24, .inl N_beside)), (q0, .inr (5, [.int Q_side, .int Q_height, .ref q1, .ref q2, .ref q3])), (q1, .inl (cI, 81, .inl Q_cell)), (q2, .inl (cI, 9, .inl Q_taken)), (q3, .inl (cI, 512, .inl Q_ways)), (b1, .inr (6, [.ref n0, .ref b2])), (b2, .inl (cJ, 4096, .inr (.inl o3.2)))]) [0, 1, 2, 3, 4, 5, 6, 7, 8, 9, 10, 11, 12, 13] rfl rfl
        exact rt_l (u := (some (b1, b2))) hx hb hr hlocks hI hAe rfl dX7_count_56
      · replace hf := ite_f hc hf
        refine lv_ldc2 hx hb hown (hg _ wW_RX7_158) dX7_count_22 ?_
        replace hf := Option.some.inj hf
        subst hf
        replace hM : ((-2 : Int64), (fun _ => 0)) = out := hM
        subst hM
        refine W.widen (k := 2) (n := 4098) (Nat.le_of_ble_eq_true rfl) (Nat.le_of_ble_eq_true rfl) ?_
        replace hI := hI.perm (w2 := [(x0, .inr (7, [.ref n0, .ref q0, v_heapsOfNet, v_pickerOfNet, .null])), (n0, .inr (3, [.int N_postCount, .int N_roadCount, .ref n1, .ref n2, .ref n3, .ref n4, .ref n5, .ref n6])), (n1, .inl (cI, 24, .inl N_first)), (n2, .inl (cI, 24, .inl N_second)), (n3, .inl (cI, 24, .inl N_number)), (n4, .inl (cI, 24, .inl N_allowed)), (n5, .inl (cI, 12, .inl N_at)), (n6, .inl (cI, 24, .inl N_beside)), (q0, .inr (5, [.int Q_side, .int Q_height, .ref q1, .ref q2, .ref q3])), (q1, .inl (cI, 81, .inl Q_cell)), (q2, .inl (cI, 9, .inl Q_taken)), (q3, .inl (cI, 512, .inl Q_ways))]) [0, 1, 2, 3, 4, 5, 6, 7, 8, 9, 10, 11] rfl rfl
        exact rt_l (u := none) hx hb hr hlocks hI hAe rfl dX7_count_25
theorem kvX7_mend : CalV RX7 yX7_mend cX7_mend 2 (some .int) 1 := ⟨wC_yX7_mend, wM_yX7_mend, wS_yX7_mend, wI_RX7, by decide +kernel⟩
noncomputable def FX7_mend (N_postCount : Int32) (N_roadCount : Int32) (N_first : Nat → Int32) (N_second : Nat → Int32) (N_number : Nat → Int32) (N_allowed : Nat → Int32) (N_at : Nat → Int32) (N_beside : Nat → Int32) (a1 : Int32) : Option (Int32 × (Nat → Int32)) :=
  (FX3_hasRoad N_roadCount a1).bind (fun o1 => if o1 = (0 : Int32) then (some ((-2 : Int32), N_number)) else (rd N_number 24 a1 (fun x2 => if x2 = (-1 : Int32) then ((FX3_leastClashing N_roadCount N_number N_beside).bind (fun o3 => if o3 = (-1 : Int32) then ((FX3_greatestNumber N_roadCount N_number).bind (fun o4 => (FX3_fullest N_postCount N_at).bind (fun o5 => if o5 < o4 then (some ((-2 : Int32), N_number)) else ((FX3_isPlain N_roadCount N_first N_second N_at).bind (fun o6 => if o6 = (0 : Int32) then (some ((-2 : Int32), N_number)) else ((FX1_init N_postCount N_roadCount N_first N_second N_number N_allowed N_at N_beside a1).bind (fun o8 => (FX1_mendRoad o8.1 o8.2.2 o8.2.1 N_roadCount N_first N_second N_number N_at N_beside).bind (fun o10 => some (o10.1, o10.2.2.2))))))))) else (some ((-2 : Int32), N_number)))) else (some ((-2 : Int32), N_number)))))
set_option maxHeartbeats 4000000 in
set_option maxRecDepth 100000 in
theorem kX7_mend (l : Launch) (D : va_G) (cI cJ cZ : ClassId) (x0 n0 n1 n2 n3 n4 n5 n6 q0 q1 q2 q3 : Nat) (v_heapsOfNet : Value) (v_pickerOfNet : Value) (v_tallyOfNet : Value) (N_postCount : Int32) (N_roadCount : Int32) (N_first : Nat → Int32) (N_second : Nat → Int32) (N_number_0 : Nat → Int32) (N_allowed : Nat → Int32) (N_at : Nat → Int32) (N_beside : Nat → Int32) (Q_side : Int32) (Q_height : Int32) (Q_cell : Nat → Int32) (Q_taken : Nat → Int32) (Q_ways : Nat → Int32) (a1 : Int32) (out : Int32 × (Nat → Int32)) (hf : FX7_mend N_postCount N_roadCount N_first N_second N_number_0 N_allowed N_at N_beside a1 = some out) : MI l yX7_mend (Cond.code yX7_mend cX7_mend 2 (some .int) :: GW) { frames := 5, cells := 2, slots := 28, locals := 121 } D cI cJ cZ [.ref x0, .int a1] [(x0, .inr (7, [.ref n0, .ref q0, v_heapsOfNet, v_pickerOfNet, v_tallyOfNet])), (n0, .inr (3, [.int N_postCount, .int N_roadCount, .ref n1, .ref n2, .ref n3, .ref n4, .ref n5, .ref n6])), (n1, .inl (cI, 24, .inl N_first)), (n2, .inl (cI, 24, .inl N_second)), (n3, .inl (cI, 24, .inl N_number_0)), (n4, .inl (cI, 24, .inl N_allowed)), (n5, .inl (cI, 12, .inl N_at)), (n6, .inl (cI, 24, .inl N_beside)), (q0, .inr (5, [.int Q_side, .int Q_height, .ref q1, .ref q2, .ref q3])), (q1, .inl (cI, 81, .inl Q_cell)), (q2, .inl (cI, 9, .inl Q_taken)), (q3, .inl (cI, 512, .inl Q_ways))] (fun r (_ : Unit) => r = out.1) (fun _ => [(x0, .inr (7, [.ref n0, .ref q0, v_heapsOfNet, v_pickerOfNet, v_tallyOfNet])), (n0, .inr (3, [.int N_postCount, .int N_roadCount, .ref n1, .ref n2, .ref n3, .ref n4, .ref n5, .ref n6])), (n1, .inl (cI, 24, .inl N_first)), (n2, .inl (cI, 24, .inl N_second)), (n3, .inl (cI, 24, .inl out.2)), (n4, .inl (cI, 24, .inl N_allowed)), (n5, .inl (cI, 12, .inl N_at)), (n6, .inl (cI, 24, .inl N_beside)), (q0, .inr (5, [.int Q_side, .int Q_height, .ref q1, .ref q2, .ref q3])), (q1, .inl (cI, 81, .inl Q_cell)), (q2, .inl (cI, 9, .inl Q_taken)), (q3, .inl (cI, 512, .inl Q_ways))]) := by
  intro sz
  refine Met.ofW (cc := cX7_mend) (maxL := 2) (ret := (some .int)) (by decide +kernel) rfl ?_
  intro p e s m args below meth c s₁ B hml hv
  obtain ⟨rfl, hsz, hP, hK, hD0⟩ := hv
  have hx := B.exec
  have hb := B.bytes
  have hr := B.returns
  have hlocks := B.notSynchronized
  have hg : ∀ w ∈ GW, w.before _ s = true := fun w h => atoms_spec (ws := Cond.code yX7_mend cX7_mend 2 (some .int) :: GW) B.pre w (List.mem_cons_of_mem _ h)
  have hown : s.vm.findClass RX7 = some m.cls := findClass_of_methodNamed B.named
  subst hsz
  obtain ⟨A, hAe⟩ : ∃ A, A = va_A [(x0, .inr (7, [.ref n0, .ref q0, v_heapsOfNet, v_pickerOfNet, v_tallyOfNet])), (n0, .inr (3, [.int N_postCount, .int N_roadCount, .ref n1, .ref n2, .ref n3, .ref n4, .ref n5, .ref n6])), (n1, .inl (cI, 24, .inl N_first)), (n2, .inl (cI, 24, .inl N_second)), (n3, .inl (cI, 24, .inl N_number_0)), (n4, .inl (cI, 24, .inl N_allowed)), (n5, .inl (cI, 12, .inl N_at)), (n6, .inl (cI, 24, .inl N_beside)), (q0, .inr (5, [.int Q_side, .int Q_height, .ref q1, .ref q2, .ref q3])), (q1, .inl (cI, 81, .inl Q_cell)), (q2, .inl (cI, 9, .inl Q_taken)), (q3, .inl (cI, 512, .inl Q_ways))] s.heap.size := ⟨_, rfl⟩
  have hA : ∀ q : Nat, s.heap.size ≤ q → A q := fun q h => by rw [hAe]; exact Or.inr h
  have hI : WI D A s.heap [(x0, .inr (7, [.ref n0, .ref q0, v_heapsOfNet, v_pickerOfNet, v_tallyOfNet])), (n0, .inr (3, [.int N_postCount, .int N_roadCount, .ref n1, .ref n2, .ref n3, .ref n4, .ref n5, .ref n6])), (n1, .inl (cI, 24, .inl N_first)), (n2, .inl (cI, 24, .inl N_second)), (n3, .inl (cI, 24, .inl N_number_0)), (n4, .inl (cI, 24, .inl N_allowed)), (n5, .inl (cI, 12, .inl N_at)), (n6, .inl (cI, 24, .inl N_beside)), (q0, .inr (5, [.int Q_side, .int Q_height, .ref q1, .ref q2, .ref q3])), (q1, .inl (cI, 81, .inl Q_cell)), (q2, .inl (cI, 9, .inl Q_taken)), (q3, .inl (cI, 512, .inl Q_ways))] s.heap [] := ⟨hP, by rw [hAe]; exact hD0.self, va_S.rf⟩
  have hl := lv_entry [.ref x0, .int a1] (n := 2) (Nat.le_of_ble_eq_true rfl)
  rw [lg_entry_eq]
  generalize (lg_sl [.ref x0, .int a1] ++ List.replicate (2 - (lg_sl [.ref x0, .int a1]).length) Slot.unset).toArray = ls at hl ⊢
  replace hl : lv_has ls 2 [(0, .ref x0), (1, .int a1)] := hl
  obtain ⟨x, hf, hM⟩ : ∃ x, FX7_mend N_postCount N_roadCount N_first N_second N_number_0 N_allowed N_at N_beside a1 = some x ∧ x = out := ⟨out, hf, rfl⟩
  refine lv_aload_n hx hb dX7_mend_0 rfl (lv_at hl 0 rfl) ?_
  refine w_get hx hb hg hown hK hI iX7 0 rfl rfl 0 (by decide) wF_RX7_12 rfl dX7_mend_1 ?_
  refine lv_iload_n hx hb dX7_mend_4 rfl (lv_at hl 1 rfl) ?_
  obtain ⟨o1, ho1, hf⟩ := bd_e hf
  refine w_Vi (wc := (wN cI cJ cZ n0 n1 n2 n3 n4 n5 n6 N_postCount N_roadCount N_first N_second N_number_0 N_allowed N_at N_beside)) (wr := [(x0, .inr (7, [.ref n0, .ref q0, v_heapsOfNet, v_pickerOfNet, v_tallyOfNet])), (q0, .inr (5, [.int Q_side, .int Q_height, .ref q1, .ref q2, .ref q3])), (q1, .inl (cI, 81, .inl Q_cell)), (q2, .inl (cI, 9, .inl Q_taken)), (q3, .inl (cI, 512, .inl Q_ways))]) (rest := []) hx hb hml hg hown hK hA hI (kX3_hasRoad l D cI cJ cZ n0 n1 n2 n3 n4 n5 n6 N_postCount N_roadCount N_first N_second N_number_0 N_allowed N_at N_beside a1 o1 ho1) kvX3_hasRoad wL_RX7_45 ⟨Nat.le_of_ble_eq_true rfl, Nat.le_of_ble_eq_true rfl⟩ rfl rfl [1, 2, 3, 4, 5, 6, 7] [0, 8, 9, 10, 11] rfl rfl rfl rfl (by decide) rfl rfl hl.1 (Nat.le_of_ble_eq_true rfl) dX7_mend_5 ⟨Nat.le_of_ble_eq_true rfl, Nat.le_of_ble_eq_true rfl⟩ (fun r u H locs hp hI => ?_)
  replace hp : r = o1 := hp
  rw [hp]
  clear hp
  replace hI : WI D A s.heap [(x0, .inr (7, [.ref n0, .ref q0, v_heapsOfNet, v_pickerOfNet, v_tallyOfNet])), (n0, .inr (3, [.int N_postCount, .int N_roadCount, .ref n1, .ref n2, .ref n3, .ref n4, .ref n5, .ref n6])), (n1, .inl (cI, 24, .inl N_first)), (n2, .inl (cI, 24, .inl N_second)), (n3, .inl (cI, 24, .inl N_number_0)), (n4, .inl (cI, 24, .inl N_allowed)), (n5, .inl (cI, 12, .inl N_at)), (n6, .inl (cI, 24, .inl N_beside)), (q0, .inr (5, [.int Q_side, .int Q_height, .ref q1, .ref q2, .ref q3])), (q1, .inl (cI, 81, .inl Q_cell)), (q2, .inl (cI, 9, .inl Q_taken)), (q3, .inl (cI, 512, .inl Q_ways))] H locs := hI.perm [0, 5, 6, 7, 8, 9, 10, 11, 1, 2, 3, 4] rfl rfl
  refine lv_if_eq (tgt := 62) hx hb dX7_mend_8 (by decide) (fun hc => ?_) (fun hc => ?_)
  · replace hf := ite_t hc hf
    refine lv_bipush (v := -2) hx hb dX7_mend_62 (by decide) ?_
    replace hf := Option.some.inj hf
    subst hf
    replace hM : ((-2 : Int32), N_number_0) = out := hM
    subst hM
    refine W.widen (k := 2) (n := 28) (Nat.le_of_ble_eq_true rfl) (Nat.le_of_ble_eq_true rfl) ?_
    replace hI := hI.perm (w2 := [(x0, .inr (7, [.ref n0, .ref q0, v_heapsOfNet, v_pickerOfNet, v_tallyOfNet])), (n0, .inr (3, [.int N_postCount, .int N_roadCount, .ref n1, .ref n2, .ref n3, .ref n4, .ref n5, .ref n6])), (n1, .inl (cI, 24, .inl N_first)), (n2, .inl (cI, 24, .inl N_second)), (n3, .inl (cI, 24, .inl N_number_0)), (n4, .inl (cI, 24, .inl N_allowed)), (n5, .inl (cI, 12, .inl N_at)), (n6, .inl (cI, 24, .inl N_beside)), (q0, .inr (5, [.int Q_side, .int Q_height, .ref q1, .ref q2, .ref q3])), (q1, .inl (cI, 81, .inl Q_cell)), (q2, .inl (cI, 9, .inl Q_taken)), (q3, .inl (cI, 512, .inl Q_ways))]) [0, 1, 2, 3, 4, 5, 6, 7, 8, 9, 10, 11] rfl rfl
    exact rt_i (u := ()) hx hb hr hlocks rfl hI hAe rfl dX7_mend_64
  · replace hf := ite_f hc hf
    refine lv_aload_n hx hb dX7_mend_11 rfl (lv_at hl 0 rfl) ?_
    refine w_get hx hb hg hown hK hI iX7 0 rfl rfl 0 (by decide) wF_RX7_12 rfl dX7_mend_12 ?_
    refine w_get hx hb hg hown hK hI iX3 1 rfl rfl 4 (by decide) wF_RX7_48 rfl dX7_mend_15 ?_
    refine lv_iload_n hx hb dX7_mend_18 rfl (lv_at hl 1 rfl) ?_
    obtain ⟨hix, hf⟩ := rd_e hf
    refine w_iald hx hb hK hI 4 rfl hix dX7_mend_19 (fun x2 ex2 => ?_)
    replace hf := hf x2 ex2
    refine lv_iconst (v := -1) hx hb dX7_mend_20 (by decide) ?_
    refine lv_icmp_ne (tgt := 62) hx hb dX7_mend_21 (by decide) (fun hc => ?_) (fun hc => ?_)
    · replace hf := ite_f hc hf
      refine lv_bipush (v := -2) hx hb dX7_mend_62 (by decide) ?_
      replace hf := Option.some.inj hf
      subst hf
      replace hM : ((-2 : Int32), N_number_0) = out := hM
      subst hM
      refine W.widen (k := 2) (n := 28) (Nat.le_of_ble_eq_true rfl) (Nat.le_of_ble_eq_true rfl) ?_
      replace hI := hI.perm (w2 := [(x0, .inr (7, [.ref n0, .ref q0, v_heapsOfNet, v_pickerOfNet, v_tallyOfNet])), (n0, .inr (3, [.int N_postCount, .int N_roadCount, .ref n1, .ref n2, .ref n3, .ref n4, .ref n5, .ref n6])), (n1, .inl (cI, 24, .inl N_first)), (n2, .inl (cI, 24, .inl N_second)), (n3, .inl (cI, 24, .inl N_number_0)), (n4, .inl (cI, 24, .inl N_allowed)), (n5, .inl (cI, 12, .inl N_at)), (n6, .inl (cI, 24, .inl N_beside)), (q0, .inr (5, [.int Q_side, .int Q_height, .ref q1, .ref q2, .ref q3])), (q1, .inl (cI, 81, .inl Q_cell)), (q2, .inl (cI, 9, .inl Q_taken)), (q3, .inl (cI, 512, .inl Q_ways))]) [0, 1, 2, 3, 4, 5, 6, 7, 8, 9, 10, 11] rfl rfl
      exact rt_i (u := ()) hx hb hr hlocks rfl hI hAe rfl dX7_mend_64
    · replace hf := ite_t hc hf
      refine lv_aload_n hx hb dX7_mend_24 rfl (lv_at hl 0 rfl) ?_
      refine w_get hx hb hg hown hK hI iX7 0 rfl rfl 0 (by decide) wF_RX7_12 rfl dX7_mend_25 ?_
      obtain ⟨o3, ho3, hf⟩ := bd_e hf
      refine w_Vi (wc := (wN cI cJ cZ n0 n1 n2 n3 n4 n5 n6 N_postCount N_roadCount N_first N_second N_number_0 N_allowed N_at N_beside)) (wr := [(x0, .inr (7, [.ref n0, .ref q0, v_heapsOfNet, v_pickerOfNet, v_tallyOfNet])), (q0, .inr (5, [.int Q_side, .int Q_height, .ref q1, .ref q2, .ref q3])), (q1, .inl (cI, 81, .inl Q_cell)), (q2, .inl (cI, 9, .inl Q_taken)), (q3, .inl (cI, 512, .inl Q_ways))]) (rest := []) hx hb hml hg hown hK hA hI (kX3_leastClashing l D cI cJ cZ n0 n1 n2 n3 n4 n5 n6 N_postCount N_roadCount N_first N_second N_number_0 N_allowed N_at N_beside  o3 ho3) kvX3_leastClashing wL_RX7_79 ⟨Nat.le_of_ble_eq_true rfl, Nat.le_of_ble_eq_true rfl⟩ rfl rfl [1, 2, 3, 4, 5, 6, 7] [0, 8, 9, 10, 11] rfl rfl rfl rfl (by decide) rfl rfl hl.1 (Nat.le_of_ble_eq_true rfl) dX7_mend_28 ⟨Nat.le_of_ble_eq_true rfl, Nat.le_of_ble_eq_true rfl⟩ (fun r u H locs hp hI => ?_)
      replace hp : r = o3 := hp
      rw [hp]
      clear hp
      replace hI : WI D A s.heap [(x0, .inr (7, [.ref n0, .ref q0, v_heapsOfNet, v_pickerOfNet, v_tallyOfNet])), (n0, .inr (3, [.int N_postCount, .int N_roadCount, .ref n1, .ref n2, .ref n3, .ref n4, .ref n5, .ref n6])), (n1, .inl (cI, 24, .inl N_first)), (n2, .inl (cI, 24, .inl N_second)), (n3, .inl (cI, 24, .inl N_number_0)), (n4, .inl (cI, 24, .inl N_allowed)), (n5, .inl (cI, 12, .inl N_at)), (n6, .inl (cI, 24, .inl N_beside)), (q0, .inr (5, [.int Q_side, .int Q_height, .ref q1, .ref q2, .ref q3])), (q1, .inl (cI, 81, .inl Q_cell)), (q2, .inl (cI, 9, .inl Q_taken)), (q3, .inl (cI, 512, .inl Q_ways))] H locs := hI.perm [0, 5, 6, 7, 8, 9, 10, 11, 1, 2, 3, 4] rfl rfl
      refine lv_iconst (v := -1) hx hb dX7_mend_31 (by decide) ?_
      refine lv_icmp_ne (tgt := 62) hx hb dX7_mend_32 (by decide) (fun hc => ?_) (fun hc => ?_)
      · replace hf := ite_f hc hf
        refine lv_bipush (v := -2) hx hb dX7_mend_62 (by decide) ?_
        replace hf := Option.some.inj hf
        subst hf
        replace hM : ((-2 : Int32), N_number_0) = out := hM
        subst hM
        refine W.widen (k := 2) (n := 28) (Nat.le_of_ble_eq_true rfl) (Nat.le_of_ble_eq_true rfl) ?_
        replace hI := hI.perm (w2 := [(x0, .inr (7, [.ref n0, .ref q0, v_heapsOfNet, v_pickerOfNet, v_tallyOfNet])), (n0, .inr (3, [.int N_postCount, .int N_roadCount, .ref n1, .ref n2, .ref n3, .ref n4, .ref n5, .ref n6])), (n1, .inl (cI, 24, .inl N_first)), (n2, .inl (cI, 24, .inl N_second)), (n3, .inl (cI, 24, .inl N_number_0)), (n4, .inl (cI, 24, .inl N_allowed)), (n5, .inl (cI, 12, .inl N_at)), (n6, .inl (cI, 24, .inl N_beside)), (q0, .inr (5, [.int Q_side, .int Q_height, .ref q1, .ref q2, .ref q3])), (q1, .inl (cI, 81, .inl Q_cell)), (q2, .inl (cI, 9, .inl Q_taken)), (q3, .inl (cI, 512, .inl Q_ways))]) [0, 1, 2, 3, 4, 5, 6, 7, 8, 9, 10, 11] rfl rfl
        exact rt_i (u := ()) hx hb hr hlocks rfl hI hAe rfl dX7_mend_64
      · replace hf := ite_t hc hf
        refine lv_aload_n hx hb dX7_mend_35 rfl (lv_at hl 0 rfl) ?_
        refine w_get hx hb hg hown hK hI iX7 0 rfl rfl 0 (by decide) wF_RX7_12 rfl dX7_mend_36 ?_
        obtain ⟨o4, ho4, hf⟩ := bd_e hf
        refine w_Vi (wc := (wN cI cJ cZ n0 n1 n2 n3 n4 n5 n6 N_postCount N_roadCount N_first N_second N_number_0 N_allowed N_at N_beside)) (wr := [(x0, .inr (7, [.ref n0, .ref q0, v_heapsOfNet, v_pickerOfNet, v_tallyOfNet])), (q0, .inr (5, [.int Q_side, .int Q_height, .ref q1, .ref q2, .ref q3])), (q1, .inl (cI, 81, .inl Q_cell)), (q2, .inl (cI, 9, .inl Q_taken)), (q3, .inl (cI, 512, .inl Q_ways))]) (rest := []) hx hb hml hg hown hK hA hI (kX3_greatestNumber l D cI cJ cZ n0 n1 n2 n3 n4 n5 n6 N_postCount N_roadCount N_first N_second N_number_0 N_allowed N_at N_beside  o4 ho4) kvX3_greatestNumber wL_RX7_94 ⟨Nat.le_of_ble_eq_true rfl, Nat.le_of_ble_eq_true rfl⟩ rfl rfl [1, 2, 3, 4, 5, 6, 7] [0, 8, 9, 10, 11] rfl rfl rfl rfl (by decide) rfl rfl hl.1 (Nat.le_of_ble_eq_true rfl) dX7_mend_39 ⟨Nat.le_of_ble_eq_true rfl, Nat.le_of_ble_eq_true rfl⟩ (fun r u H locs hp hI => ?_)
        replace hp : r = o4 := hp
        rw [hp]
        clear hp
        replace hI : WI D A s.heap [(x0, .inr (7, [.ref n0, .ref q0, v_heapsOfNet, v_pickerOfNet, v_tallyOfNet])), (n0, .inr (3, [.int N_postCount, .int N_roadCount, .ref n1, .ref n2, .ref n3, .ref n4, .ref n5, .ref n6])), (n1, .inl (cI, 24, .inl N_first)), (n2, .inl (cI, 24, .inl N_second)), (n3, .inl (cI, 24, .inl N_number_0)), (n4, .inl (cI, 24, .inl N_allowed)), (n5, .inl (cI, 12, .inl N_at)), (n6, .inl (cI, 24, .inl N_beside)), (q0, .inr (5, [.int Q_side, .int Q_height, .ref q1, .ref q2, .ref q3])), (q1, .inl (cI, 81, .inl Q_cell)), (q2, .inl (cI, 9, .inl Q_taken)), (q3, .inl (cI, 512, .inl Q_ways))] H locs := hI.perm [0, 5, 6, 7, 8, 9, 10, 11, 1, 2, 3, 4] rfl rfl
        refine lv_aload_n hx hb dX7_mend_42 rfl (lv_at hl 0 rfl) ?_
        refine w_get hx hb hg hown hK hI iX7 0 rfl rfl 0 (by decide) wF_RX7_12 rfl dX7_mend_43 ?_
        obtain ⟨o5, ho5, hf⟩ := bd_e hf
        refine w_Vi (wc := (wN cI cJ cZ n0 n1 n2 n3 n4 n5 n6 N_postCount N_roadCount N_first N_second N_number_0 N_allowed N_at N_beside)) (wr := [(x0, .inr (7, [.ref n0, .ref q0, v_heapsOfNet, v_pickerOfNet, v_tallyOfNet])), (q0, .inr (5, [.int Q_side, .int Q_height, .ref q1, .ref q2, .ref q3])), (q1, .inl (cI, 81, .inl Q_cell)), (q2, .inl (cI, 9, .inl Q_taken)), (q3, .inl (cI, 512, .inl Q_ways))]) (rest := [.int o4]) hx hb hml hg hown hK hA hI (kX3_fullest l D cI cJ cZ n0 n1 n2 n3 n4 n5 n6 N_postCount N_roadCount N_first N_second N_number_0 N_allowed N_at N_beside  o5 ho5) kvX3_fullest wL_RX7_97 ⟨Nat.le_of_ble_eq_true rfl, Nat.le_of_ble_eq_true rfl⟩ rfl rfl [1, 2, 3, 4, 5, 6, 7] [0, 8, 9, 10, 11] rfl rfl rfl rfl (by decide) rfl rfl hl.1 (Nat.le_of_ble_eq_true rfl) dX7_mend_46 ⟨Nat.le_of_ble_eq_true rfl, Nat.le_of_ble_eq_true rfl⟩ (fun r u H locs hp hI => ?_)
        replace hp : r = o5 := hp
        rw [hp]
        clear hp
        replace hI : WI D A s.heap [(x0, .inr (7, [.ref n0, .ref q0, v_heapsOfNet, v_pickerOfNet, v_tallyOfNet])), (n0, .inr (3, [.int N_postCount, .int N_roadCount, .ref n1, .ref n2, .ref n3, .ref n4, .ref n5, .ref n6])), (n1, .inl (cI, 24, .inl N_first)), (n2, .inl (cI, 24, .inl N_second)), (n3, .inl (cI, 24, .inl N_number_0)), (n4, .inl (cI, 24, .inl N_allowed)), (n5, .inl (cI, 12, .inl N_at)), (n6, .inl (cI, 24, .inl N_beside)), (q0, .inr (5, [.int Q_side, .int Q_height, .ref q1, .ref q2, .ref q3])), (q1, .inl (cI, 81, .inl Q_cell)), (q2, .inl (cI, 9, .inl Q_taken)), (q3, .inl (cI, 512, .inl Q_ways))] H locs := hI.perm [0, 5, 6, 7, 8, 9, 10, 11, 1, 2, 3, 4] rfl rfl
        refine lv_icmp_gt (tgt := 62) hx hb dX7_mend_49 (by decide) (fun hc => ?_) (fun hc => ?_)
        · replace hf := ite_t hc hf
          refine lv_bipush (v := -2) hx hb dX7_mend_62 (by decide) ?_
          replace hf := Option.some.inj hf
          subst hf
          replace hM : ((-2 : Int32), N_number_0) = out := hM
          subst hM
          refine W.widen (k := 2) (n := 28) (Nat.le_of_ble_eq_true rfl) (Nat.le_of_ble_eq_true rfl) ?_
          replace hI := hI.perm (w2 := [(x0, .inr (7, [.ref n0, .ref q0, v_heapsOfNet, v_pickerOfNet, v_tallyOfNet])), (n0, .inr (3, [.int N_postCount, .int N_roadCount, .ref n1, .ref n2, .ref n3, .ref n4, .ref n5, .ref n6])), (n1, .inl (cI, 24, .inl N_first)), (n2, .inl (cI, 24, .inl N_second)), (n3, .inl (cI, 24, .inl N_number_0)), (n4, .inl (cI, 24, .inl N_allowed)), (n5, .inl (cI, 12, .inl N_at)), (n6, .inl (cI, 24, .inl N_beside)), (q0, .inr (5, [.int Q_side, .int Q_height, .ref q1, .ref q2, .ref q3])), (q1, .inl (cI, 81, .inl Q_cell)), (q2, .inl (cI, 9, .inl Q_taken)), (q3, .inl (cI, 512, .inl Q_ways))]) [0, 1, 2, 3, 4, 5, 6, 7, 8, 9, 10, 11] rfl rfl
          exact rt_i (u := ()) hx hb hr hlocks rfl hI hAe rfl dX7_mend_64
        · replace hf := ite_f hc hf
          refine lv_aload_n hx hb dX7_mend_52 rfl (lv_at hl 0 rfl) ?_
          refine w_get hx hb hg hown hK hI iX7 0 rfl rfl 0 (by decide) wF_RX7_12 rfl dX7_mend_53 ?_
          obtain ⟨o6, ho6, hf⟩ := bd_e hf
          refine w_Vi (wc := (wN cI cJ cZ n0 n1 n2 n3 n4 n5 n6 N_postCount N_roadCount N_first N_second N_number_0 N_allowed N_at N_beside)) (wr := [(x0, .inr (7, [.ref n0, .ref q0, v_heapsOfNet, v_pickerOfNet, v_tallyOfNet])), (q0, .inr (5, [.int Q_side, .int Q_height, .ref q1, .ref q2, .ref q3])), (q1, .inl (cI, 81, .inl Q_cell)), (q2, .inl (cI, 9, .inl Q_taken)), (q3, .inl (cI, 512, .inl Q_ways))]) (rest := []) hx hb hml hg hown hK hA hI (kX3_isPlain l D cI cJ cZ n0 n1 n2 n3 n4 n5 n6 N_postCount N_roadCount N_first N_second N_number_0 N_allowed N_at N_beside  o6 ho6) kvX3_isPlain wL_RX7_100 ⟨Nat.le_of_ble_eq_true rfl, Nat.le_of_ble_eq_true rfl⟩ rfl rfl [1, 2, 3, 4, 5, 6, 7] [0, 8, 9, 10, 11] rfl rfl rfl rfl (by decide) rfl rfl hl.1 (Nat.le_of_ble_eq_true rfl) dX7_mend_56 ⟨Nat.le_of_ble_eq_true rfl, Nat.le_of_ble_eq_true rfl⟩ (fun r u H locs hp hI => ?_)
          replace hp : r = o6 := hp
          rw [hp]
          clear hp
          replace hI : WI D A s.heap [(x0, .inr (7, [.ref n0, .ref q0, v_heapsOfNet, v_pickerOfNet, v_tallyOfNet])), (n0, .inr (3, [.int N_postCount, .int N_roadCount, .ref n1, .ref n2, .ref n3, .ref n4, .ref n5, .ref n6])), (n1, .inl (cI, 24, .inl N_first)), (n2, .inl (cI, 24, .inl N_second)), (n3, .inl (cI, 24, .inl N_number_0)), (n4, .inl (cI, 24, .inl N_allowed)), (n5, .inl (cI, 12, .inl N_at)), (n6, .inl (cI, 24, .inl N_beside)), (q0, .inr (5, [.int Q_side, .int Q_height, .ref q1, .ref q2, .ref q3])), (q1, .inl (cI, 81, .inl Q_cell)), (q2, .inl (cI, 9, .inl Q_taken)), (q3, .inl (cI, 512, .inl Q_ways))] H locs := hI.perm [0, 5, 6, 7, 8, 9, 10, 11, 1, 2, 3, 4] rfl rfl
          refine lv_if_ne (tgt := 65) hx hb dX7_mend_59 (by decide) (fun hc => ?_) (fun hc => ?_)
          · replace hf := ite_f hc hf
            refine va_new (ci := 1) (fs := [.null, .int (0 : Int32), .null, .int (0 : Int32)]) (C := RX1) (T := TX1) (N := 4) hx hb hg iX1 tyX1 tyX1_ok hown (hg _ wK_RX7_104) (hg _ wN_RX1) (hg _ wI_RX1) hK.1 hI.1 hI.2.1 hI.2.2 hA rfl (by intro j hj; match j, hj with | 0, _ => rfl | 1, _ => rfl | 2, _ => rfl | 3, _ => rfl | (j + 4), hj => exact absurd hj (by omega)) (Nat.le_of_ble_eq_true rfl) (Nat.le_of_ble_eq_true rfl) dX7_mend_65 (fun b7 H hP hD hS => ?_)
            replace hI : WI D A s.heap [(x0, .inr (7, [.ref n0, .ref q0, v_heapsOfNet, v_pickerOfNet, v_tallyOfNet])), (n0, .inr (3, [.int N_postCount, .int N_roadCount, .ref n1, .ref n2, .ref n3, .ref n4, .ref n5, .ref n6])), (n1, .inl (cI, 24, .inl N_first)), (n2, .inl (cI, 24, .inl N_second)), (n3, .inl (cI, 24, .inl N_number_0)), (n4, .inl (cI, 24, .inl N_allowed)), (n5, .inl (cI, 12, .inl N_at)), (n6, .inl (cI, 24, .inl N_beside)), (q0, .inr (5, [.int Q_side, .int Q_height, .ref q1, .ref q2, .ref q3])), (q1, .inl (cI, 81, .inl Q_cell)), (q2, .inl (cI, 9, .inl Q_taken)), (q3, .inl (cI, 512, .inl Q_ways)), (b7, .inr (1, [.null, .int (0 : Int32), .null, .int (0 : Int32)]))] H _ := ⟨hP, hD, hS⟩
            clear hP hD hS
            refine lv_dup hx hb dX7_mend_68 rfl ?_
            refine lv_aload_n hx hb dX7_mend_69 rfl (lv_at hl 0 rfl) ?_
            refine w_get hx hb hg hown hK hI iX7 0 rfl rfl 0 (by decide) wF_RX7_12 rfl dX7_mend_70 ?_
            refine lv_iload_n hx hb dX7_mend_73 rfl (lv_at hl 1 rfl) ?_
            obtain ⟨o8, ho8, hf⟩ := bd_e hf
            refine w_I (wc := [(b7, .inr (1, [.null, .int (0 : Int32), .null, .int (0 : Int32)])), (n0, .inr (3, [.int N_postCount, .int N_roadCount, .ref n1, .ref n2, .ref n3, .ref n4, .ref n5, .ref n6])), (n1, .inl (cI, 24, .inl N_first)), (n2, .inl (cI, 24, .inl N_second)), (n3, .inl (cI, 24, .inl N_number_0)), (n4, .inl (cI, 24, .inl N_allowed)), (n5, .inl (cI, 12, .inl N_at)), (n6, .inl (cI, 24, .inl N_beside))]) (wr := [(x0, .inr (7, [.ref n0, .ref q0, v_heapsOfNet, v_pickerOfNet, v_tallyOfNet])), (q0, .inr (5, [.int Q_side, .int Q_height, .ref q1, .ref q2, .ref q3])), (q1, .inl (cI, 81, .inl Q_cell)), (q2, .inl (cI, 9, .inl Q_taken)), (q3, .inl (cI, 512, .inl Q_ways))]) (rest := [.ref b7]) hx hb hml hg hown hK hA hI (kIX1_init l D cI cJ cZ b7 n0 n1 n2 n3 n4 n5 n6 N_postCount N_roadCount N_first N_second N_number_0 N_allowed N_at N_beside a1 o8 ho8) kiX1_init wL_RX7_106 ⟨Nat.le_of_ble_eq_true rfl, Nat.le_of_ble_eq_true rfl⟩ [12, 1, 2, 3, 4, 5, 6, 7] [0, 8, 9, 10, 11] rfl rfl rfl rfl (by decide) rfl rfl hl.1 (Nat.le_of_ble_eq_true rfl) dX7_mend_74 ⟨Nat.le_of_ble_eq_true rfl, Nat.le_of_ble_eq_true rfl⟩ (fun u H locs hp hI => ?_)
            obtain ⟨b9, rfl⟩ : ∃ b, b = u := ⟨u, rfl⟩
            replace hI : WI D A s.heap [(x0, .inr (7, [.ref n0, .ref q0, v_heapsOfNet, v_pickerOfNet, v_tallyOfNet])), (q0, .inr (5, [.int Q_side, .int Q_height, .ref q1, .ref q2, .ref q3])), (q1, .inl (cI, 81, .inl Q_cell)), (q2, .inl (cI, 9, .inl Q_taken)), (q3, .inl (cI, 512, .inl Q_ways)), (b7, .inr (1, [.ref n0, .int o8.1, .ref b9, .int o8.2.2])), (b9, .inl (cI, 24, .inl o8.2.1)), (n0, .inr (3, [.int N_postCount, .int N_roadCount, .ref n1, .ref n2, .ref n3, .ref n4, .ref n5, .ref n6])), (n1, .inl (cI, 24, .inl N_first)), (n2, .inl (cI, 24, .inl N_second)), (n3, .inl (cI, 24, .inl N_number_0)), (n4, .inl (cI, 24, .inl N_allowed)), (n5, .inl (cI, 12, .inl N_at)), (n6, .inl (cI, 24, .inl N_beside))] H locs := hI
            clear hp
            obtain ⟨o10, ho10, hf⟩ := bd_e hf
            refine w_Vi (wc := (wF cI cJ cZ b7 b9 n0 n1 n2 n3 n4 n5 n6 o8.1 o8.2.2 o8.2.1 N_postCount N_roadCount N_first N_second N_number_0 N_allowed N_at N_beside)) (wr := [(x0, .inr (7, [.ref n0, .ref q0, v_heapsOfNet, v_pickerOfNet, v_tallyOfNet])), (q0, .inr (5, [.int Q_side, .int Q_height, .ref q1, .ref q2, .ref q3])), (q1, .inl (cI, 81, .inl Q_cell)), (q2, .inl (cI, 9, .inl Q_taken)), (q3, .inl (cI, 512, .inl Q_ways))]) (rest := []) hx hb hml hg hown hK hA hI (kX1_mendRoad l D cI cJ cZ b7 b9 n0 n1 n2 n3 n4 n5 n6 o8.1 o8.2.2 o8.2.1 N_postCount N_roadCount N_first N_second N_number_0 N_allowed N_at N_beside  o10 ho10) kvX1_mendRoad wL_RX7_109 ⟨Nat.le_of_ble_eq_true rfl, Nat.le_of_ble_eq_true rfl⟩ rfl rfl [5, 6, 7, 8, 9, 10, 11, 12, 13] [0, 1, 2, 3, 4] rfl rfl rfl rfl (by decide) rfl rfl hl.1 (Nat.le_of_ble_eq_true rfl) dX7_mend_77 ⟨Nat.le_of_ble_eq_true rfl, Nat.le_of_ble_eq_true rfl⟩ (fun r u H locs hp hI => ?_)
            replace hp : r = o10.1 := hp
            rw [hp]
            clear hp
            replace hI : WI D A s.heap [(x0, .inr (7, [.ref n0, .ref q0, v_heapsOfNet, v_pickerOfNet, v_tallyOfNet])), (q0, .inr (5, [.int Q_side, .int Q_height, .ref q1, .ref q2, .ref q3])), (q1, .inl (cI, 81, .inl Q_cell)), (q2, .inl (cI, 9, .inl Q_taken)), (q3, .inl (cI, 512, .inl Q_ways)), (b7, .inr (1, [.ref n0, .int o8.1, .ref b9, .int o10.2.1])), (b9, .inl (cI, 24, .inl o10.2.2.1)), (n0, .inr (3, [.int N_postCount, .int N_roadCount, .ref n1, .ref n2, .ref n3, .ref n4, .ref n5, .ref n6])), (n1, .inl (cI, 24, .inl N_first)), (n2, .inl (cI, 24, .inl N_second)), (n3, .inl (cI, 24, .inl o10.2.2.2)), (n4, .inl (cI, 24, .inl N_allowed)), (n5, .inl (cI, 12, .inl N_at)), (n6, .inl (cI, 24, .inl N_beside))] H locs := hI
            replace hf := Option.some.inj hf
            subst hf
            replace hM : (o10.1, o10.2.2.2) = out := hM
            subst hM
            refine W.widen (k := 2) (n := 28) (Nat.le_of_ble_eq_true rfl) (Nat.le_of_ble_eq_true rfl) ?_
            replace hI := hI.perm (w2 := [(x0, .inr (7, [.ref n0, .ref q0, v_heapsOfNet, v_pickerOfNet, v_tallyOfNet])), (n0, .inr (3, [.int N_postCount, .int N_roadCount, .ref n1, .ref n2, .ref n3, .ref n4, .ref n5, .ref n6])), (n1, .inl (cI, 24, .inl N_first)), (n2, .inl (cI, 24, .inl N_second)), (n3, .inl (cI, 24, .inl o10.2.2.2)), (n4, .inl (cI, 24, .inl N_allowed)), (n5, .inl (cI, 12, .inl N_at)), (n6, .inl (cI, 24, .inl N_beside)), (q0, .inr (5, [.int Q_side, .int Q_height, .ref q1, .ref q2, .ref q3])), (q1, .inl (cI, 81, .inl Q_cell)), (q2, .inl (cI, 9, .inl Q_taken)), (q3, .inl (cI, 512, .inl Q_ways))]) [0, 7, 8, 9, 10, 11, 12, 13, 1, 2, 3, 4] rfl rfl
            exact rt_i (u := ()) hx hb hr hlocks rfl hI hAe rfl dX7_mend_80
          · replace hf := ite_t hc hf
            refine lv_bipush (v := -2) hx hb dX7_mend_62 (by decide) ?_
            replace hf := Option.some.inj hf
            subst hf
            replace hM : ((-2 : Int32), N_number_0) = out := hM
            subst hM
            refine W.widen (k := 2) (n := 28) (Nat.le_of_ble_eq_true rfl) (Nat.le_of_ble_eq_true rfl) ?_
            replace hI := hI.perm (w2 := [(x0, .inr (7, [.ref n0, .ref q0, v_heapsOfNet, v_pickerOfNet, v_tallyOfNet])), (n0, .inr (3, [.int N_postCount, .int N_roadCount, .ref n1, .ref n2, .ref n3, .ref n4, .ref n5, .ref n6])), (n1, .inl (cI, 24, .inl N_first)), (n2, .inl (cI, 24, .inl N_second)), (n3, .inl (cI, 24, .inl N_number_0)), (n4, .inl (cI, 24, .inl N_allowed)), (n5, .inl (cI, 12, .inl N_at)), (n6, .inl (cI, 24, .inl N_beside)), (q0, .inr (5, [.int Q_side, .int Q_height, .ref q1, .ref q2, .ref q3])), (q1, .inl (cI, 81, .inl Q_cell)), (q2, .inl (cI, 9, .inl Q_taken)), (q3, .inl (cI, 512, .inl Q_ways))]) [0, 1, 2, 3, 4, 5, 6, 7, 8, 9, 10, 11] rfl rfl
            exact rt_i (u := ()) hx hb hr hlocks rfl hI hAe rfl dX7_mend_64
theorem kvX7_even : CalV RX7 yX7_even cX7_even 2 (some .int) 1 := ⟨wC_yX7_even, wM_yX7_even, wS_yX7_even, wI_RX7, by decide +kernel⟩
noncomputable def FX7_even (N_postCount : Int32) (N_roadCount : Int32) (N_first : Nat → Int32) (N_second : Nat → Int32) (N_number : Nat → Int32) (N_allowed : Nat → Int32) (N_at : Nat → Int32) (N_beside : Nat → Int32) (a1 : Int32) : Option (Int32 × (Nat → Int32)) :=
  if a1 < (1 : Int32) then (some ((-2 : Int32), N_number)) else (if (16 : Int32) < a1 then (some ((-2 : Int32), N_number)) else ((FX3_numberedRoads N_roadCount N_number).bind (fun o1 => if o1 < N_roadCount then (some ((-2 : Int32), N_number)) else ((FX3_greatestNumber N_roadCount N_number).bind (fun o2 => if a1 ≤ o2 then (some ((-2 : Int32), N_number)) else ((FX3_leastClashing N_roadCount N_number N_beside).bind (fun o3 => if o3 = (-1 : Int32) then ((FX0_makeEven a1 (fun _ => 0) N_roadCount N_number N_beside).bind (fun o6 => some (o6.1, o6.2.2))) else (some ((-2 : Int32), N_number)))))))))
set_option maxHeartbeats 4000000 in
set_option maxRecDepth 100000 in
theorem kX7_even (l : Launch) (D : va_G) (cI cJ cZ : ClassId) (x0 n0 n1 n2 n3 n4 n5 n6 q0 q1 q2 q3 : Nat) (v_heapsOfNet : Value) (v_pickerOfNet : Value) (v_tallyOfNet : Value) (N_postCount : Int32) (N_roadCount : Int32) (N_first : Nat → Int32) (N_second : Nat → Int32) (N_number_0 : Nat → Int32) (N_allowed : Nat → Int32) (N_at : Nat → Int32) (N_beside : Nat → Int32) (Q_side : Int32) (Q_height : Int32) (Q_cell : Nat → Int32) (Q_taken : Nat → Int32) (Q_ways : Nat → Int32) (a1 : Int32) (out : Int32 × (Nat → Int32)) (hf : FX7_even N_postCount N_roadCount N_first N_second N_number_0 N_allowed N_at N_beside a1 = some out) : MI l yX7_even (Cond.code yX7_even cX7_even 2 (some .int) :: GW) { frames := 5, cells := 2, slots := 19, locals := 121 } D cI cJ cZ [.ref x0, .int a1] [(x0, .inr (7, [.ref n0, .ref q0, v_heapsOfNet, v_pickerOfNet, v_tallyOfNet])), (n0, .inr (3, [.int N_postCount, .int N_roadCount, .ref n1, .ref n2, .ref n3, .ref n4, .ref n5, .ref n6])), (n1, .inl (cI, 24, .inl N_first)), (n2, .inl (cI, 24, .inl N_second)), (n3, .inl (cI, 24, .inl N_number_0)), (n4, .inl (cI, 24, .inl N_allowed)), (n5, .inl (cI, 12, .inl N_at)), (n6, .inl (cI, 24, .inl N_beside)), (q0, .inr (5, [.int Q_side, .int Q_height, .ref q1, .ref q2, .ref q3])), (q1, .inl (cI, 81, .inl Q_cell)), (q2, .inl (cI, 9, .inl Q_taken)), (q3, .inl (cI, 512, .inl Q_ways))] (fun r (_ : Unit) => r = out.1) (fun _ => [(x0, .inr (7, [.ref n0, .ref q0, v_heapsOfNet, v_pickerOfNet, v_tallyOfNet])), (n0, .inr (3, [.int N_postCount, .int N_roadCount, .ref n1, .ref n2, .ref n3, .ref n4, .ref n5, .ref n6])), (n1, .inl (cI, 24, .inl N_first)), (n2, .inl (cI, 24, .inl N_second)), (n3, .inl (cI, 24, .inl out.2)), (n4, .inl (cI, 24, .inl N_allowed)), (n5, .inl (cI, 12, .inl N_at)), (n6, .inl (cI, 24, .inl N_beside)), (q0, .inr (5, [.int Q_side, .int Q_height, .ref q1, .ref q2, .ref q3])), (q1, .inl (cI, 81, .inl Q_cell)), (q2, .inl (cI, 9, .inl Q_taken)), (q3, .inl (cI, 512, .inl Q_ways))]) := by
  intro sz
  refine Met.ofW (cc := cX7_even) (maxL := 2) (ret := (some .int)) (by decide +kernel) rfl ?_
  intro p e s m args below meth c s₁ B hml hv
  obtain ⟨rfl, hsz, hP, hK, hD0⟩ := hv
  have hx := B.exec
  have hb := B.bytes
  have hr := B.returns
  have hlocks := B.notSynchronized
  have hg : ∀ w ∈ GW, w.before _ s = true := fun w h => atoms_spec (ws := Cond.code yX7_even cX7_even 2 (some .int) :: GW) B.pre w (List.mem_cons_of_mem _ h)
  have hown : s.vm.findClass RX7 = some m.cls := findClass_of_methodNamed B.named
  subst hsz
  obtain ⟨A, hAe⟩ : ∃ A, A = va_A [(x0, .inr (7, [.ref n0, .ref q0, v_heapsOfNet, v_pickerOfNet, v_tallyOfNet])), (n0, .inr (3, [.int N_postCount, .int N_roadCount, .ref n1, .ref n2, .ref n3, .ref n4, .ref n5, .ref n6])), (n1, .inl (cI, 24, .inl N_first)), (n2, .inl (cI, 24, .inl N_second)), (n3, .inl (cI, 24, .inl N_number_0)), (n4, .inl (cI, 24, .inl N_allowed)), (n5, .inl (cI, 12, .inl N_at)), (n6, .inl (cI, 24, .inl N_beside)), (q0, .inr (5, [.int Q_side, .int Q_height, .ref q1, .ref q2, .ref q3])), (q1, .inl (cI, 81, .inl Q_cell)), (q2, .inl (cI, 9, .inl Q_taken)), (q3, .inl (cI, 512, .inl Q_ways))] s.heap.size := ⟨_, rfl⟩
  have hA : ∀ q : Nat, s.heap.size ≤ q → A q := fun q h => by rw [hAe]; exact Or.inr h
  have hI : WI D A s.heap [(x0, .inr (7, [.ref n0, .ref q0, v_heapsOfNet, v_pickerOfNet, v_tallyOfNet])), (n0, .inr (3, [.int N_postCount, .int N_roadCount, .ref n1, .ref n2, .ref n3, .ref n4, .ref n5, .ref n6])), (n1, .inl (cI, 24, .inl N_first)), (n2, .inl (cI, 24, .inl N_second)), (n3, .inl (cI, 24, .inl N_number_0)), (n4, .inl (cI, 24, .inl N_allowed)), (n5, .inl (cI, 12, .inl N_at)), (n6, .inl (cI, 24, .inl N_beside)), (q0, .inr (5, [.int Q_side, .int Q_height, .ref q1, .ref q2, .ref q3])), (q1, .inl (cI, 81, .inl Q_cell)), (q2, .inl (cI, 9, .inl Q_taken)), (q3, .inl (cI, 512, .inl Q_ways))] s.heap [] := ⟨hP, by rw [hAe]; exact hD0.self, va_S.rf⟩
  have hl := lv_entry [.ref x0, .int a1] (n := 2) (Nat.le_of_ble_eq_true rfl)
  rw [lg_entry_eq]
  generalize (lg_sl [.ref x0, .int a1] ++ List.replicate (2 - (lg_sl [.ref x0, .int a1]).length) Slot.unset).toArray = ls at hl ⊢
  replace hl : lv_has ls 2 [(0, .ref x0), (1, .int a1)] := hl
  obtain ⟨x, hf, hM⟩ : ∃ x, FX7_even N_postCount N_roadCount N_first N_second N_number_0 N_allowed N_at N_beside a1 = some x ∧ x = out := ⟨out, hf, rfl⟩
  refine lv_iload_n hx hb dX7_even_0 rfl (lv_at hl 1 rfl) ?_
  refine lv_iconst (v := 1) hx hb dX7_even_1 (by decide) ?_
  refine lv_icmp_lt (tgt := 50) hx hb dX7_even_2 (by decide) (fun hc => ?_) (fun hc => ?_)
  · replace hf := ite_t hc hf
    refine lv_bipush (v := -2) hx hb dX7_even_50 (by decide) ?_
    replace hf := Option.some.inj hf
    subst hf
    replace hM : ((-2 : Int32), N_number_0) = out := hM
    subst hM
    refine W.widen (k := 2) (n := 19) (Nat.le_of_ble_eq_true rfl) (Nat.le_of_ble_eq_true rfl) ?_
    replace hI := hI.perm (w2 := [(x0, .inr (7, [.ref n0, .ref q0, v_heapsOfNet, v_pickerOfNet, v_tallyOfNet])), (n0, .inr (3, [.int N_postCount, .int N_roadCount, .ref n1, .ref n2, .ref n3, .ref n4, .ref n5, .ref n6])), (n1, .inl (cI, 24, .inl N_first)), (n2, .inl (cI, 24, .inl N_second)), (n3, .inl (cI, 24, .inl N_number_0)), (n4, .inl (cI, 24, .inl N_allowed)), (n5, .inl (cI, 12, .inl N_at)), (n6, .inl (cI, 24, .inl N_beside)), (q0, .inr (5, [.int Q_side, .int Q_height, .ref q1, .ref q2, .ref q3])), (q1, .inl (cI, 81, .inl Q_cell)), (q2, .inl (cI, 9, .inl Q_taken)), (q3, .inl (cI, 512, .inl Q_ways))]) [0, 1, 2, 3, 4, 5, 6, 7, 8, 9, 10, 11] rfl rfl
    exact rt_i (u := ()) hx hb hr hlocks rfl hI hAe rfl dX7_even_52
  · replace hf := ite_f hc hf
    refine lv_iload_n hx hb dX7_even_5 rfl (lv_at hl 1 rfl) ?_
    refine lv_bipush (v := 16) hx hb dX7_even_6 (by decide) ?_
    refine lv_icmp_gt (tgt := 50) hx hb dX7_even_8 (by decide) (fun hc => ?_) (fun hc => ?_)
    · replace hf := ite_t hc hf
      refine lv_bipush (v := -2) hx hb dX7_even_50 (by decide) ?_
      replace hf := Option.some.inj hf
      subst hf
      replace hM : ((-2 : Int32), N_number_0) = out := hM
      subst hM
      refine W.widen (k := 2) (n := 19) (Nat.le_of_ble_eq_true rfl) (Nat.le_of_ble_eq_true rfl) ?_
      replace hI := hI.perm (w2 := [(x0, .inr (7, [.ref n0, .ref q0, v_heapsOfNet, v_pickerOfNet, v_tallyOfNet])), (n0, .inr (3, [.int N_postCount, .int N_roadCount, .ref n1, .ref n2, .ref n3, .ref n4, .ref n5, .ref n6])), (n1, .inl (cI, 24, .inl N_first)), (n2, .inl (cI, 24, .inl N_second)), (n3, .inl (cI, 24, .inl N_number_0)), (n4, .inl (cI, 24, .inl N_allowed)), (n5, .inl (cI, 12, .inl N_at)), (n6, .inl (cI, 24, .inl N_beside)), (q0, .inr (5, [.int Q_side, .int Q_height, .ref q1, .ref q2, .ref q3])), (q1, .inl (cI, 81, .inl Q_cell)), (q2, .inl (cI, 9, .inl Q_taken)), (q3, .inl (cI, 512, .inl Q_ways))]) [0, 1, 2, 3, 4, 5, 6, 7, 8, 9, 10, 11] rfl rfl
      exact rt_i (u := ()) hx hb hr hlocks rfl hI hAe rfl dX7_even_52
    · replace hf := ite_f hc hf
      refine lv_aload_n hx hb dX7_even_11 rfl (lv_at hl 0 rfl) ?_
      refine w_get hx hb hg hown hK hI iX7 0 rfl rfl 0 (by decide) wF_RX7_12 rfl dX7_even_12 ?_
      obtain ⟨o1, ho1, hf⟩ := bd_e hf
      refine w_Vi (wc := (wN cI cJ cZ n0 n1 n2 n3 n4 n5 n6 N_postCount N_roadCount N_first N_second N_number_0 N_allowed N_at N_beside)) (wr := [(x0, .inr (7, [.ref n0, .ref q0, v_heapsOfNet, v_pickerOfNet, v_tallyOfNet])), (q0, .inr (5, [.int Q_side, .int Q_height, .ref q1, .ref q2, .ref q3])), (q1, .inl (cI, 81, .inl Q_cell)), (q2, .inl (cI, 9, .inl Q_taken)), (q3, .inl (cI, 512, .inl Q_ways))]) (rest := []) hx hb hml hg hown hK hA hI (kX3_numberedRoads l D cI cJ cZ n0 n1 n2 n3 n4 n5 n6 N_postCount N_roadCount N_first N_second N_number_0 N_allowed N_at N_beside  o1 ho1) kvX3_numberedRoads wL_RX7_52 ⟨Nat.le_of_ble_eq_true rfl, Nat.le_of_ble_eq_true rfl⟩ rfl rfl [1, 2, 3, 4, 5, 6, 7] [0, 8, 9, 10, 11] rfl rfl rfl rfl (by decide) rfl rfl hl.1 (Nat.le_of_ble_eq_true rfl) dX7_even_15 ⟨Nat.le_of_ble_eq_true rfl, Nat.le_of_ble_eq_true rfl⟩ (fun r u H locs hp hI => ?_)
      replace hp : r = o1 := hp
      rw [hp]
      clear hp
      replace hI : WI D A s.heap [(x0, .inr (7, [.ref n0, .ref q0, v_heapsOfNet, v_pickerOfNet, v_tallyOfNet])), (n0, .inr (3, [.int N_postCount, .int N_roadCount, .ref n1, .ref n2, .ref n3, .ref n4, .ref n5, .ref n6])), (n1, .inl (cI, 24, .inl N_first)), (n2, .inl (cI, 24, .inl N_second)), (n3, .inl (cI, 24, .inl N_number_0)), (n4, .inl (cI, 24, .inl N_allowed)), (n5, .inl (cI, 12, .inl N_at)), (n6, .inl (cI, 24, .inl N_beside)), (q0, .inr (5, [.int Q_side, .int Q_height, .ref q1, .ref q2, .ref q3])), (q1, .inl (cI, 81, .inl Q_cell)), (q2, .inl (cI, 9, .inl Q_taken)), (q3, .inl (cI, 512, .inl Q_ways))] H locs := hI.perm [0, 5, 6, 7, 8, 9, 10, 11, 1, 2, 3, 4] rfl rfl
      refine lv_aload_n hx hb dX7_even_18 rfl (lv_at hl 0 rfl) ?_
      refine w_get hx hb hg hown hK hI iX7 0 rfl rfl 0 (by decide) wF_RX7_12 rfl dX7_even_19 ?_
      refine w_get hx hb hg hown hK hI iX3 1 rfl rfl 1 (by decide) wF_RX7_35 rfl dX7_even_22 ?_
      refine lv_icmp_lt (tgt := 50) hx hb dX7_even_25 (by decide) (fun hc => ?_) (fun hc => ?_)
      · replace hf := ite_t hc hf
        refine lv_bipush (v := -2) hx hb dX7_even_50 (by decide) ?_
        replace hf := Option.some.inj hf
        subst hf
        replace hM : ((-2 : Int32), N_number_0) = out := hM
        subst hM
        refine W.widen (k := 2) (n := 19) (Nat.le_of_ble_eq_true rfl) (Nat.le_of_ble_eq_true rfl) ?_
        replace hI := hI.perm (w2 := [(x0, .inr (7, [.ref n0, .ref q0, v_heapsOfNet, v_pickerOfNet, v_tallyOfNet])), (n0, .inr (3, [.int N_postCount, .int N_roadCount, .ref n1, .ref n2, .ref n3, .ref n4, .ref n5, .ref n6])), (n1, .inl (cI, 24, .inl N_first)), (n2, .inl (cI, 24, .inl N_second)), (n3, .inl (cI, 24, .inl N_number_0)), (n4, .inl (cI, 24, .inl N_allowed)), (n5, .inl (cI, 12, .inl N_at)), (n6, .inl (cI, 24, .inl N_beside)), (q0, .inr (5, [.int Q_side, .int Q_height, .ref q1, .ref q2, .ref q3])), (q1, .inl (cI, 81, .inl Q_cell)), (q2, .inl (cI, 9, .inl Q_taken)), (q3, .inl (cI, 512, .inl Q_ways))]) [0, 1, 2, 3, 4, 5, 6, 7, 8, 9, 10, 11] rfl rfl
        exact rt_i (u := ()) hx hb hr hlocks rfl hI hAe rfl dX7_even_52
      · replace hf := ite_f hc hf
        refine lv_aload_n hx hb dX7_even_28 rfl (lv_at hl 0 rfl) ?_
        refine w_get hx hb hg hown hK hI iX7 0 rfl rfl 0 (by decide) wF_RX7_12 rfl dX7_even_29 ?_
        obtain ⟨o2, ho2, hf⟩ := bd_e hf
        refine w_Vi (wc := (wN cI cJ cZ n0 n1 n2 n3 n4 n5 n6 N_postCount N_roadCount N_first N_second N_number_0 N_allowed N_at N_beside)) (wr := [(x0, .inr (7, [.ref n0, .ref q0, v_heapsOfNet, v_pickerOfNet, v_tallyOfNet])), (q0, .inr (5, [.int Q_side, .int Q_height, .ref q1, .ref q2, .ref q3])), (q1, .inl (cI, 81, .inl Q_cell)), (q2, .inl (cI, 9, .inl Q_taken)), (q3, .inl (cI, 512, .inl Q_ways))]) (rest := []) hx hb hml hg hown hK hA hI (kX3_greatestNumber l D cI cJ cZ n0 n1 n2 n3 n4 n5 n6 N_postCount N_roadCount N_first N_second N_number_0 N_allowed N_at N_beside  o2 ho2) kvX3_greatestNumber wL_RX7_94 ⟨Nat.le_of_ble_eq_true rfl, Nat.le_of_ble_eq_true rfl⟩ rfl rfl [1, 2, 3, 4, 5, 6, 7] [0, 8, 9, 10, 11] rfl rfl rfl rfl (by decide) rfl rfl hl.1 (Nat.le_of_ble_eq_true rfl) dX7_even_32 ⟨Nat.le_of_ble_eq_true rfl, Nat.le_of_ble_eq_true rfl⟩ (fun r u H locs hp hI => ?_)
        replace hp : r = o2 := hp
        rw [hp]
        clear hp
        replace hI : WI D A s.heap [(x0, .inr (7, [.ref n0, .ref q0, v_heapsOfNet, v_pickerOfNet, v_tallyOfNet])), (n0, .inr (3, [.int N_postCount, .int N_roadCount, .ref n1, .ref n2, .ref n3, .ref n4, .ref n5, .ref n6])), (n1, .inl (cI, 24, .inl N_first)), (n2, .inl (cI, 24, .inl N_second)), (n3, .inl (cI, 24, .inl N_number_0)), (n4, .inl (cI, 24, .inl N_allowed)), (n5, .inl (cI, 12, .inl N_at)), (n6, .inl (cI, 24, .inl N_beside)), (q0, .inr (5, [.int Q_side, .int Q_height, .ref q1, .ref q2, .ref q3])), (q1, .inl (cI, 81, .inl Q_cell)), (q2, .inl (cI, 9, .inl Q_taken)), (q3, .inl (cI, 512, .inl Q_ways))] H locs := hI.perm [0, 5, 6, 7, 8, 9, 10, 11, 1, 2, 3, 4] rfl rfl
        refine lv_iload_n hx hb dX7_even_35 rfl (lv_at hl 1 rfl) ?_
        refine lv_icmp_ge (tgt := 50) hx hb dX7_even_36 (by decide) (fun hc => ?_) (fun hc => ?_)
        · replace hf := ite_t hc hf
          refine lv_bipush (v := -2) hx hb dX7_even_50 (by decide) ?_
          replace hf := Option.some.inj hf
          subst hf
          replace hM : ((-2 : Int32), N_number_0) = out := hM
          subst hM
          refine W.widen (k := 2) (n := 19) (Nat.le_of_ble_eq_true rfl) (Nat.le_of_ble_eq_true rfl) ?_
          replace hI := hI.perm (w2 := [(x0, .inr (7, [.ref n0, .ref q0, v_heapsOfNet, v_pickerOfNet, v_tallyOfNet])), (n0, .inr (3, [.int N_postCount, .int N_roadCount, .ref n1, .ref n2, .ref n3, .ref n4, .ref n5, .ref n6])), (n1, .inl (cI, 24, .inl N_first)), (n2, .inl (cI, 24, .inl N_second)), (n3, .inl (cI, 24, .inl N_number_0)), (n4, .inl (cI, 24, .inl N_allowed)), (n5, .inl (cI, 12, .inl N_at)), (n6, .inl (cI, 24, .inl N_beside)), (q0, .inr (5, [.int Q_side, .int Q_height, .ref q1, .ref q2, .ref q3])), (q1, .inl (cI, 81, .inl Q_cell)), (q2, .inl (cI, 9, .inl Q_taken)), (q3, .inl (cI, 512, .inl Q_ways))]) [0, 1, 2, 3, 4, 5, 6, 7, 8, 9, 10, 11] rfl rfl
          exact rt_i (u := ()) hx hb hr hlocks rfl hI hAe rfl dX7_even_52
        · replace hf := ite_f hc hf
          refine lv_aload_n hx hb dX7_even_39 rfl (lv_at hl 0 rfl) ?_
          refine w_get hx hb hg hown hK hI iX7 0 rfl rfl 0 (by decide) wF_RX7_12 rfl dX7_even_40 ?_
          obtain ⟨o3, ho3, hf⟩ := bd_e hf
          refine w_Vi (wc := (wN cI cJ cZ n0 n1 n2 n3 n4 n5 n6 N_postCount N_roadCount N_first N_second N_number_0 N_allowed N_at N_beside)) (wr := [(x0, .inr (7, [.ref n0, .ref q0, v_heapsOfNet, v_pickerOfNet, v_tallyOfNet])), (q0, .inr (5, [.int Q_side, .int Q_height, .ref q1, .ref q2, .ref q3])), (q1, .inl (cI, 81, .inl Q_cell)), (q2, .inl (cI, 9, .inl Q_taken)), (q3, .inl (cI, 512, .inl Q_ways))]) (rest := []) hx hb hml hg hown hK hA hI (kX3_leastClashing l D cI cJ cZ n0 n1 n2 n3 n4 n5 n6 N_postCount N_roadCount N_first N_second N_number_0 N_allowed N_at N_beside  o3 ho3) kvX3_leastClashing wL_RX7_79 ⟨Nat.le_of_ble_eq_true rfl, Nat.le_of_ble_eq_true rfl⟩ rfl rfl [1, 2, 3, 4, 5, 6, 7] [0, 8, 9, 10, 11] rfl rfl rfl rfl (by decide) rfl rfl hl.1 (Nat.le_of_ble_eq_true rfl) dX7_even_43 ⟨Nat.le_of_ble_eq_true rfl, Nat.le_of_ble_eq_true rfl⟩ (fun r u H locs hp hI => ?_)
          replace hp : r = o3 := hp
          rw [hp]
          clear hp
          replace hI : WI D A s.heap [(x0, .inr (7, [.ref n0, .ref q0, v_heapsOfNet, v_pickerOfNet, v_tallyOfNet])), (n0, .inr (3, [.int N_postCount, .int N_roadCount, .ref n1, .ref n2, .ref n3, .ref n4, .ref n5, .ref n6])), (n1, .inl (cI, 24, .inl N_first)), (n2, .inl (cI, 24, .inl N_second)), (n3, .inl (cI, 24, .inl N_number_0)), (n4, .inl (cI, 24, .inl N_allowed)), (n5, .inl (cI, 12, .inl N_at)), (n6, .inl (cI, 24, .inl N_beside)), (q0, .inr (5, [.int Q_side, .int Q_height, .ref q1, .ref q2, .ref q3])), (q1, .inl (cI, 81, .inl Q_cell)), (q2, .inl (cI, 9, .inl Q_taken)), (q3, .inl (cI, 512, .inl Q_ways))] H locs := hI.perm [0, 5, 6, 7, 8, 9, 10, 11, 1, 2, 3, 4] rfl rfl
          refine lv_iconst (v := -1) hx hb dX7_even_46 (by decide) ?_
          refine lv_icmp_eq (tgt := 53) hx hb dX7_even_47 (by decide) (fun hc => ?_) (fun hc => ?_)
          · replace hf := ite_t hc hf
            refine va_new (ci := 0) (fs := [.null, .int (0 : Int32), .null]) (C := RX0) (T := TX0) (N := 3) hx hb hg iX0 tyX0 tyX0_ok hown (hg _ wK_RX7_123) (hg _ wN_RX0) (hg _ wI_RX0) hK.1 hI.1 hI.2.1 hI.2.2 hA rfl (by intro j hj; match j, hj with | 0, _ => rfl | 1, _ => rfl | 2, _ => rfl | (j + 3), hj => exact absurd hj (by omega)) (Nat.le_of_ble_eq_true rfl) (Nat.le_of_ble_eq_true rfl) dX7_even_53 (fun b4 H hP hD hS => ?_)
            replace hI : WI D A s.heap [(x0, .inr (7, [.ref n0, .ref q0, v_heapsOfNet, v_pickerOfNet, v_tallyOfNet])), (n0, .inr (3, [.int N_postCount, .int N_roadCount, .ref n1, .ref n2, .ref n3, .ref n4, .ref n5, .ref n6])), (n1, .inl (cI, 24, .inl N_first)), (n2, .inl (cI, 24, .inl N_second)), (n3, .inl (cI, 24, .inl N_number_0)), (n4, .inl (cI, 24, .inl N_allowed)), (n5, .inl (cI, 12, .inl N_at)), (n6, .inl (cI, 24, .inl N_beside)), (q0, .inr (5, [.int Q_side, .int Q_height, .ref q1, .ref q2, .ref q3])), (q1, .inl (cI, 81, .inl Q_cell)), (q2, .inl (cI, 9, .inl Q_taken)), (q3, .inl (cI, 512, .inl Q_ways)), (b4, .inr (0, [.null, .int (0 : Int32), .null]))] H _ := ⟨hP, hD, hS⟩
            clear hP hD hS
            refine lv_dup hx hb dX7_even_56 rfl ?_
            refine lv_aload_n hx hb dX7_even_57 rfl (lv_at hl 0 rfl) ?_
            refine w_get hx hb hg hown hK hI iX7 0 rfl rfl 0 (by decide) wF_RX7_12 rfl dX7_even_58 ?_
            refine lv_iload_n hx hb dX7_even_61 rfl (lv_at hl 1 rfl) ?_
            refine w_I (wc := [(b4, .inr (0, [.null, .int (0 : Int32), .null]))]) (wr := [(x0, .inr (7, [.ref n0, .ref q0, v_heapsOfNet, v_pickerOfNet, v_tallyOfNet])), (n0, .inr (3, [.int N_postCount, .int N_roadCount, .ref n1, .ref n2, .ref n3, .ref n4, .ref n5, .ref n6])), (n1, .inl (cI, 24, .inl N_first)), (n2, .inl (cI, 24, .inl N_second)), (n3, .inl (cI, 24, .inl N_number_0)), (n4, .inl (cI, 24, .inl N_allowed)), (n5, .inl (cI, 12, .inl N_at)), (n6, .inl (cI, 24, .inl N_beside)), (q0, .inr (5, [.int Q_side, .int Q_height, .ref q1, .ref q2, .ref q3])), (q1, .inl (cI, 81, .inl Q_cell)), (q2, .inl (cI, 9, .inl Q_taken)), (q3, .inl (cI, 512, .inl Q_ways))]) (rest := [.ref b4]) hx hb hml hg hown hK hA hI (kIX0_init l D cI cJ cZ b4 n0 a1) kiX0_init wL_RX7_125 ⟨Nat.le_of_ble_eq_true rfl, Nat.le_of_ble_eq_true rfl⟩ [12] [0, 1, 2, 3, 4, 5, 6, 7, 8, 9, 10, 11] rfl rfl rfl rfl (by decide) rfl rfl hl.1 (Nat.le_of_ble_eq_true rfl) dX7_even_62 ⟨Nat.le_of_ble_eq_true rfl, Nat.le_of_ble_eq_true rfl⟩ (fun u H locs hp hI => ?_)
            obtain ⟨b5, rfl⟩ : ∃ b, b = u := ⟨u, rfl⟩
            replace hI : WI D A s.heap [(x0, .inr (7, [.ref n0, .ref q0, v_heapsOfNet, v_pickerOfNet, v_tallyOfNet])), (n0, .inr (3, [.int N_postCount, .int N_roadCount, .ref n1, .ref n2, .ref n3, .ref n4, .ref n5, .ref n6])), (n1, .inl (cI, 24, .inl N_first)), (n2, .inl (cI, 24, .inl N_second)), (n3, .inl (cI, 24, .inl N_number_0)), (n4, .inl (cI, 24, .inl N_allowed)), (n5, .inl (cI, 12, .inl N_at)), (n6, .inl (cI, 24, .inl N_beside)), (q0, .inr (5, [.int Q_side, .int Q_height, .ref q1, .ref q2, .ref q3])), (q1, .inl (cI, 81, .inl Q_cell)), (q2, .inl (cI, 9, .inl Q_taken)), (q3, .inl (cI, 512, .inl Q_ways)), (b4, .inr (0, [.ref n0, .int a1, .ref b5])), (b5, .inl (cI, 16, .inl (fun _ => 0)))] H locs := hI
            clear hp
            obtain ⟨o6, ho6, hf⟩ := bd_e hf
            refine w_Vi (wc := (wE cI cJ cZ b4 b5 n0 n1 n2 n3 n4 n5 n6 a1 (fun _ => 0) N_postCount N_roadCount N_first N_second N_number_0 N_allowed N_at N_beside)) (wr := [(x0, .inr (7, [.ref n0, .ref q0, v_heapsOfNet, v_pickerOfNet, v_tallyOfNet])), (q0, .inr (5, [.int Q_side, .int Q_height, .ref q1, .ref q2, .ref q3])), (q1, .inl (cI, 81, .inl Q_cell)), (q2, .inl (cI, 9, .inl Q_taken)), (q3, .inl (cI, 512, .inl Q_ways))]) (rest := []) hx hb hml hg hown hK hA hI (kX0_makeEven l D cI cJ cZ b4 b5 n0 n1 n2 n3 n4 n5 n6 a1 (fun _ => 0) N_postCount N_roadCount N_first N_second N_number_0 N_allowed N_at N_beside  o6 ho6) kvX0_makeEven wL_RX7_126 ⟨Nat.le_of_ble_eq_true rfl, Nat.le_of_ble_eq_true rfl⟩ rfl rfl [12, 13, 1, 2, 3, 4, 5, 6, 7] [0, 8, 9, 10, 11] rfl rfl rfl rfl (by decide) rfl rfl hl.1 (Nat.le_of_ble_eq_true rfl) dX7_even_65 ⟨Nat.le_of_ble_eq_true rfl, Nat.le_of_ble_eq_true rfl⟩ (fun r u H locs hp hI => ?_)
            replace hp : r = o6.1 := hp
            rw [hp]
            clear hp
            replace hI : WI D A s.heap [(x0, .inr (7, [.ref n0, .ref q0, v_heapsOfNet, v_pickerOfNet, v_tallyOfNet])), (n0, .inr (3, [.int N_postCount, .int N_roadCount, .ref n1, .ref n2, .ref n3, .ref n4, .ref n5, .ref n6])), (n1, .inl (cI, 24, .inl N_first)), (n2, .inl (cI, 24, .inl N_second)), (n3, .inl (cI, 24, .inl o6.2.2)), (n4, .inl (cI, 24, .inl N_allowed)), (n5, .inl (cI, 12, .inl N_at)), (n6, .inl (cI, 24, .inl N_beside)), (q0, .inr (5, [.int Q_side, .int Q_height, .ref q1, .ref q2, .ref q3])), (q1, .inl (cI, 81, .inl Q_cell)), (q2, .inl (cI, 9, .inl Q_taken)), (q3, .inl (cI, 512, .inl Q_ways)), (b4, .inr (0, [.ref n0, .int a1, .ref b5])), (b5, .inl (cI, 16, .inl o6.2.1))] H locs := hI.perm [0, 7, 8, 9, 10, 11, 12, 13, 1, 2, 3, 4, 5, 6] rfl rfl
            replace hf := Option.some.inj hf
            subst hf
            replace hM : (o6.1, o6.2.2) = out := hM
            subst hM
            refine W.widen (k := 2) (n := 19) (Nat.le_of_ble_eq_true rfl) (Nat.le_of_ble_eq_true rfl) ?_
            replace hI := hI.perm (w2 := [(x0, .inr (7, [.ref n0, .ref q0, v_heapsOfNet, v_pickerOfNet, v_tallyOfNet])), (n0, .inr (3, [.int N_postCount, .int N_roadCount, .ref n1, .ref n2, .ref n3, .ref n4, .ref n5, .ref n6])), (n1, .inl (cI, 24, .inl N_first)), (n2, .inl (cI, 24, .inl N_second)), (n3, .inl (cI, 24, .inl o6.2.2)), (n4, .inl (cI, 24, .inl N_allowed)), (n5, .inl (cI, 12, .inl N_at)), (n6, .inl (cI, 24, .inl N_beside)), (q0, .inr (5, [.int Q_side, .int Q_height, .ref q1, .ref q2, .ref q3])), (q1, .inl (cI, 81, .inl Q_cell)), (q2, .inl (cI, 9, .inl Q_taken)), (q3, .inl (cI, 512, .inl Q_ways))]) [0, 1, 2, 3, 4, 5, 6, 7, 8, 9, 10, 11] rfl rfl
            exact rt_i (u := ()) hx hb hr hlocks rfl hI hAe rfl dX7_even_68
          · replace hf := ite_f hc hf
            refine lv_bipush (v := -2) hx hb dX7_even_50 (by decide) ?_
            replace hf := Option.some.inj hf
            subst hf
            replace hM : ((-2 : Int32), N_number_0) = out := hM
            subst hM
            refine W.widen (k := 2) (n := 19) (Nat.le_of_ble_eq_true rfl) (Nat.le_of_ble_eq_true rfl) ?_
            replace hI := hI.perm (w2 := [(x0, .inr (7, [.ref n0, .ref q0, v_heapsOfNet, v_pickerOfNet, v_tallyOfNet])), (n0, .inr (3, [.int N_postCount, .int N_roadCount, .ref n1, .ref n2, .ref n3, .ref n4, .ref n5, .ref n6])), (n1, .inl (cI, 24, .inl N_first)), (n2, .inl (cI, 24, .inl N_second)), (n3, .inl (cI, 24, .inl N_number_0)), (n4, .inl (cI, 24, .inl N_allowed)), (n5, .inl (cI, 12, .inl N_at)), (n6, .inl (cI, 24, .inl N_beside)), (q0, .inr (5, [.int Q_side, .int Q_height, .ref q1, .ref q2, .ref q3])), (q1, .inl (cI, 81, .inl Q_cell)), (q2, .inl (cI, 9, .inl Q_taken)), (q3, .inl (cI, 512, .inl Q_ways))]) [0, 1, 2, 3, 4, 5, 6, 7, 8, 9, 10, 11] rfl rfl
            exact rt_i (u := ()) hx hb hr hlocks rfl hI hAe rfl dX7_even_52
