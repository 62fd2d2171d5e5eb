set_option maxHeartbeats 4000000 in
set_option maxRecDepth 100000 in
theorem lo_heap {p : Program} {e : Env} {s : State} {m : MethodId} {below : List Frame} {meth : Method} {c : Code} (l : Launch) {b L : Nat} {xs : Nat → Int32} (C0 : lw_At p s m meth c b L xs) (D : va_G) (cI cJ cZ : ClassId) (hK : KK D cI cJ cZ s) (ax am : Nat → Nat) {i : Int32} (hi1 : vp_in (i + 1) L) (hi2 : vp_in (i + 2) L) (hi3 : vp_in (i + 3) L) {cells slots : Nat} (hcl : cells + 4 ≤ 600000) (hsl : slots + 4200 ≤ 7302250) (hN : NextP p l e s m below meth c b D cI cJ cZ ax am i cells slots) {N : NS} {Q : QS} {M : MS} (C : CS) (hR : Rel N Q M) {H : Heap} {locs : List Loc} {ls : Array Slot} (hI : WI D (fun q : Nat => s.heap.size ≤ q) s.heap (WL cI cJ cZ ax am N Q M C) H locs) (hl : lv_has ls 4 [(0, .ref b), (1, .ref (ax 0)), (2, .ref (am 0)), (3, .int i)]) : W p l e room_1 s m #[Value.ref b] below meth c H locs cells slots (lw_Z below #[Value.ref b] s) (F0 m 646 ls []) := by
  obtain ⟨hx, hb, hr, hml, hown, hts, hX, hbl, hlocks, hgv⟩ := id C0
  have hA : ∀ q : Nat, s.heap.size ≤ q → (fun q : Nat => s.heap.size ≤ q) q := fun _ h => h
  have hbA : ¬ (fun q : Nat => s.heap.size ≤ q) b := Nat.not_le.mpr hbl
  have hg : ∀ w ∈ GW, w.before #[Value.ref b] s = true := fun w h => hts w (gw_tbl h)
  replace hown : s.vm.findClass RL = some m.cls := hown
  refine lv_aload_n hx hb dL_law_646 rfl (lv_at hl 1 rfl) ?_
  obtain ⟨oH, oP, oT⟩ := C
  cases oH with
  | none =>
    obtain ⟨ox, om, hox, hom, hrt, hR1⟩ := op_heap hR (fun _ => 0) 
    refine w_ViA (wc := (wX cI cJ cZ (ax 0) (ax 1) (ax 2) (ax 3) (ax 4) (ax 5) (ax 6) (ax 7) (ax 8) (ax 9) (ax 10) (ax 11) (.null) (vPk oP) (vT oT) N.1 N.2.1 N.2.2.1 N.2.2.2.1 N.2.2.2.2.1 N.2.2.2.2.2.1 N.2.2.2.2.2.2.1 N.2.2.2.2.2.2.2 Q.1 Q.2.1 Q.2.2.1 Q.2.2.2.1 Q.2.2.2.2)) (wr := ((wM cI cJ cZ (am 0) (am 1) (am 2) (am 3) (am 4) (am 5) (am 6) (am 7) (am 8) (am 9) (am 10) (am 11) (am 12) (am 13) M.1 M.2.1 M.2.2.1 M.2.2.2.1 M.2.2.2.2.1 M.2.2.2.2.2.1 M.2.2.2.2.2.2.1 M.2.2.2.2.2.2.2.1 M.2.2.2.2.2.2.2.2.1 M.2.2.2.2.2.2.2.2.2.1 M.2.2.2.2.2.2.2.2.2.2.1 M.2.2.2.2.2.2.2.2.2.2.2.1 M.2.2.2.2.2.2.2.2.2.2.2.2.1 M.2.2.2.2.2.2.2.2.2.2.2.2.2.1 M.2.2.2.2.2.2.2.2.2.2.2.2.2.2.1 M.2.2.2.2.2.2.2.2.2.2.2.2.2.2.2.1 M.2.2.2.2.2.2.2.2.2.2.2.2.2.2.2.2.1 M.2.2.2.2.2.2.2.2.2.2.2.2.2.2.2.2.2) ++ ([] ++ (eP cI cZ (ax 1) oP ++ eT cJ (ax 1) oT)))) (rest := []) hx hb hml hg hown hK hA hI (List.Perm.refl _) (kX7_heap_n l D cI cJ cZ (ax 0) (ax 1) (ax 2) (ax 3) (ax 4) (ax 5) (ax 6) (ax 7) (ax 8) (ax 9) (ax 10) (ax 11) (vPk oP) (vT oT) N.1 N.2.1 N.2.2.1 N.2.2.2.1 N.2.2.2.2.1 N.2.2.2.2.2.1 N.2.2.2.2.2.2.1 N.2.2.2.2.2.2.2 Q.1 Q.2.1 Q.2.2.1 Q.2.2.2.1 Q.2.2.2.2  ox hox) kvX7_heap wL_RL_102 ⟨Nat.le_of_ble_eq_true rfl, Nat.le_of_ble_eq_true rfl⟩ rfl rfl rfl rfl hl.1 (Nat.le_of_ble_eq_true rfl) dL_law_647 ⟨by show _ + 2 ≤ 600000; omega, by show _ + 4098 ≤ 7302250; omega⟩ (fun r u H locs hp hI => ?_)
    replace hp : r = ox.1 := hp
    rw [hp]
    clear hp r
    cases u with
    | none =>
      replace hI : WI D (fun q : Nat => s.heap.size ≤ q) s.heap (WL cI cJ cZ ax am (N.1, N.2.1, N.2.2.1, N.2.2.2.1, N.2.2.2.2.1, N.2.2.2.2.2.1, N.2.2.2.2.2.2.1, N.2.2.2.2.2.2.2) (Q.1, Q.2.1, Q.2.2.1, Q.2.2.2.1, Q.2.2.2.2) M (none, oP, oT)) H locs := hI
      refine lv_aload_n hx hb dL_law_650 rfl (lv_at hl 2 rfl) ?_
      obtain ⟨N1, eN1⟩ : ∃ z : NS, z = (N.1, N.2.1, N.2.2.1, N.2.2.2.1, N.2.2.2.2.1, N.2.2.2.2.2.1, N.2.2.2.2.2.2.1, N.2.2.2.2.2.2.2) := ⟨_, rfl⟩
      obtain ⟨Q1, eQ1⟩ : ∃ z : QS, z = (Q.1, Q.2.1, Q.2.2.1, Q.2.2.2.1, Q.2.2.2.2) := ⟨_, rfl⟩
      rw [← eN1, ← eQ1] at hI hR1
      refine w_ViA (wc := (wM cI cJ cZ (am 0) (am 1) (am 2) (am 3) (am 4) (am 5) (am 6) (am 7) (am 8) (am 9) (am 10) (am 11) (am 12) (am 13) M.1 M.2.1 M.2.2.1 M.2.2.2.1 M.2.2.2.2.1 M.2.2.2.2.2.1 M.2.2.2.2.2.2.1 M.2.2.2.2.2.2.2.1 M.2.2.2.2.2.2.2.2.1 M.2.2.2.2.2.2.2.2.2.1 M.2.2.2.2.2.2.2.2.2.2.1 M.2.2.2.2.2.2.2.2.2.2.2.1 M.2.2.2.2.2.2.2.2.2.2.2.2.1 M.2.2.2.2.2.2.2.2.2.2.2.2.2.1 M.2.2.2.2.2.2.2.2.2.2.2.2.2.2.1 M.2.2.2.2.2.2.2.2.2.2.2.2.2.2.2.1 M.2.2.2.2.2.2.2.2.2.2.2.2.2.2.2.2.1 M.2.2.2.2.2.2.2.2.2.2.2.2.2.2.2.2.2)) (wr := ((wX cI cJ cZ (ax 0) (ax 1) (ax 2) (ax 3) (ax 4) (ax 5) (ax 6) (ax 7) (ax 8) (ax 9) (ax 10) (ax 11) (vH none) (vPk oP) (vT oT) N1.1 N1.2.1 N1.2.2.1 N1.2.2.2.1 N1.2.2.2.2.1 N1.2.2.2.2.2.1 N1.2.2.2.2.2.2.1 N1.2.2.2.2.2.2.2 Q1.1 Q1.2.1 Q1.2.2.1 Q1.2.2.2.1 Q1.2.2.2.2) ++ (eH cI (ax 1) none ++ (eP cI cZ (ax 1) oP ++ eT cJ (ax 1) oT)))) (rest := [.int ox.1]) hx hb hml hg hown hK hA hI (pm_sw _ _ _) (kX8_heap l D cI cJ cZ (am 0) (am 1) (am 2) (am 3) (am 4) (am 5) (am 6) (am 7) (am 8) (am 9) (am 10) (am 11) (am 12) (am 13) M.1 M.2.1 M.2.2.1 M.2.2.2.1 M.2.2.2.2.1 M.2.2.2.2.2.1 M.2.2.2.2.2.2.1 M.2.2.2.2.2.2.2.1 M.2.2.2.2.2.2.2.2.1 M.2.2.2.2.2.2.2.2.2.1 M.2.2.2.2.2.2.2.2.2.2.1 M.2.2.2.2.2.2.2.2.2.2.2.1 M.2.2.2.2.2.2.2.2.2.2.2.2.1 M.2.2.2.2.2.2.2.2.2.2.2.2.2.1 M.2.2.2.2.2.2.2.2.2.2.2.2.2.2.1 M.2.2.2.2.2.2.2.2.2.2.2.2.2.2.2.1 M.2.2.2.2.2.2.2.2.2.2.2.2.2.2.2.2.1 M.2.2.2.2.2.2.2.2.2.2.2.2.2.2.2.2.2  om hom) kvX8_heap wL_RL_105 ⟨Nat.le_of_ble_eq_true rfl, Nat.le_of_ble_eq_true rfl⟩ rfl rfl rfl rfl hl.1 (Nat.le_of_ble_eq_true rfl) dL_law_651 ⟨by show cells + 2 + 0 ≤ 600000; omega, by show slots + 4098 + 0 ≤ 7302250; omega⟩ (fun r u H locs hp hI => ?_)
      replace hp : r = om := hp
      rw [hp]
      clear hp r
      replace hI := hI.ofPerm (pm_sw _ _ _)
      obtain ⟨M1, eM1⟩ : ∃ z : MS, z = (M.1, M.2.1, M.2.2.1, M.2.2.2.1, M.2.2.2.2.1, M.2.2.2.2.2.1, M.2.2.2.2.2.2.1, M.2.2.2.2.2.2.2.1, M.2.2.2.2.2.2.2.2.1, M.2.2.2.2.2.2.2.2.2.1, M.2.2.2.2.2.2.2.2.2.2.1, M.2.2.2.2.2.2.2.2.2.2.2.1, M.2.2.2.2.2.2.2.2.2.2.2.2.1, M.2.2.2.2.2.2.2.2.2.2.2.2.2.1, M.2.2.2.2.2.2.2.2.2.2.2.2.2.2.1, M.2.2.2.2.2.2.2.2.2.2.2.2.2.2.2.1, M.2.2.2.2.2.2.2.2.2.2.2.2.2.2.2.2.1, M.2.2.2.2.2.2.2.2.2.2.2.2.2.2.2.2.2) := ⟨_, rfl⟩
      rw [← eM1] at hR1
      replace hI : WI D (fun q : Nat => s.heap.size ≤ q) s.heap (WL cI cJ cZ ax am N1 Q1 M1 (none, oP, oT)) H locs := by rw [eM1]; exact hI
      refine lv_icmp_eq (tgt := 876) hx hb dL_law_654 (by decide) (fun hc => ?_) (fun hc => ?_)
      · exact hN N1 Q1 M1 _ H locs ls _ _ hR1 hI hl (by show cells + 2 + 0 ≤ cells + 4; omega) (by show slots + 4098 + 0 ≤ slots + 4200; omega)
      · exact absurd hrt hc
    | some q =>
      replace hI : WI D (fun q : Nat => s.heap.size ≤ q) s.heap (((wX cI cJ cZ (ax 0) (ax 1) (ax 2) (ax 3) (ax 4) (ax 5) (ax 6) (ax 7) (ax 8) (ax 9) (ax 10) (ax 11) (vH (some (q.1, q.2, ox.2))) (vPk oP) (vT oT) N.1 N.2.1 N.2.2.1 N.2.2.2.1 N.2.2.2.2.1 N.2.2.2.2.2.1 N.2.2.2.2.2.2.1 N.2.2.2.2.2.2.2 Q.1 Q.2.1 Q.2.2.1 Q.2.2.2.1 Q.2.2.2.2) ++ eH cI (ax 1) (some (q.1, q.2, ox.2))) ++ ((wM cI cJ cZ (am 0) (am 1) (am 2) (am 3) (am 4) (am 5) (am 6) (am 7) (am 8) (am 9) (am 10) (am 11) (am 12) (am 13) M.1 M.2.1 M.2.2.1 M.2.2.2.1 M.2.2.2.2.1 M.2.2.2.2.2.1 M.2.2.2.2.2.2.1 M.2.2.2.2.2.2.2.1 M.2.2.2.2.2.2.2.2.1 M.2.2.2.2.2.2.2.2.2.1 M.2.2.2.2.2.2.2.2.2.2.1 M.2.2.2.2.2.2.2.2.2.2.2.1 M.2.2.2.2.2.2.2.2.2.2.2.2.1 M.2.2.2.2.2.2.2.2.2.2.2.2.2.1 M.2.2.2.2.2.2.2.2.2.2.2.2.2.2.1 M.2.2.2.2.2.2.2.2.2.2.2.2.2.2.2.1 M.2.2.2.2.2.2.2.2.2.2.2.2.2.2.2.2.1 M.2.2.2.2.2.2.2.2.2.2.2.2.2.2.2.2.2) ++ (eP cI cZ (ax 1) oP ++ eT cJ (ax 1) oT))) H locs := hI
      replace hI : WI D (fun q : Nat => s.heap.size ≤ q) s.heap (WL cI cJ cZ ax am (N.1, N.2.1, N.2.2.1, N.2.2.2.1, N.2.2.2.2.1, N.2.2.2.2.2.1, N.2.2.2.2.2.2.1, N.2.2.2.2.2.2.2) (Q.1, Q.2.1, Q.2.2.1, Q.2.2.2.1, Q.2.2.2.2) M ((some (q.1, q.2, ox.2)), oP, oT)) H locs := hI.ofPerm (pm_1 (wX cI cJ cZ (ax 0) (ax 1) (ax 2) (ax 3) (ax 4) (ax 5) (ax 6) (ax 7) (ax 8) (ax 9) (ax 10) (ax 11) (vH (some (q.1, q.2, ox.2))) (vPk oP) (vT oT) N.1 N.2.1 N.2.2.1 N.2.2.2.1 N.2.2.2.2.1 N.2.2.2.2.2.1 N.2.2.2.2.2.2.1 N.2.2.2.2.2.2.2 Q.1 Q.2.1 Q.2.2.1 Q.2.2.2.1 Q.2.2.2.2) (wM cI cJ cZ (am 0) (am 1) (am 2) (am 3) (am 4) (am 5) (am 6) (am 7) (am 8) (am 9) (am 10) (am 11) (am 12) (am 13) M.1 M.2.1 M.2.2.1 M.2.2.2.1 M.2.2.2.2.1 M.2.2.2.2.2.1 M.2.2.2.2.2.2.1 M.2.2.2.2.2.2.2.1 M.2.2.2.2.2.2.2.2.1 M.2.2.2.2.2.2.2.2.2.1 M.2.2.2.2.2.2.2.2.2.2.1 M.2.2.2.2.2.2.2.2.2.2.2.1 M.2.2.2.2.2.2.2.2.2.2.2.2.1 M.2.2.2.2.2.2.2.2.2.2.2.2.2.1 M.2.2.2.2.2.2.2.2.2.2.2.2.2.2.1 M.2.2.2.2.2.2.2.2.2.2.2.2.2.2.2.1 M.2.2.2.2.2.2.2.2.2.2.2.2.2.2.2.2.1 M.2.2.2.2.2.2.2.2.2.2.2.2.2.2.2.2.2) (eH cI (ax 1) (some (q.1, q.2, ox.2))) (eP cI cZ (ax 1) oP ++ eT cJ (ax 1) oT)).symm
      refine lv_aload_n hx hb dL_law_650 rfl (lv_at hl 2 rfl) ?_
      obtain ⟨N1, eN1⟩ : ∃ z : NS, z = (N.1, N.2.1, N.2.2.1, N.2.2.2.1, N.2.2.2.2.1, N.2.2.2.2.2.1, N.2.2.2.2.2.2.1, N.2.2.2.2.2.2.2) := ⟨_, rfl⟩
      obtain ⟨Q1, eQ1⟩ : ∃ z : QS, z = (Q.1, Q.2.1, Q.2.2.1, Q.2.2.2.1, Q.2.2.2.2) := ⟨_, rfl⟩
      rw [← eN1, ← eQ1] at hI hR1
      refine w_ViA (wc := (wM cI cJ cZ (am 0) (am 1) (am 2) (am 3) (am 4) (am 5) (am 6) (am 7) (am 8) (am 9) (am 10) (am 11) (am 12) (am 13) M.1 M.2.1 M.2.2.1 M.2.2.2.1 M.2.2.2.2.1 M.2.2.2.2.2.1 M.2.2.2.2.2.2.1 M.2.2.2.2.2.2.2.1 M.2.2.2.2.2.2.2.2.1 M.2.2.2.2.2.2.2.2.2.1 M.2.2.2.2.2.2.2.2.2.2.1 M.2.2.2.2.2.2.2.2.2.2.2.1 M.2.2.2.2.2.2.2.2.2.2.2.2.1 M.2.2.2.2.2.2.2.2.2.2.2.2.2.1 M.2.2.2.2.2.2.2.2.2.2.2.2.2.2.1 M.2.2.2.2.2.2.2.2.2.2.2.2.2.2.2.1 M.2.2.2.2.2.2.2.2.2.2.2.2.2.2.2.2.1 M.2.2.2.2.2.2.2.2.2.2.2.2.2.2.2.2.2)) (wr := ((wX cI cJ cZ (ax 0) (ax 1) (ax 2) (ax 3) (ax 4) (ax 5) (ax 6) (ax 7) (ax 8) (ax 9) (ax 10) (ax 11) (vH (some (q.1, q.2, ox.2))) (vPk oP) (vT oT) N1.1 N1.2.1 N1.2.2.1 N1.2.2.2.1 N1.2.2.2.2.1 N1.2.2.2.2.2.1 N1.2.2.2.2.2.2.1 N1.2.2.2.2.2.2.2 Q1.1 Q1.2.1 Q1.2.2.1 Q1.2.2.2.1 Q1.2.2.2.2) ++ (eH cI (ax 1) (some (q.1, q.2, ox.2)) ++ (eP cI cZ (ax 1) oP ++ eT cJ (ax 1) oT)))) (rest := [.int ox.1]) hx hb hml hg hown hK hA hI (pm_sw _ _ _) (kX8_heap l D cI cJ cZ (am 0) (am 1) (am 2) (am 3) (am 4) (am 5) (am 6) (am 7) (am 8) (am 9) (am 10) (am 11) (am 12) (am 13) M.1 M.2.1 M.2.2.1 M.2.2.2.1 M.2.2.2.2.1 M.2.2.2.2.2.1 M.2.2.2.2.2.2.1 M.2.2.2.2.2.2.2.1 M.2.2.2.2.2.2.2.2.1 M.2.2.2.2.2.2.2.2.2.1 M.2.2.2.2.2.2.2.2.2.2.1 M.2.2.2.2.2.2.2.2.2.2.2.1 M.2.2.2.2.2.2.2.2.2.2.2.2.1 M.2.2.2.2.2.2.2.2.2.2.2.2.2.1 M.2.2.2.2.2.2.2.2.2.2.2.2.2.2.1 M.2.2.2.2.2.2.2.2.2.2.2.2.2.2.2.1 M.2.2.2.2.2.2.2.2.2.2.2.2.2.2.2.2.1 M.2.2.2.2.2.2.2.2.2.2.2.2.2.2.2.2.2  om hom) kvX8_heap wL_RL_105 ⟨Nat.le_of_ble_eq_true rfl, Nat.le_of_ble_eq_true rfl⟩ rfl rfl rfl rfl hl.1 (Nat.le_of_ble_eq_true rfl) dL_law_651 ⟨by show cells + 2 + 0 ≤ 600000; omega, by show slots + 4098 + 0 ≤ 7302250; omega⟩ (fun r u H locs hp hI => ?_)
      replace hp : r = om := hp
      rw [hp]
      clear hp r
      replace hI := hI.ofPerm (pm_sw _ _ _)
      obtain ⟨M1, eM1⟩ : ∃ z : MS, z = (M.1, M.2.1, M.2.2.1, M.2.2.2.1, M.2.2.2.2.1, M.2.2.2.2.2.1, M.2.2.2.2.2.2.1, M.2.2.2.2.2.2.2.1, M.2.2.2.2.2.2.2.2.1, M.2.2.2.2.2.2.2.2.2.1, M.2.2.2.2.2.2.2.2.2.2.1, M.2.2.2.2.2.2.2.2.2.2.2.1, M.2.2.2.2.2.2.2.2.2.2.2.2.1, M.2.2.2.2.2.2.2.2.2.2.2.2.2.1, M.2.2.2.2.2.2.2.2.2.2.2.2.2.2.1, M.2.2.2.2.2.2.2.2.2.2.2.2.2.2.2.1, M.2.2.2.2.2.2.2.2.2.2.2.2.2.2.2.2.1, M.2.2.2.2.2.2.2.2.2.2.2.2.2.2.2.2.2) := ⟨_, rfl⟩
      rw [← eM1] at hR1
      replace hI : WI D (fun q : Nat => s.heap.size ≤ q) s.heap (WL cI cJ cZ ax am N1 Q1 M1 ((some (q.1, q.2, ox.2)), oP, oT)) H locs := by rw [eM1]; exact hI
      refine lv_icmp_eq (tgt := 876) hx hb dL_law_654 (by decide) (fun hc => ?_) (fun hc => ?_)
      · exact hN N1 Q1 M1 _ H locs ls _ _ hR1 hI hl (by show cells + 2 + 0 ≤ cells + 4; omega) (by show slots + 4098 + 0 ≤ slots + 4200; omega)
      · exact absurd hrt hc
  | some q =>
    obtain ⟨ox, om, hox, hom, hrt, hR1⟩ := op_heap hR q.2.2 
    refine w_ViA (wc := ((wX cI cJ cZ (ax 0) (ax 1) (ax 2) (ax 3) (ax 4) (ax 5) (ax 6) (ax 7) (ax 8) (ax 9) (ax 10) (ax 11) (vH (some q)) (vPk oP) (vT oT) N.1 N.2.1 N.2.2.1 N.2.2.2.1 N.2.2.2.2.1 N.2.2.2.2.2.1 N.2.2.2.2.2.2.1 N.2.2.2.2.2.2.2 Q.1 Q.2.1 Q.2.2.1 Q.2.2.2.1 Q.2.2.2.2) ++ eH cI (ax 1) (some q))) (wr := ((wM cI cJ cZ (am 0) (am 1) (am 2) (am 3) (am 4) (am 5) (am 6) (am 7) (am 8) (am 9) (am 10) (am 11) (am 12) (am 13) M.1 M.2.1 M.2.2.1 M.2.2.2.1 M.2.2.2.2.1 M.2.2.2.2.2.1 M.2.2.2.2.2.2.1 M.2.2.2.2.2.2.2.1 M.2.2.2.2.2.2.2.2.1 M.2.2.2.2.2.2.2.2.2.1 M.2.2.2.2.2.2.2.2.2.2.1 M.2.2.2.2.2.2.2.2.2.2.2.1 M.2.2.2.2.2.2.2.2.2.2.2.2.1 M.2.2.2.2.2.2.2.2.2.2.2.2.2.1 M.2.2.2.2.2.2.2.2.2.2.2.2.2.2.1 M.2.2.2.2.2.2.2.2.2.2.2.2.2.2.2.1 M.2.2.2.2.2.2.2.2.2.2.2.2.2.2.2.2.1 M.2.2.2.2.2.2.2.2.2.2.2.2.2.2.2.2.2) ++ (eP cI cZ (ax 1) oP ++ eT cJ (ax 1) oT))) (rest := []) hx hb hml hg hown hK hA hI (pm_1 _ _ _ _) (kX7_heap_s l D cI cJ cZ (ax 0) (ax 1) (ax 2) (ax 3) (ax 4) (ax 5) (ax 6) (ax 7) (ax 8) (ax 9) (ax 10) (ax 11) q.1 q.2.1 (vPk oP) (vT oT) N.1 N.2.1 N.2.2.1 N.2.2.2.1 N.2.2.2.2.1 N.2.2.2.2.2.1 N.2.2.2.2.2.2.1 N.2.2.2.2.2.2.2 Q.1 Q.2.1 Q.2.2.1 Q.2.2.2.1 Q.2.2.2.2 q.2.2  ox hox) kvX7_heap wL_RL_102 ⟨Nat.le_of_ble_eq_true rfl, Nat.le_of_ble_eq_true rfl⟩ rfl rfl rfl rfl hl.1 (Nat.le_of_ble_eq_true rfl) dL_law_647 ⟨by show _ + 0 ≤ 600000; omega, by show _ + 0 ≤ 7302250; omega⟩ (fun r u H locs hp hI => ?_)
    replace hp : r = ox.1 := hp
    rw [hp]
    clear hp r
    replace hI : WI D (fun q : Nat => s.heap.size ≤ q) s.heap (((wX cI cJ cZ (ax 0) (ax 1) (ax 2) (ax 3) (ax 4) (ax 5) (ax 6) (ax 7) (ax 8) (ax 9) (ax 10) (ax 11) (vH (some (q.1, q.2.1, ox.2))) (vPk oP) (vT oT) N.1 N.2.1 N.2.2.1 N.2.2.2.1 N.2.2.2.2.1 N.2.2.2.2.2.1 N.2.2.2.2.2.2.1 N.2.2.2.2.2.2.2 Q.1 Q.2.1 Q.2.2.1 Q.2.2.2.1 Q.2.2.2.2) ++ eH cI (ax 1) (some (q.1, q.2.1, ox.2))) ++ ((wM cI cJ cZ (am 0) (am 1) (am 2) (am 3) (am 4) (am 5) (am 6) (am 7) (am 8) (am 9) (am 10) (am 11) (am 12) (am 13) M.1 M.2.1 M.2.2.1 M.2.2.2.1 M.2.2.2.2.1 M.2.2.2.2.2.1 M.2.2.2.2.2.2.1 M.2.2.2.2.2.2.2.1 M.2.2.2.2.2.2.2.2.1 M.2.2.2.2.2.2.2.2.2.1 M.2.2.2.2.2.2.2.2.2.2.1 M.2.2.2.2.2.2.2.2.2.2.2.1 M.2.2.2.2.2.2.2.2.2.2.2.2.1 M.2.2.2.2.2.2.2.2.2.2.2.2.2.1 M.2.2.2.2.2.2.2.2.2.2.2.2.2.2.1 M.2.2.2.2.2.2.2.2.2.2.2.2.2.2.2.1 M.2.2.2.2.2.2.2.2.2.2.2.2.2.2.2.2.1 M.2.2.2.2.2.2.2.2.2.2.2.2.2.2.2.2.2) ++ (eP cI cZ (ax 1) oP ++ eT cJ (ax 1) oT))) H locs := hI
    replace hI : WI D (fun q : Nat => s.heap.size ≤ q) s.heap (WL cI cJ cZ ax am (N.1, N.2.1, N.2.2.1, N.2.2.2.1, N.2.2.2.2.1, N.2.2.2.2.2.1, N.2.2.2.2.2.2.1, N.2.2.2.2.2.2.2) (Q.1, Q.2.1, Q.2.2.1, Q.2.2.2.1, Q.2.2.2.2) M ((some (q.1, q.2.1, ox.2)), oP, oT)) H locs := hI.ofPerm (pm_1 (wX cI cJ cZ (ax 0) (ax 1) (ax 2) (ax 3) (ax 4) (ax 5) (ax 6) (ax 7) (ax 8) (ax 9) (ax 10) (ax 11) (vH (some (q.1, q.2.1, ox.2))) (vPk oP) (vT oT) N.1 N.2.1 N.2.2.1 N.2.2.2.1 N.2.2.2.2.1 N.2.2.2.2.2.1 N.2.2.2.2.2.2.1 N.2.2.2.2.2.2.2 Q.1 Q.2.1 Q.2.2.1 Q.2.2.2.1 Q.2.2.2.2) (wM cI cJ cZ (am 0) (am 1) (am 2) (am 3) (am 4) (am 5) (am 6) (am 7) (am 8) (am 9) (am 10) (am 11) (am 12) (am 13) M.1 M.2.1 M.2.2.1 M.2.2.2.1 M.2.2.2.2.1 M.2.2.2.2.2.1 M.2.2.2.2.2.2.1 M.2.2.2.2.2.2.2.1 M.2.2.2.2.2.2.2.2.1 M.2.2.2.2.2.2.2.2.2.1 M.2.2.2.2.2.2.2.2.2.2.1 M.2.2.2.2.2.2.2.2.2.2.2.1 M.2.2.2.2.2.2.2.2.2.2.2.2.1 M.2.2.2.2.2.2.2.2.2.2.2.2.2.1 M.2.2.2.2.2.2.2.2.2.2.2.2.2.2.1 M.2.2.2.2.2.2.2.2.2.2.2.2.2.2.2.1 M.2.2.2.2.2.2.2.2.2.2.2.2.2.2.2.2.1 M.2.2.2.2.2.2.2.2.2.2.2.2.2.2.2.2.2) (eH cI (ax 1) (some (q.1, q.2.1, ox.2))) (eP cI cZ (ax 1) oP ++ eT cJ (ax 1) oT)).symm
    refine lv_aload_n hx hb dL_law_650 rfl (lv_at hl 2 rfl) ?_
    obtain ⟨N1, eN1⟩ : ∃ z : NS, z = (N.1, N.2.1, N.2.2.1, N.2.2.2.1, N.2.2.2.2.1, N.2.2.2.2.2.1, N.2.2.2.2.2.2.1, N.2.2.2.2.2.2.2) := ⟨_, rfl⟩
    obtain ⟨Q1, eQ1⟩ : ∃ z : QS, z = (Q.1, Q.2.1, Q.2.2.1, Q.2.2.2.1, Q.2.2.2.2) := ⟨_, rfl⟩
    rw [← eN1, ← eQ1] at hI hR1
    refine w_ViA (wc := (wM cI cJ cZ (am 0) (am 1) (am 2) (am 3) (am 4) (am 5) (am 6) (am 7) (am 8) (am 9) (am 10) (am 11) (am 12) (am 13) M.1 M.2.1 M.2.2.1 M.2.2.2.1 M.2.2.2.2.1 M.2.2.2.2.2.1 M.2.2.2.2.2.2.1 M.2.2.2.2.2.2.2.1 M.2.2.2.2.2.2.2.2.1 M.2.2.2.2.2.2.2.2.2.1 M.2.2.2.2.2.2.2.2.2.2.1 M.2.2.2.2.2.2.2.2.2.2.2.1 M.2.2.2.2.2.2.2.2.2.2.2.2.1 M.2.2.2.2.2.2.2.2.2.2.2.2.2.1 M.2.2.2.2.2.2.2.2.2.2.2.2.2.2.1 M.2.2.2.2.2.2.2.2.2.2.2.2.2.2.2.1 M.2.2.2.2.2.2.2.2.2.2.2.2.2.2.2.2.1 M.2.2.2.2.2.2.2.2.2.2.2.2.2.2.2.2.2)) (wr := ((wX cI cJ cZ (ax 0) (ax 1) (ax 2) (ax 3) (ax 4) (ax 5) (ax 6) (ax 7) (ax 8) (ax 9) (ax 10) (ax 11) (vH (some (q.1, q.2.1, ox.2))) (vPk oP) (vT oT) N1.1 N1.2.1 N1.2.2.1 N1.2.2.2.1 N1.2.2.2.2.1 N1.2.2.2.2.2.1 N1.2.2.2.2.2.2.1 N1.2.2.2.2.2.2.2 Q1.1 Q1.2.1 Q1.2.2.1 Q1.2.2.2.1 Q1.2.2.2.2) ++ (eH cI (ax 1) (some (q.1, q.2.1, ox.2)) ++ (eP cI cZ (ax 1) oP ++ eT cJ (ax 1) oT)))) (rest := [.int ox.1]) hx hb hml hg hown hK hA hI (pm_sw _ _ _) (kX8_heap l D cI cJ cZ (am 0) (am 1) (am 2) (am 3) (am 4) (am 5) (am 6) (am 7) (am 8) (am 9) (am 10) (am 11) (am 12) (am 13) M.1 M.2.1 M.2.2.1 M.2.2.2.1 M.2.2.2.2.1 M.2.2.2.2.2.1 M.2.2.2.2.2.2.1 M.2.2.2.2.2.2.2.1 M.2.2.2.2.2.2.2.2.1 M.2.2.2.2.2.2.2.2.2.1 M.2.2.2.2.2.2.2.2.2.2.1 M.2.2.2.2.2.2.2.2.2.2.2.1 M.2.2.2.2.2.2.2.2.2.2.2.2.1 M.2.2.2.2.2.2.2.2.2.2.2.2.2.1 M.2.2.2.2.2.2.2.2.2.2.2.2.2.2.1 M.2.2.2.2.2.2.2.2.2.2.2.2.2.2.2.1 M.2.2.2.2.2.2.2.2.2.2.2.2.2.2.2.2.1 M.2.2.2.2.2.2.2.2.2.2.2.2.2.2.2.2.2  om hom) kvX8_heap wL_RL_105 ⟨Nat.le_of_ble_eq_true rfl, Nat.le_of_ble_eq_true rfl⟩ rfl rfl rfl rfl hl.1 (Nat.le_of_ble_eq_true rfl) dL_law_651 ⟨by show cells + 0 + 0 ≤ 600000; omega, by show slots + 0 + 0 ≤ 7302250; omega⟩ (fun r u H locs hp hI => ?_)
    replace hp : r = om := hp
    rw [hp]
    clear hp r
    replace hI := hI.ofPerm (pm_sw _ _ _)
    obtain ⟨M1, eM1⟩ : ∃ z : MS, z = (M.1, M.2.1, M.2.2.1, M.2.2.2.1, M.2.2.2.2.1, M.2.2.2.2.2.1, M.2.2.2.2.2.2.1, M.2.2.2.2.2.2.2.1, M.2.2.2.2.2.2.2.2.1, M.2.2.2.2.2.2.2.2.2.1, M.2.2.2.2.2.2.2.2.2.2.1, M.2.2.2.2.2.2.2.2.2.2.2.1, M.2.2.2.2.2.2.2.2.2.2.2.2.1, M.2.2.2.2.2.2.2.2.2.2.2.2.2.1, M.2.2.2.2.2.2.2.2.2.2.2.2.2.2.1, M.2.2.2.2.2.2.2.2.2.2.2.2.2.2.2.1, M.2.2.2.2.2.2.2.2.2.2.2.2.2.2.2.2.1, M.2.2.2.2.2.2.2.2.2.2.2.2.2.2.2.2.2) := ⟨_, rfl⟩
    rw [← eM1] at hR1
    replace hI : WI D (fun q : Nat => s.heap.size ≤ q) s.heap (WL cI cJ cZ ax am N1 Q1 M1 ((some (q.1, q.2.1, ox.2)), oP, oT)) H locs := by rw [eM1]; exact hI
    refine lv_icmp_eq (tgt := 876) hx hb dL_law_654 (by decide) (fun hc => ?_) (fun hc => ?_)
    · exact hN N1 Q1 M1 _ H locs ls _ _ hR1 hI hl (by show cells + 0 + 0 ≤ cells + 4; omega) (by show slots + 0 + 0 ≤ slots + 4200; omega)
    · exact absurd hrt hc
set_option maxHeartbeats 4000000 in
set_option maxRecDepth 100000 in
theorem lo_list {p : Program} {e : Env} {s : State} {m : MethodId} {below : List Frame} {meth : Method} {c : Code} (l : Launch) {b L : Nat} {xs : Nat → Int32} (C0 : lw_At p s m meth c b L xs) (D : va_G) (cI cJ cZ : ClassId) (hK : KK D cI cJ cZ s) (ax am : Nat → Nat) {i : Int32} (hi1 : vp_in (i + 1) L) (hi2 : vp_in (i + 2) L) (hi3 : vp_in (i + 3) L) {cells slots : Nat} (hcl : cells + 4 ≤ 600000) (hsl : slots + 4200 ≤ 7302250) (hN : NextP p l e s m below meth c b D cI cJ cZ ax am i cells slots) {N : NS} {Q : QS} {M : MS} (C : CS) (hR : Rel N Q M) {H : Heap} {locs : List Loc} {ls : Array Slot} (hI : WI D (fun q : Nat => s.heap.size ≤ q) s.heap (WL cI cJ cZ ax am N Q M C) H locs) (hl : lv_has ls 4 [(0, .ref b), (1, .ref (ax 0)), (2, .ref (am 0)), (3, .int i)]) : W p l e room_1 s m #[Value.ref b] below meth c H locs cells slots (lw_Z below #[Value.ref b] s) (F0 m 659 ls []) := by
  obtain ⟨hx, hb, hr, hml, hown, hts, hX, hbl, hlocks, hgv⟩ := id C0
  have hA : ∀ q : Nat, s.heap.size ≤ q → (fun q : Nat => s.heap.size ≤ q) q := fun _ h => h
  have hbA : ¬ (fun q : Nat => s.heap.size ≤ q) b := Nat.not_le.mpr hbl
  have hg : ∀ w ∈ GW, w.before #[Value.ref b] s = true := fun w h => hts w (gw_tbl h)
  replace hown : s.vm.findClass RL = some m.cls := hown
  refine lv_aload_n hx hb dL_law_659 rfl (lv_at hl 1 rfl) ?_
  refine lv_aload_n hx hb dL_law_660 rfl (lv_at hl 0 rfl) ?_
  refine lv_iload_n hx hb dL_law_661 rfl (lv_at hl 3 rfl) ?_
  refine lv_iconst (v := 1) hx hb dL_law_662 (by decide) ?_
  refine lv_iadd hx hb dL_law_663 ?_
  refine va_sld hx hb hX hbl hbA hI.2.2 hi1 dL_law_664 ?_
  refine lv_aload_n hx hb dL_law_665 rfl (lv_at hl 0 rfl) ?_
  refine lv_iload_n hx hb dL_law_666 rfl (lv_at hl 3 rfl) ?_
  refine lv_iconst (v := 2) hx hb dL_law_667 (by decide) ?_
  refine lv_iadd hx hb dL_law_668 ?_
  refine va_sld hx hb hX hbl hbA hI.2.2 hi2 dL_law_669 ?_
  obtain ⟨ox, om, hox, hom, hrt, hR1⟩ := op_list hR (xs (i + 1).toNatClampNeg) (xs (i + 2).toNatClampNeg)
  refine w_ViA (wc := (wX cI cJ cZ (ax 0) (ax 1) (ax 2) (ax 3) (ax 4) (ax 5) (ax 6) (ax 7) (ax 8) (ax 9) (ax 10) (ax 11) (vH C.1) (vPk C.2.1) (vT C.2.2) N.1 N.2.1 N.2.2.1 N.2.2.2.1 N.2.2.2.2.1 N.2.2.2.2.2.1 N.2.2.2.2.2.2.1 N.2.2.2.2.2.2.2 Q.1 Q.2.1 Q.2.2.1 Q.2.2.2.1 Q.2.2.2.2)) (wr := ((wM cI cJ cZ (am 0) (am 1) (am 2) (am 3) (am 4) (am 5) (am 6) (am 7) (am 8) (am 9) (am 10) (am 11) (am 12) (am 13) M.1 M.2.1 M.2.2.1 M.2.2.2.1 M.2.2.2.2.1 M.2.2.2.2.2.1 M.2.2.2.2.2.2.1 M.2.2.2.2.2.2.2.1 M.2.2.2.2.2.2.2.2.1 M.2.2.2.2.2.2.2.2.2.1 M.2.2.2.2.2.2.2.2.2.2.1 M.2.2.2.2.2.2.2.2.2.2.2.1 M.2.2.2.2.2.2.2.2.2.2.2.2.1 M.2.2.2.2.2.2.2.2.2.2.2.2.2.1 M.2.2.2.2.2.2.2.2.2.2.2.2.2.2.1 M.2.2.2.2.2.2.2.2.2.2.2.2.2.2.2.1 M.2.2.2.2.2.2.2.2.2.2.2.2.2.2.2.2.1 M.2.2.2.2.2.2.2.2.2.2.2.2.2.2.2.2.2) ++ (eH cI (ax 1) C.1 ++ (eP cI cZ (ax 1) C.2.1 ++ eT cJ (ax 1) C.2.2)))) (rest := []) hx hb hml hg hown hK hA hI (List.Perm.refl _) (kX7_list l D cI cJ cZ (ax 0) (ax 1) (ax 2) (ax 3) (ax 4) (ax 5) (ax 6) (ax 7) (ax 8) (ax 9) (ax 10) (ax 11) (vH C.1) (vPk C.2.1) (vT C.2.2) N.1 N.2.1 N.2.2.1 N.2.2.2.1 N.2.2.2.2.1 N.2.2.2.2.2.1 N.2.2.2.2.2.2.1 N.2.2.2.2.2.2.2 Q.1 Q.2.1 Q.2.2.1 Q.2.2.2.1 Q.2.2.2.2 (xs (i + 1).toNatClampNeg) (xs (i + 2).toNatClampNeg) ox hox) kvX7_list wL_RL_106 ⟨Nat.le_of_ble_eq_true rfl, Nat.le_of_ble_eq_true rfl⟩ rfl rfl rfl rfl hl.1 (Nat.le_of_ble_eq_true rfl) dL_law_670 ⟨by show _ + 0 ≤ 600000; omega, by show _ + 0 ≤ 7302250; omega⟩ (fun r u H locs hp hI => ?_)
  replace hp : r = ox.1 := hp
  rw [hp]
  clear hp r
  replace hI : WI D (fun q : Nat => s.heap.size ≤ q) s.heap (WL cI cJ cZ ax am (N.1, N.2.1, N.2.2.1, N.2.2.2.1, N.2.2.2.2.1, ox.2, N.2.2.2.2.2.2.1, N.2.2.2.2.2.2.2) (Q.1, Q.2.1, Q.2.2.1, Q.2.2.2.1, Q.2.2.2.2) M (C.1, C.2.1, C.2.2)) H locs := hI
  refine lv_aload_n hx hb dL_law_673 rfl (lv_at hl 2 rfl) ?_
  refine lv_aload_n hx hb dL_law_674 rfl (lv_at hl 0 rfl) ?_
  refine lv_iload_n hx hb dL_law_675 rfl (lv_at hl 3 rfl) ?_
  refine lv_iconst (v := 1) hx hb dL_law_676 (by decide) ?_
  refine lv_iadd hx hb dL_law_677 ?_
  refine va_sld hx hb hX hbl hbA hI.2.2 hi1 dL_law_678 ?_
  refine lv_aload_n hx hb dL_law_679 rfl (lv_at hl 0 rfl) ?_
  refine lv_iload_n hx hb dL_law_680 rfl (lv_at hl 3 rfl) ?_
  refine lv_iconst (v := 2) hx hb dL_law_681 (by decide) ?_
  refine lv_iadd hx hb dL_law_682 ?_
  refine va_sld hx hb hX hbl hbA hI.2.2 hi2 dL_law_683 ?_
  obtain ⟨N1, eN1⟩ : ∃ z : NS, z = (N.1, N.2.1, N.2.2.1, N.2.2.2.1, N.2.2.2.2.1, ox.2, N.2.2.2.2.2.2.1, N.2.2.2.2.2.2.2) := ⟨_, rfl⟩
  obtain ⟨Q1, eQ1⟩ : ∃ z : QS, z = (Q.1, Q.2.1, Q.2.2.1, Q.2.2.2.1, Q.2.2.2.2) := ⟨_, rfl⟩
  rw [← eN1, ← eQ1] at hI hR1
  refine w_ViA (wc := (wM cI cJ cZ (am 0) (am 1) (am 2) (am 3) (am 4) (am 5) (am 6) (am 7) (am 8) (am 9) (am 10) (am 11) (am 12) (am 13) M.1 M.2.1 M.2.2.1 M.2.2.2.1 M.2.2.2.2.1 M.2.2.2.2.2.1 M.2.2.2.2.2.2.1 M.2.2.2.2.2.2.2.1 M.2.2.2.2.2.2.2.2.1 M.2.2.2.2.2.2.2.2.2.1 M.2.2.2.2.2.2.2.2.2.2.1 M.2.2.2.2.2.2.2.2.2.2.2.1 M.2.2.2.2.2.2.2.2.2.2.2.2.1 M.2.2.2.2.2.2.2.2.2.2.2.2.2.1 M.2.2.2.2.2.2.2.2.2.2.2.2.2.2.1 M.2.2.2.2.2.2.2.2.2.2.2.2.2.2.2.1 M.2.2.2.2.2.2.2.2.2.2.2.2.2.2.2.2.1 M.2.2.2.2.2.2.2.2.2.2.2.2.2.2.2.2.2)) (wr := ((wX cI cJ cZ (ax 0) (ax 1) (ax 2) (ax 3) (ax 4) (ax 5) (ax 6) (ax 7) (ax 8) (ax 9) (ax 10) (ax 11) (vH C.1) (vPk C.2.1) (vT C.2.2) N1.1 N1.2.1 N1.2.2.1 N1.2.2.2.1 N1.2.2.2.2.1 N1.2.2.2.2.2.1 N1.2.2.2.2.2.2.1 N1.2.2.2.2.2.2.2 Q1.1 Q1.2.1 Q1.2.2.1 Q1.2.2.2.1 Q1.2.2.2.2) ++ (eH cI (ax 1) C.1 ++ (eP cI cZ (ax 1) C.2.1 ++ eT cJ (ax 1) C.2.2)))) (rest := [.int ox.1]) hx hb hml hg hown hK hA hI (pm_sw _ _ _) (kX8_list l D cI cJ cZ (am 0) (am 1) (am 2) (am 3) (am 4) (am 5) (am 6) (am 7) (am 8) (am 9) (am 10) (am 11) (am 12) (am 13) M.1 M.2.1 M.2.2.1 M.2.2.2.1 M.2.2.2.2.1 M.2.2.2.2.2.1 M.2.2.2.2.2.2.1 M.2.2.2.2.2.2.2.1 M.2.2.2.2.2.2.2.2.1 M.2.2.2.2.2.2.2.2.2.1 M.2.2.2.2.2.2.2.2.2.2.1 M.2.2.2.2.2.2.2.2.2.2.2.1 M.2.2.2.2.2.2.2.2.2.2.2.2.1 M.2.2.2.2.2.2.2.2.2.2.2.2.2.1 M.2.2.2.2.2.2.2.2.2.2.2.2.2.2.1 M.2.2.2.2.2.2.2.2.2.2.2.2.2.2.2.1 M.2.2.2.2.2.2.2.2.2.2.2.2.2.2.2.2.1 M.2.2.2.2.2.2.2.2.2.2.2.2.2.2.2.2.2 (xs (i + 1).toNatClampNeg) (xs (i + 2).toNatClampNeg) om hom) kvX8_list wL_RL_109 ⟨Nat.le_of_ble_eq_true rfl, Nat.le_of_ble_eq_true rfl⟩ rfl rfl rfl rfl hl.1 (Nat.le_of_ble_eq_true rfl) dL_law_684 ⟨by show cells + 0 + 0 ≤ 600000; omega, by show slots + 0 + 0 ≤ 7302250; omega⟩ (fun r u H locs hp hI => ?_)
  replace hp : r = om.1 := hp
  rw [hp]
  clear hp r
  replace hI := hI.ofPerm (pm_sw _ _ _)
  obtain ⟨M1, eM1⟩ : ∃ z : MS, z = (M.1, M.2.1, M.2.2.1, M.2.2.2.1, M.2.2.2.2.1, M.2.2.2.2.2.1, M.2.2.2.2.2.2.1, M.2.2.2.2.2.2.2.1, om.2, M.2.2.2.2.2.2.2.2.2.1, M.2.2.2.2.2.2.2.2.2.2.1, M.2.2.2.2.2.2.2.2.2.2.2.1, M.2.2.2.2.2.2.2.2.2.2.2.2.1, M.2.2.2.2.2.2.2.2.2.2.2.2.2.1, M.2.2.2.2.2.2.2.2.2.2.2.2.2.2.1, M.2.2.2.2.2.2.2.2.2.2.2.2.2.2.2.1, M.2.2.2.2.2.2.2.2.2.2.2.2.2.2.2.2.1, M.2.2.2.2.2.2.2.2.2.2.2.2.2.2.2.2.2) := ⟨_, rfl⟩
  rw [← eM1] at hR1
  replace hI : WI D (fun q : Nat => s.heap.size ≤ q) s.heap (WL cI cJ cZ ax am N1 Q1 M1 (C.1, C.2.1, C.2.2)) H locs := by rw [eM1]; exact hI
  refine lv_icmp_eq (tgt := 876) hx hb dL_law_687 (by decide) (fun hc => ?_) (fun hc => ?_)
  · exact hN N1 Q1 M1 _ H locs ls _ _ hR1 hI hl (by show cells + 0 + 0 ≤ cells + 4; omega) (by show slots + 0 + 0 ≤ slots + 4200; omega)
  · exact absurd hrt hc
set_option maxHeartbeats 4000000 in
set_option maxRecDepth 100000 in
theorem lo_choose {p : Program} {e : Env} {s : State} {m : MethodId} {below : List Frame} {meth : Method} {c : Code} (l : Launch) {b L : Nat} {xs : Nat → Int32} (C0 : lw_At p s m meth c b L xs) (D : va_G) (cI cJ cZ : ClassId) (hK : KK D cI cJ cZ s) (ax am : Nat → Nat) {i : Int32} (hi1 : vp_in (i + 1) L) (hi2 : vp_in (i + 2) L) (hi3 : vp_in (i + 3) L) {cells slots : Nat} (hcl : cells + 4 ≤ 600000) (hsl : slots + 4200 ≤ 7302250) (hN : NextP p l e s m below meth c b D cI cJ cZ ax am i cells slots) {N : NS} {Q : QS} {M : MS} (C : CS) (hR : Rel N Q M) {H : Heap} {locs : List Loc} {ls : Array Slot} (hI : WI D (fun q : Nat => s.heap.size ≤ q) s.heap (WL cI cJ cZ ax am N Q M C) H locs) (hl : lv_has ls 4 [(0, .ref b), (1, .ref (ax 0)), (2, .ref (am 0)), (3, .int i)]) : W p l e room_1 s m #[Value.ref b] below meth c H locs cells slots (lw_Z below #[Value.ref b] s) (F0 m 692 ls []) := by
  obtain ⟨hx, hb, hr, hml, hown, hts, hX, hbl, hlocks, hgv⟩ := id C0
  have hA : ∀ q : Nat, s.heap.size ≤ q → (fun q : Nat => s.heap.size ≤ q) q := fun _ h => h
  have hbA : ¬ (fun q : Nat => s.heap.size ≤ q) b := Nat.not_le.mpr hbl
  have hg : ∀ w ∈ GW, w.before #[Value.ref b] s = true := fun w h => hts w (gw_tbl h)
  replace hown : s.vm.findClass RL = some m.cls := hown
  refine lv_aload_n hx hb dL_law_692 rfl (lv_at hl 1 rfl) ?_
  obtain ⟨oH, oP, oT⟩ := C
  cases oP with
  | none =>
    obtain ⟨ox, om, hox, hom, hrt, hR1⟩ := op_choose hR (fun _ => 0) (fun _ => 0) (fun _ => 0) 
    refine w_ViA (wc := (wX cI cJ cZ (ax 0) (ax 1) (ax 2) (ax 3) (ax 4) (ax 5) (ax 6) (ax 7) (ax 8) (ax 9) (ax 10) (ax 11) (vH oH) (.null) (vT oT) N.1 N.2.1 N.2.2.1 N.2.2.2.1 N.2.2.2.2.1 N.2.2.2.2.2.1 N.2.2.2.2.2.2.1 N.2.2.2.2.2.2.2 Q.1 Q.2.1 Q.2.2.1 Q.2.2.2.1 Q.2.2.2.2)) (wr := ((wM cI cJ cZ (am 0) (am 1) (am 2) (am 3) (am 4) (am 5) (am 6) (am 7) (am 8) (am 9) (am 10) (am 11) (am 12) (am 13) M.1 M.2.1 M.2.2.1 M.2.2.2.1 M.2.2.2.2.1 M.2.2.2.2.2.1 M.2.2.2.2.2.2.1 M.2.2.2.2.2.2.2.1 M.2.2.2.2.2.2.2.2.1 M.2.2.2.2.2.2.2.2.2.1 M.2.2.2.2.2.2.2.2.2.2.1 M.2.2.2.2.2.2.2.2.2.2.2.1 M.2.2.2.2.2.2.2.2.2.2.2.2.1 M.2.2.2.2.2.2.2.2.2.2.2.2.2.1 M.2.2.2.2.2.2.2.2.2.2.2.2.2.2.1 M.2.2.2.2.2.2.2.2.2.2.2.2.2.2.2.1 M.2.2.2.2.2.2.2.2.2.2.2.2.2.2.2.2.1 M.2.2.2.2.2.2.2.2.2.2.2.2.2.2.2.2.2) ++ (eH cI (ax 1) oH ++ ([] ++ eT cJ (ax 1) oT)))) (rest := []) hx hb hml hg hown hK hA hI (List.Perm.refl _) (kX7_choose_n l D cI cJ cZ (ax 0) (ax 1) (ax 2) (ax 3) (ax 4) (ax 5) (ax 6) (ax 7) (ax 8) (ax 9) (ax 10) (ax 11) (vH oH) (vT oT) N.1 N.2.1 N.2.2.1 N.2.2.2.1 N.2.2.2.2.1 N.2.2.2.2.2.1 N.2.2.2.2.2.2.1 N.2.2.2.2.2.2.2 Q.1 Q.2.1 Q.2.2.1 Q.2.2.2.1 Q.2.2.2.2  ox hox) kvX7_choose wL_RL_110 ⟨Nat.le_of_ble_eq_true rfl, Nat.le_of_ble_eq_true rfl⟩ rfl rfl rfl rfl hl.1 (Nat.le_of_ble_eq_true rfl) dL_law_693 ⟨by show _ + 4 ≤ 600000; omega, by show _ + 4124 ≤ 7302250; omega⟩ (fun r u H locs hp hI => ?_)
    replace hp : r = ox.1 := hp
    rw [hp]
    clear hp r
    cases u with
    | none =>
      replace hI : WI D (fun q : Nat => s.heap.size ≤ q) s.heap (WL cI cJ cZ ax am (N.1, N.2.1, N.2.2.1, N.2.2.2.1, ox.2.2.2.2, N.2.2.2.2.2.1, N.2.2.2.2.2.2.1, N.2.2.2.2.2.2.2) (Q.1, Q.2.1, Q.2.2.1, Q.2.2.2.1, Q.2.2.2.2) M (oH, none, oT)) H locs := hI
      refine lv_aload_n hx hb dL_law_696 rfl (lv_at hl 2 rfl) ?_
      obtain ⟨N1, eN1⟩ : ∃ z : NS, z = (N.1, N.2.1, N.2.2.1, N.2.2.2.1, ox.2.2.2.2, N.2.2.2.2.2.1, N.2.2.2.2.2.2.1, N.2.2.2.2.2.2.2) := ⟨_, rfl⟩
      obtain ⟨Q1, eQ1⟩ : ∃ z : QS, z = (Q.1, Q.2.1, Q.2.2.1, Q.2.2.2.1, Q.2.2.2.2) := ⟨_, rfl⟩
      rw [← eN1, ← eQ1] at hI hR1
      refine w_ViA (wc := (wM cI cJ cZ (am 0) (am 1) (am 2) (am 3) (am 4) (am 5) (am 6) (am 7) (am 8) (am 9) (am 10) (am 11) (am 12) (am 13) M.1 M.2.1 M.2.2.1 M.2.2.2.1 M.2.2.2.2.1 M.2.2.2.2.2.1 M.2.2.2.2.2.2.1 M.2.2.2.2.2.2.2.1 M.2.2.2.2.2.2.2.2.1 M.2.2.2.2.2.2.2.2.2.1 M.2.2.2.2.2.2.2.2.2.2.1 M.2.2.2.2.2.2.2.2.2.2.2.1 M.2.2.2.2.2.2.2.2.2.2.2.2.1 M.2.2.2.2.2.2.2.2.2.2.2.2.2.1 M.2.2.2.2.2.2.2.2.2.2.2.2.2.2.1 M.2.2.2.2.2.2.2.2.2.2.2.2.2.2.2.1 M.2.2.2.2.2.2.2.2.2.2.2.2.2.2.2.2.1 M.2.2.2.2.2.2.2.2.2.2.2.2.2.2.2.2.2)) (wr := ((wX cI cJ cZ (ax 0) (ax 1) (ax 2) (ax 3) (ax 4) (ax 5) (ax 6) (ax 7) (ax 8) (ax 9) (ax 10) (ax 11) (vH oH) (vPk none) (vT oT) N1.1 N1.2.1 N1.2.2.1 N1.2.2.2.1 N1.2.2.2.2.1 N1.2.2.2.2.2.1 N1.2.2.2.2.2.2.1 N1.2.2.2.2.2.2.2 Q1.1 Q1.2.1 Q1.2.2.1 Q1.2.2.2.1 Q1.2.2.2.2) ++ (eH cI (ax 1) oH ++ (eP cI cZ (ax 1) none ++ eT cJ (ax 1) oT)))) (rest := [.int ox.1]) hx hb hml hg hown hK hA hI (pm_sw _ _ _) (kX8_choose l D cI cJ cZ (am 0) (am 1) (am 2) (am 3) (am 4) (am 5) (am 6) (am 7) (am 8) (am 9) (am 10) (am 11) (am 12) (am 13) M.1 M.2.1 M.2.2.1 M.2.2.2.1 M.2.2.2.2.1 M.2.2.2.2.2.1 M.2.2.2.2.2.2.1 M.2.2.2.2.2.2.2.1 M.2.2.2.2.2.2.2.2.1 M.2.2.2.2.2.2.2.2.2.1 M.2.2.2.2.2.2.2.2.2.2.1 M.2.2.2.2.2.2.2.2.2.2.2.1 M.2.2.2.2.2.2.2.2.2.2.2.2.1 M.2.2.2.2.2.2.2.2.2.2.2.2.2.1 M.2.2.2.2.2.2.2.2.2.2.2.2.2.2.1 M.2.2.2.2.2.2.2.2.2.2.2.2.2.2.2.1 M.2.2.2.2.2.2.2.2.2.2.2.2.2.2.2.2.1 M.2.2.2.2.2.2.2.2.2.2.2.2.2.2.2.2.2  om hom) kvX8_choose wL_RL_113 ⟨Nat.le_of_ble_eq_true rfl, Nat.le_of_ble_eq_true rfl⟩ rfl rfl rfl rfl hl.1 (Nat.le_of_ble_eq_true rfl) dL_law_697 ⟨by show cells + 4 + 0 ≤ 600000; omega, by show slots + 4124 + 0 ≤ 7302250; omega⟩ (fun r u H locs hp hI => ?_)
      replace hp : r = om.1 := hp
      rw [hp]
      clear hp r
      replace hI := hI.ofPerm (pm_sw _ _ _)
      obtain ⟨M1, eM1⟩ : ∃ z : MS, z = (M.1, M.2.1, M.2.2.1, M.2.2.2.1, M.2.2.2.2.1, M.2.2.2.2.2.1, M.2.2.2.2.2.2.1, om.2.1, M.2.2.2.2.2.2.2.2.1, M.2.2.2.2.2.2.2.2.2.1, M.2.2.2.2.2.2.2.2.2.2.1, om.2.2.1, om.2.2.2.1, om.2.2.2.2.1, om.2.2.2.2.2.1, om.2.2.2.2.2.2.1, om.2.2.2.2.2.2.2, M.2.2.2.2.2.2.2.2.2.2.2.2.2.2.2.2.2) := ⟨_, rfl⟩
      rw [← eM1] at hR1
      replace hI : WI D (fun q : Nat => s.heap.size ≤ q) s.heap (WL cI cJ cZ ax am N1 Q1 M1 (oH, none, oT)) H locs := by rw [eM1]; exact hI
      refine lv_icmp_eq (tgt := 876) hx hb dL_law_700 (by decide) (fun hc => ?_) (fun hc => ?_)
      · exact hN N1 Q1 M1 _ H locs ls _ _ hR1 hI hl (by show cells + 4 + 0 ≤ cells + 4; omega) (by show slots + 4124 + 0 ≤ slots + 4200; omega)
      · exact absurd hrt hc
    | some q =>
      replace hI : WI D (fun q : Nat => s.heap.size ≤ q) s.heap (((wX cI cJ cZ (ax 0) (ax 1) (ax 2) (ax 3) (ax 4) (ax 5) (ax 6) (ax 7) (ax 8) (ax 9) (ax 10) (ax 11) (vH oH) (vPk (some ((q.1, q.2.1, q.2.2.1, q.2.2.2), ox.2.1, ox.2.2.1, ox.2.2.2.1))) (vT oT) N.1 N.2.1 N.2.2.1 N.2.2.2.1 ox.2.2.2.2 N.2.2.2.2.2.1 N.2.2.2.2.2.2.1 N.2.2.2.2.2.2.2 Q.1 Q.2.1 Q.2.2.1 Q.2.2.2.1 Q.2.2.2.2) ++ eP cI cZ (ax 1) (some ((q.1, q.2.1, q.2.2.1, q.2.2.2), ox.2.1, ox.2.2.1, ox.2.2.2.1))) ++ ((wM cI cJ cZ (am 0) (am 1) (am 2) (am 3) (am 4) (am 5) (am 6) (am 7) (am 8) (am 9) (am 10) (am 11) (am 12) (am 13) M.1 M.2.1 M.2.2.1 M.2.2.2.1 M.2.2.2.2.1 M.2.2.2.2.2.1 M.2.2.2.2.2.2.1 M.2.2.2.2.2.2.2.1 M.2.2.2.2.2.2.2.2.1 M.2.2.2.2.2.2.2.2.2.1 M.2.2.2.2.2.2.2.2.2.2.1 M.2.2.2.2.2.2.2.2.2.2.2.1 M.2.2.2.2.2.2.2.2.2.2.2.2.1 M.2.2.2.2.2.2.2.2.2.2.2.2.2.1 M.2.2.2.2.2.2.2.2.2.2.2.2.2.2.1 M.2.2.2.2.2.2.2.2.2.2.2.2.2.2.2.1 M.2.2.2.2.2.2.2.2.2.2.2.2.2.2.2.2.1 M.2.2.2.2.2.2.2.2.2.2.2.2.2.2.2.2.2) ++ (eH cI (ax 1) oH ++ eT cJ (ax 1) oT))) H locs := hI
      replace hI : WI D (fun q : Nat => s.heap.size ≤ q) s.heap (WL cI cJ cZ ax am (N.1, N.2.1, N.2.2.1, N.2.2.2.1, ox.2.2.2.2, N.2.2.2.2.2.1, N.2.2.2.2.2.2.1, N.2.2.2.2.2.2.2) (Q.1, Q.2.1, Q.2.2.1, Q.2.2.2.1, Q.2.2.2.2) M (oH, (some ((q.1, q.2.1, q.2.2.1, q.2.2.2), ox.2.1, ox.2.2.1, ox.2.2.2.1)), oT)) H locs := hI.ofPerm (pm_2 (wX cI cJ cZ (ax 0) (ax 1) (ax 2) (ax 3) (ax 4) (ax 5) (ax 6) (ax 7) (ax 8) (ax 9) (ax 10) (ax 11) (vH oH) (vPk (some ((q.1, q.2.1, q.2.2.1, q.2.2.2), ox.2.1, ox.2.2.1, ox.2.2.2.1))) (vT oT) N.1 N.2.1 N.2.2.1 N.2.2.2.1 ox.2.2.2.2 N.2.2.2.2.2.1 N.2.2.2.2.2.2.1 N.2.2.2.2.2.2.2 Q.1 Q.2.1 Q.2.2.1 Q.2.2.2.1 Q.2.2.2.2) (wM cI cJ cZ (am 0) (am 1) (am 2) (am 3) (am 4) (am 5) (am 6) (am 7) (am 8) (am 9) (am 10) (am 11) (am 12) (am 13) M.1 M.2.1 M.2.2.1 M.2.2.2.1 M.2.2.2.2.1 M.2.2.2.2.2.1 M.2.2.2.2.2.2.1 M.2.2.2.2.2.2.2.1 M.2.2.2.2.2.2.2.2.1 M.2.2.2.2.2.2.2.2.2.1 M.2.2.2.2.2.2.2.2.2.2.1 M.2.2.2.2.2.2.2.2.2.2.2.1 M.2.2.2.2.2.2.2.2.2.2.2.2.1 M.2.2.2.2.2.2.2.2.2.2.2.2.2.1 M.2.2.2.2.2.2.2.2.2.2.2.2.2.2.1 M.2.2.2.2.2.2.2.2.2.2.2.2.2.2.2.1 M.2.2.2.2.2.2.2.2.2.2.2.2.2.2.2.2.1 M.2.2.2.2.2.2.2.2.2.2.2.2.2.2.2.2.2) (eH cI (ax 1) oH) (eP cI cZ (ax 1) (some ((q.1, q.2.1, q.2.2.1, q.2.2.2), ox.2.1, ox.2.2.1, ox.2.2.2.1))) (eT cJ (ax 1) oT)).symm
      refine lv_aload_n hx hb dL_law_696 rfl (lv_at hl 2 rfl) ?_
      obtain ⟨N1, eN1⟩ : ∃ z : NS, z = (N.1, N.2.1, N.2.2.1, N.2.2.2.1, ox.2.2.2.2, N.2.2.2.2.2.1, N.2.2.2.2.2.2.1, N.2.2.2.2.2.2.2) := ⟨_, rfl⟩
      obtain ⟨Q1, eQ1⟩ : ∃ z : QS, z = (Q.1, Q.2.1, Q.2.2.1, Q.2.2.2.1, Q.2.2.2.2) := ⟨_, rfl⟩
      rw [← eN1, ← eQ1] at hI hR1
      refine w_ViA (wc := (wM cI cJ cZ (am 0) (am 1) (am 2) (am 3) (am 4) (am 5) (am 6) (am 7) (am 8) (am 9) (am 10) (am 11) (am 12) (am 13) M.1 M.2.1 M.2.2.1 M.2.2.2.1 M.2.2.2.2.1 M.2.2.2.2.2.1 M.2.2.2.2.2.2.1 M.2.2.2.2.2.2.2.1 M.2.2.2.2.2.2.2.2.1 M.2.2.2.2.2.2.2.2.2.1 M.2.2.2.2.2.2.2.2.2.2.1 M.2.2.2.2.2.2.2.2.2.2.2.1 M.2.2.2.2.2.2.2.2.2.2.2.2.1 M.2.2.2.2.2.2.2.2.2.2.2.2.2.1 M.2.2.2.2.2.2.2.2.2.2.2.2.2.2.1 M.2.2.2.2.2.2.2.2.2.2.2.2.2.2.2.1 M.2.2.2.2.2.2.2.2.2.2.2.2.2.2.2.2.1 M.2.2.2.2.2.2.2.2.2.2.2.2.2.2.2.2.2)) (wr := ((wX cI cJ cZ (ax 0) (ax 1) (ax 2) (ax 3) (ax 4) (ax 5) (ax 6) (ax 7) (ax 8) (ax 9) (ax 10) (ax 11) (vH oH) (vPk (some ((q.1, q.2.1, q.2.2.1, q.2.2.2), ox.2.1, ox.2.2.1, ox.2.2.2.1))) (vT oT) N1.1 N1.2.1 N1.2.2.1 N1.2.2.2.1 N1.2.2.2.2.1 N1.2.2.2.2.2.1 N1.2.2.2.2.2.2.1 N1.2.2.2.2.2.2.2 Q1.1 Q1.2.1 Q1.2.2.1 Q1.2.2.2.1 Q1.2.2.2.2) ++ (eH cI (ax 1) oH ++ (eP cI cZ (ax 1) (some ((q.1, q.2.1, q.2.2.1, q.2.2.2), ox.2.1, ox.2.2.1, ox.2.2.2.1)) ++ eT cJ (ax 1) oT)))) (rest := [.int ox.1]) hx hb hml hg hown hK hA hI (pm_sw _ _ _) (kX8_choose l D cI cJ cZ (am 0) (am 1) (am 2) (am 3) (am 4) (am 5) (am 6) (am 7) (am 8) (am 9) (am 10) (am 11) (am 12) (am 13) M.1 M.2.1 M.2.2.1 M.2.2.2.1 M.2.2.2.2.1 M.2.2.2.2.2.1 M.2.2.2.2.2.2.1 M.2.2.2.2.2.2.2.1 M.2.2.2.2.2.2.2.2.1 M.2.2.2.2.2.2.2.2.2.1 M.2.2.2.2.2.2.2.2.2.2.1 M.2.2.2.2.2.2.2.2.2.2.2.1 M.2.2.2.2.2.2.2.2.2.2.2.2.1 M.2.2.2.2.2.2.2.2.2.2.2.2.2.1 M.2.2.2.2.2.2.2.2.2.2.2.2.2.2.1 M.2.2.2.2.2.2.2.2.2.2.2.2.2.2.2.1 M.2.2.2.2.2.2.2.2.2.2.2.2.2.2.2.2.1 M.2.2.2.2.2.2.2.2.2.2.2.2.2.2.2.2.2  om hom) kvX8_choose wL_RL_113 ⟨Nat.le_of_ble_eq_true rfl, Nat.le_of_ble_eq_true rfl⟩ rfl rfl rfl rfl hl.1 (Nat.le_of_ble_eq_true rfl) dL_law_697 ⟨by show cells + 4 + 0 ≤ 600000; omega, by show slots + 4124 + 0 ≤ 7302250; omega⟩ (fun r u H locs hp hI => ?_)
      replace hp : r = om.1 := hp
      rw [hp]
      clear hp r
      replace hI := hI.ofPerm (pm_sw _ _ _)
      obtain ⟨M1, eM1⟩ : ∃ z : MS, z = (M.1, M.2.1, M.2.2.1, M.2.2.2.1, M.2.2.2.2.1, M.2.2.2.2.2.1, M.2.2.2.2.2.2.1, om.2.1, M.2.2.2.2.2.2.2.2.1, M.2.2.2.2.2.2.2.2.2.1, M.2.2.2.2.2.2.2.2.2.2.1, om.2.2.1, om.2.2.2.1, om.2.2.2.2.1, om.2.2.2.2.2.1, om.2.2.2.2.2.2.1, om.2.2.2.2.2.2.2, M.2.2.2.2.2.2.2.2.2.2.2.2.2.2.2.2.2) := ⟨_, rfl⟩
      rw [← eM1] at hR1
      replace hI : WI D (fun q : Nat => s.heap.size ≤ q) s.heap (WL cI cJ cZ ax am N1 Q1 M1 (oH, (some ((q.1, q.2.1, q.2.2.1, q.2.2.2), ox.2.1, ox.2.2.1, ox.2.2.2.1)), oT)) H locs := by rw [eM1]; exact hI
      refine lv_icmp_eq (tgt := 876) hx hb dL_law_700 (by decide) (fun hc => ?_) (fun hc => ?_)
      · exact hN N1 Q1 M1 _ H locs ls _ _ hR1 hI hl (by show cells + 4 + 0 ≤ cells + 4; omega) (by show slots + 4124 + 0 ≤ slots + 4200; omega)
      · exact absurd hrt hc
  | some q =>
    obtain ⟨ox, om, hox, hom, hrt, hR1⟩ := op_choose hR q.2.1 q.2.2.1 q.2.2.2 
    refine w_ViA (wc := ((wX cI cJ cZ (ax 0) (ax 1) (ax 2) (ax 3) (ax 4) (ax 5) (ax 6) (ax 7) (ax 8) (ax 9) (ax 10) (ax 11) (vH oH) (vPk (some q)) (vT oT) N.1 N.2.1 N.2.2.1 N.2.2.2.1 N.2.2.2.2.1 N.2.2.2.2.2.1 N.2.2.2.2.2.2.1 N.2.2.2.2.2.2.2 Q.1 Q.2.1 Q.2.2.1 Q.2.2.2.1 Q.2.2.2.2) ++ eP cI cZ (ax 1) (some q))) (wr := ((wM cI cJ cZ (am 0) (am 1) (am 2) (am 3) (am 4) (am 5) (am 6) (am 7) (am 8) (am 9) (am 10) (am 11) (am 12) (am 13) M.1 M.2.1 M.2.2.1 M.2.2.2.1 M.2.2.2.2.1 M.2.2.2.2.2.1 M.2.2.2.2.2.2.1 M.2.2.2.2.2.2.2.1 M.2.2.2.2.2.2.2.2.1 M.2.2.2.2.2.2.2.2.2.1 M.2.2.2.2.2.2.2.2.2.2.1 M.2.2.2.2.2.2.2.2.2.2.2.1 M.2.2.2.2.2.2.2.2.2.2.2.2.1 M.2.2.2.2.2.2.2.2.2.2.2.2.2.1 M.2.2.2.2.2.2.2.2.2.2.2.2.2.2.1 M.2.2.2.2.2.2.2.2.2.2.2.2.2.2.2.1 M.2.2.2.2.2.2.2.2.2.2.2.2.2.2.2.2.1 M.2.2.2.2.2.2.2.2.2.2.2.2.2.2.2.2.2) ++ (eH cI (ax 1) oH ++ eT cJ (ax 1) oT))) (rest := []) hx hb hml hg hown hK hA hI (pm_2 _ _ _ _ _) (kX7_choose_s l D cI cJ cZ (ax 0) (ax 1) (ax 2) (ax 3) (ax 4) (ax 5) (ax 6) (ax 7) (ax 8) (ax 9) (ax 10) (ax 11) q.1.1 q.1.2.1 q.1.2.2.1 q.1.2.2.2 (vH oH) (vT oT) N.1 N.2.1 N.2.2.1 N.2.2.2.1 N.2.2.2.2.1 N.2.2.2.2.2.1 N.2.2.2.2.2.2.1 N.2.2.2.2.2.2.2 Q.1 Q.2.1 Q.2.2.1 Q.2.2.2.1 Q.2.2.2.2 q.2.1 q.2.2.1 q.2.2.2  ox hox) kvX7_choose wL_RL_110 ⟨Nat.le_of_ble_eq_true rfl, Nat.le_of_ble_eq_true rfl⟩ rfl rfl rfl rfl hl.1 (Nat.le_of_ble_eq_true rfl) dL_law_693 ⟨by show _ + 0 ≤ 600000; omega, by show _ + 0 ≤ 7302250; omega⟩ (fun r u H locs hp hI => ?_)
    replace hp : r = ox.1 := hp
    rw [hp]
    clear hp r
    replace hI : WI D (fun q : Nat => s.heap.size ≤ q) s.heap (((wX cI cJ cZ (ax 0) (ax 1) (ax 2) (ax 3) (ax 4) (ax 5) (ax 6) (ax 7) (ax 8) (ax 9) (ax 10) (ax 11) (vH oH) (vPk (some (q.1, ox.2.1, ox.2.2.1, ox.2.2.2.1))) (vT oT) N.1 N.2.1 N.2.2.1 N.2.2.2.1 ox.2.2.2.2 N.2.2.2.2.2.1 N.2.2.2.2.2.2.1 N.2.2.2.2.2.2.2 Q.1 Q.2.1 Q.2.2.1 Q.2.2.2.1 Q.2.2.2.2) ++ eP cI cZ (ax 1) (some (q.1, ox.2.1, ox.2.2.1, ox.2.2.2.1))) ++ ((wM cI cJ cZ (am 0) (am 1) (am 2) (am 3) (am 4) (am 5) (am 6) (am 7) (am 8) (am 9) (am 10) (am 11) (am 12) (am 13) M.1 M.2.1 M.2.2.1 M.2.2.2.1 M.2.2.2.2.1 M.2.2.2.2.2.1 M.2.2.2.2.2.2.1 M.2.2.2.2.2.2.2.1 M.2.2.2.2.2.2.2.2.1 M.2.2.2.2.2.2.2.2.2.1 M.2.2.2.2.2.2.2.2.2.2.1 M.2.2.2.2.2.2.2.2.2.2.2.1 M.2.2.2.2.2.2.2.2.2.2.2.2.1 M.2.2.2.2.2.2.2.2.2.2.2.2.2.1 M.2.2.2.2.2.2.2.2.2.2.2.2.2.2.1 M.2.2.2.2.2.2.2.2.2.2.2.2.2.2.2.1 M.2.2.2.2.2.2.2.2.2.2.2.2.2.2.2.2.1 M.2.2.2.2.2.2.2.2.2.2.2.2.2.2.2.2.2) ++ (eH cI (ax 1) oH ++ eT cJ (ax 1) oT))) H locs := hI
    replace hI : WI D (fun q : Nat => s.heap.size ≤ q) s.heap (WL cI cJ cZ ax am (N.1, N.2.1, N.2.2.1, N.2.2.2.1, ox.2.2.2.2, N.2.2.2.2.2.1, N.2.2.2.2.2.2.1, N.2.2.2.2.2.2.2) (Q.1, Q.2.1, Q.2.2.1, Q.2.2.2.1, Q.2.2.2.2) M (oH, (some (q.1, ox.2.1, ox.2.2.1, ox.2.2.2.1)), oT)) H locs := hI.ofPerm (pm_2 (wX cI cJ cZ (ax 0) (ax 1) (ax 2) (ax 3) (ax 4) (ax 5) (ax 6) (ax 7) (ax 8) (ax 9) (ax 10) (ax 11) (vH oH) (vPk (some (q.1, ox.2.1, ox.2.2.1, ox.2.2.2.1))) (vT oT) N.1 N.2.1 N.2.2.1 N.2.2.2.1 ox.2.2.2.2 N.2.2.2.2.2.1 N.2.2.2.2.2.2.1 N.2.2.2.2.2.2.2 Q.1 Q.2.1 Q.2.2.1 Q.2.2.2.1 Q.2.2.2.2) (wM cI cJ cZ (am 0) (am 1) (am 2) (am 3) (am 4) (am 5) (am 6) (am 7) (am 8) (am 9) (am 10) (am 11) (am 12) (am 13) M.1 M.2.1 M.2.2.1 M.2.2.2.1 M.2.2.2.2.1 M.2.2.2.2.2.1 M.2.2.2.2.2.2.1 M.2.2.2.2.2.2.2.1 M.2.2.2.2.2.2.2.2.1 M.2.2.2.2.2.2.2.2.2.1 M.2.2.2.2.2.2.2.2.2.2.1 M.2.2.2.2.2.2.2.2.2.2.2.1 M.2.2.2.2.2.2.2.2.2.2.2.2.1 M.2.2.2.2.2.2.2.2.2.2.2.2.2.1 M.2.2.2.2.2.2.2.2.2.2.2.2.2.2.1 M.2.2.2.2.2.2.2.2.2.2.2.2.2.2.2.1 M.2.2.2.2.2.2.2.2.2.2.2.2.2.2.2.2.1 M.2.2.2.2.2.2.2.2.2.2.2.2.2.2.2.2.2) (eH cI (ax 1) oH) (eP cI cZ (ax 1) (some (q.1, ox.2.1, ox.2.2.1, ox.2.2.2.1))) (eT cJ (ax 1) oT)).symm
    refine lv_aload_n hx hb dL_law_696 rfl (lv_at hl 2 rfl) ?_
    obtain ⟨N1, eN1⟩ : ∃ z : NS, z = (N.1, N.2.1, N.2.2.1, N.2.2.2.1, ox.2.2.2.2, N.2.2.2.2.2.1, N.2.2.2.2.2.2.1, N.2.2.2.2.2.2.2) := ⟨_, rfl⟩
    obtain ⟨Q1, eQ1⟩ : ∃ z : QS, z = (Q.1, Q.2.1, Q.2.2.1, Q.2.2.2.1, Q.2.2.2.2) := ⟨_, rfl⟩
    rw [← eN1, ← eQ1] at hI hR1
    refine w_ViA (wc := (wM cI cJ cZ (am 0) (am 1) (am 2) (am 3) (am 4) (am 5) (am 6) (am 7) (am 8) (am 9) (am 10) (am 11) (am 12) (am 13) M.1 M.2.1 M.2.2.1 M.2.2.2.1 M.2.2.2.2.1 M.2.2.2.2.2.1 M.2.2.2.2.2.2.1 M.2.2.2.2.2.2.2.1 M.2.2.2.2.2.2.2.2.1 M.2.2.2.2.2.2.2.2.2.1 M.2.2.2.2.2.2.2.2.2.2.1 M.2.2.2.2.2.2.2.2.2.2.2.1 M.2.2.2.2.2.2.2.2.2.2.2.2.1 M.2.2.2.2.2.2.2.2.2.2.2.2.2.1 M.2.2.2.2.2.2.2.2.2.2.2.2.2.2.1 M.2.2.2.2.2.2.2.2.2.2.2.2.2.2.2.1 M.2.2.2.2.2.2.2.2.2.2.2.2.2.2.2.2.1 M.2.2.2.2.2.2.2.2.2.2.2.2.2.2.2.2.2)) (wr := ((wX cI cJ cZ (ax 0) (ax 1) (ax 2) (ax 3) (ax 4) (ax 5) (ax 6) (ax 7) (ax 8) (ax 9) (ax 10) (ax 11) (vH oH) (vPk (some (q.1, ox.2.1, ox.2.2.1, ox.2.2.2.1))) (vT oT) N1.1 N1.2.1 N1.2.2.1 N1.2.2.2.1 N1.2.2.2.2.1 N1.2.2.2.2.2.1 N1.2.2.2.2.2.2.1 N1.2.2.2.2.2.2.2 Q1.1 Q1.2.1 Q1.2.2.1 Q1.2.2.2.1 Q1.2.2.2.2) ++ (eH cI (ax 1) oH ++ (eP cI cZ (ax 1) (some (q.1, ox.2.1, ox.2.2.1, ox.2.2.2.1)) ++ eT cJ (ax 1) oT)))) (rest := [.int ox.1]) hx hb hml hg hown hK hA hI (pm_sw _ _ _) (kX8_choose l D cI cJ cZ (am 0) (am 1) (am 2) (am 3) (am 4) (am 5) (am 6) (am 7) (am 8) (am 9) (am 10) (am 11) (am 12) (am 13) M.1 M.2.1 M.2.2.1 M.2.2.2.1 M.2.2.2.2.1 M.2.2.2.2.2.1 M.2.2.2.2.2.2.1 M.2.2.2.2.2.2.2.1 M.2.2.2.2.2.2.2.2.1 M.2.2.2.2.2.2.2.2.2.1 M.2.2.2.2.2.2.2.2.2.2.1 M.2.2.2.2.2.2.2.2.2.2.2.1 M.2.2.2.2.2.2.2.2.2.2.2.2.1 M.2.2.2.2.2.2.2.2.2.2.2.2.2.1 M.2.2.2.2.2.2.2.2.2.2.2.2.2.2.1 M.2.2.2.2.2.2.2.2.2.2.2.2.2.2.2.1 M.2.2.2.2.2.2.2.2.2.2.2.2.2.2.2.2.1 M.2.2.2.2.2.2.2.2.2.2.2.2.2.2.2.2.2  om hom) kvX8_choose wL_RL_113 ⟨Nat.le_of_ble_eq_true rfl, Nat.le_of_ble_eq_true rfl⟩ rfl rfl rfl rfl hl.1 (Nat.le_of_ble_eq_true rfl) dL_law_697 ⟨by show cells + 0 + 0 ≤ 600000; omega, by show slots + 0 + 0 ≤ 7302250; omega⟩ (fun r u H locs hp hI => ?_)
    replace hp : r = om.1 := hp
    rw [hp]
    clear hp r
    replace hI := hI.ofPerm (pm_sw _ _ _)
    obtain ⟨M1, eM1⟩ : ∃ z : MS, z = (M.1, M.2.1, M.2.2.1, M.2.2.2.1, M.2.2.2.2.1, M.2.2.2.2.2.1, M.2.2.2.2.2.2.1, om.2.1, M.2.2.2.2.2.2.2.2.1, M.2.2.2.2.2.2.2.2.2.1, M.2.2.2.2.2.2.2.2.2.2.1, om.2.2.1, om.2.2.2.1, om.2.2.2.2.1, om.2.2.2.2.2.1, om.2.2.2.2.2.2.1, om.2.2.2.2.2.2.2, M.2.2.2.2.2.2.2.2.2.2.2.2.2.2.2.2.2) := ⟨_, rfl⟩
    rw [← eM1] at hR1
    replace hI : WI D (fun q : Nat => s.heap.size ≤ q) s.heap (WL cI cJ cZ ax am N1 Q1 M1 (oH, (some (q.1, ox.2.1, ox.2.2.1, ox.2.2.2.1)), oT)) H locs := by rw [eM1]; exact hI
    refine lv_icmp_eq (tgt := 876) hx hb dL_law_700 (by decide) (fun hc => ?_) (fun hc => ?_)
    · exact hN N1 Q1 M1 _ H locs ls _ _ hR1 hI hl (by show cells + 0 + 0 ≤ cells + 4; omega) (by show slots + 0 + 0 ≤ slots + 4200; omega)
    · exact absurd hrt hc
set_option maxHeartbeats 4000000 in
set_option maxRecDepth 100000 in
theorem lo_square {p : Program} {e : Env} {s : State} {m : MethodId} {below : List Frame} {meth : Method} {c : Code} (l : Launch) {b L : Nat} {xs : Nat → Int32} (C0 : lw_At p s m meth c b L xs) (D : va_G) (cI cJ cZ : ClassId) (hK : KK D cI cJ cZ s) (ax am : Nat → Nat) {i : Int32} (hi1 : vp_in (i + 1) L) (hi2 : vp_in (i + 2) L) (hi3 : vp_in (i + 3) L) {cells slots : Nat} (hcl : cells + 4 ≤ 600000) (hsl : slots + 4200 ≤ 7302250) (hN : NextP p l e s m below meth c b D cI cJ cZ ax am i cells slots) {N : NS} {Q : QS} {M : MS} (C : CS) (hR : Rel N Q M) {H : Heap} {locs : List Loc} {ls : Array Slot} (hI : WI D (fun q : Nat => s.heap.size ≤ q) s.heap (WL cI cJ cZ ax am N Q M C) H locs) (hl : lv_has ls 4 [(0, .ref b), (1, .ref (ax 0)), (2, .ref (am 0)), (3, .int i)]) : W p l e room_1 s m #[Value.ref b] below meth c H locs cells slots (lw_Z below #[Value.ref b] s) (F0 m 705 ls []) := by
  obtain ⟨hx, hb, hr, hml, hown, hts, hX, hbl, hlocks, hgv⟩ := id C0
  have hA : ∀ q : Nat, s.heap.size ≤ q → (fun q : Nat => s.heap.size ≤ q) q := fun _ h => h
  have hbA : ¬ (fun q : Nat => s.heap.size ≤ q) b := Nat.not_le.mpr hbl
  have hg : ∀ w ∈ GW, w.before #[Value.ref b] s = true := fun w h => hts w (gw_tbl h)
  replace hown : s.vm.findClass RL = some m.cls := hown
  refine lv_aload_n hx hb dL_law_705 rfl (lv_at hl 1 rfl) ?_
  refine lv_aload_n hx hb dL_law_706 rfl (lv_at hl 0 rfl) ?_
  refine lv_iload_n hx hb dL_law_707 rfl (lv_at hl 3 rfl) ?_
  refine lv_iconst (v := 1) hx hb dL_law_708 (by decide) ?_
  refine lv_iadd hx hb dL_law_709 ?_
  refine va_sld hx hb hX hbl hbA hI.2.2 hi1 dL_law_710 ?_
  obtain ⟨ox, om, hox, hom, hrt, hR1⟩ := op_square hR (xs (i + 1).toNatClampNeg)
  refine w_ViA (wc := (wX cI cJ cZ (ax 0) (ax 1) (ax 2) (ax 3) (ax 4) (ax 5) (ax 6) (ax 7) (ax 8) (ax 9) (ax 10) (ax 11) (vH C.1) (vPk C.2.1) (vT C.2.2) N.1 N.2.1 N.2.2.1 N.2.2.2.1 N.2.2.2.2.1 N.2.2.2.2.2.1 N.2.2.2.2.2.2.1 N.2.2.2.2.2.2.2 Q.1 Q.2.1 Q.2.2.1 Q.2.2.2.1 Q.2.2.2.2)) (wr := ((wM cI cJ cZ (am 0) (am 1) (am 2) (am 3) (am 4) (am 5) (am 6) (am 7) (am 8) (am 9) (am 10) (am 11) (am 12) (am 13) M.1 M.2.1 M.2.2.1 M.2.2.2.1 M.2.2.2.2.1 M.2.2.2.2.2.1 M.2.2.2.2.2.2.1 M.2.2.2.2.2.2.2.1 M.2.2.2.2.2.2.2.2.1 M.2.2.2.2.2.2.2.2.2.1 M.2.2.2.2.2.2.2.2.2.2.1 M.2.2.2.2.2.2.2.2.2.2.2.1 M.2.2.2.2.2.2.2.2.2.2.2.2.1 M.2.2.2.2.2.2.2.2.2.2.2.2.2.1 M.2.2.2.2.2.2.2.2.2.2.2.2.2.2.1 M.2.2.2.2.2.2.2.2.2.2.2.2.2.2.2.1 M.2.2.2.2.2.2.2.2.2.2.2.2.2.2.2.2.1 M.2.2.2.2.2.2.2.2.2.2.2.2.2.2.2.2.2) ++ (eH cI (ax 1) C.1 ++ (eP cI cZ (ax 1) C.2.1 ++ eT cJ (ax 1) C.2.2)))) (rest := []) hx hb hml hg hown hK hA hI (List.Perm.refl _) (kX7_square l D cI cJ cZ (ax 0) (ax 1) (ax 2) (ax 3) (ax 4) (ax 5) (ax 6) (ax 7) (ax 8) (ax 9) (ax 10) (ax 11) (vH C.1) (vPk C.2.1) (vT C.2.2) N.1 N.2.1 N.2.2.1 N.2.2.2.1 N.2.2.2.2.1 N.2.2.2.2.2.1 N.2.2.2.2.2.2.1 N.2.2.2.2.2.2.2 Q.1 Q.2.1 Q.2.2.1 Q.2.2.2.1 Q.2.2.2.2 (xs (i + 1).toNatClampNeg) ox hox) kvX7_square wL_RL_114 ⟨Nat.le_of_ble_eq_true rfl, Nat.le_of_ble_eq_true rfl⟩ rfl rfl rfl rfl hl.1 (Nat.le_of_ble_eq_true rfl) dL_law_711 ⟨by show _ + 0 ≤ 600000; omega, by show _ + 0 ≤ 7302250; omega⟩ (fun r u H locs hp hI => ?_)
  replace hp : r = ox.1 := hp
  rw [hp]
  clear hp r
  replace hI : WI D (fun q : Nat => s.heap.size ≤ q) s.heap (WL cI cJ cZ ax am (N.1, N.2.1, N.2.2.1, N.2.2.2.1, N.2.2.2.2.1, N.2.2.2.2.2.1, N.2.2.2.2.2.2.1, N.2.2.2.2.2.2.2) (ox.2.1, ox.2.2.1, Q.2.2.1, ox.2.2.2, Q.2.2.2.2) M (C.1, C.2.1, C.2.2)) H locs := hI
  refine lv_aload_n hx hb dL_law_714 rfl (lv_at hl 2 rfl) ?_
  refine lv_aload_n hx hb dL_law_715 rfl (lv_at hl 0 rfl) ?_
  refine lv_iload_n hx hb dL_law_716 rfl (lv_at hl 3 rfl) ?_
  refine lv_iconst (v := 1) hx hb dL_law_717 (by decide) ?_
  refine lv_iadd hx hb dL_law_718 ?_
  refine va_sld hx hb hX hbl hbA hI.2.2 hi1 dL_law_719 ?_
  obtain ⟨N1, eN1⟩ : ∃ z : NS, z = (N.1, N.2.1, N.2.2.1, N.2.2.2.1, N.2.2.2.2.1, N.2.2.2.2.2.1, N.2.2.2.2.2.2.1, N.2.2.2.2.2.2.2) := ⟨_, rfl⟩
  obtain ⟨Q1, eQ1⟩ : ∃ z : QS, z = (ox.2.1, ox.2.2.1, Q.2.2.1, ox.2.2.2, Q.2.2.2.2) := ⟨_, rfl⟩
  rw [← eN1, ← eQ1] at hI hR1
  refine w_ViA (wc := (wM cI cJ cZ (am 0) (am 1) (am 2) (am 3) (am 4) (am 5) (am 6) (am 7) (am 8) (am 9) (am 10) (am 11) (am 12) (am 13) M.1 M.2.1 M.2.2.1 M.2.2.2.1 M.2.2.2.2.1 M.2.2.2.2.2.1 M.2.2.2.2.2.2.1 M.2.2.2.2.2.2.2.1 M.2.2.2.2.2.2.2.2.1 M.2.2.2.2.2.2.2.2.2.1 M.2.2.2.2.2.2.2.2.2.2.1 M.2.2.2.2.2.2.2.2.2.2.2.1 M.2.2.2.2.2.2.2.2.2.2.2.2.1 M.2.2.2.2.2.2.2.2.2.2.2.2.2.1 M.2.2.2.2.2.2.2.2.2.2.2.2.2.2.1 M.2.2.2.2.2.2.2.2.2.2.2.2.2.2.2.1 M.2.2.2.2.2.2.2.2.2.2.2.2.2.2.2.2.1 M.2.2.2.2.2.2.2.2.2.2.2.2.2.2.2.2.2)) (wr := ((wX cI cJ cZ (ax 0) (ax 1) (ax 2) (ax 3) (ax 4) (ax 5) (ax 6) (ax 7) (ax 8) (ax 9) (ax 10) (ax 11) (vH C.1) (vPk C.2.1) (vT C.2.2) N1.1 N1.2.1 N1.2.2.1 N1.2.2.2.1 N1.2.2.2.2.1 N1.2.2.2.2.2.1 N1.2.2.2.2.2.2.1 N1.2.2.2.2.2.2.2 Q1.1 Q1.2.1 Q1.2.2.1 Q1.2.2.2.1 Q1.2.2.2.2) ++ (eH cI (ax 1) C.1 ++ (eP cI cZ (ax 1) C.2.1 ++ eT cJ (ax 1) C.2.2)))) (rest := [.int ox.1]) hx hb hml hg hown hK hA hI (pm_sw _ _ _) (kX8_square l D cI cJ cZ (am 0) (am 1) (am 2) (am 3) (am 4) (am 5) (am 6) (am 7) (am 8) (am 9) (am 10) (am 11) (am 12) (am 13) M.1 M.2.1 M.2.2.1 M.2.2.2.1 M.2.2.2.2.1 M.2.2.2.2.2.1 M.2.2.2.2.2.2.1 M.2.2.2.2.2.2.2.1 M.2.2.2.2.2.2.2.2.1 M.2.2.2.2.2.2.2.2.2.1 M.2.2.2.2.2.2.2.2.2.2.1 M.2.2.2.2.2.2.2.2.2.2.2.1 M.2.2.2.2.2.2.2.2.2.2.2.2.1 M.2.2.2.2.2.2.2.2.2.2.2.2.2.1 M.2.2.2.2.2.2.2.2.2.2.2.2.2.2.1 M.2.2.2.2.2.2.2.2.2.2.2.2.2.2.2.1 M.2.2.2.2.2.2.2.2.2.2.2.2.2.2.2.2.1 M.2.2.2.2.2.2.2.2.2.2.2.2.2.2.2.2.2 (xs (i + 1).toNatClampNeg) om hom) kvX8_square wL_RL_117 ⟨Nat.le_of_ble_eq_true rfl, Nat.le_of_ble_eq_true rfl⟩ rfl rfl rfl rfl hl.1 (Nat.le_of_ble_eq_true rfl) dL_law_720 ⟨by show cells + 0 + 0 ≤ 600000; omega, by show slots + 0 + 0 ≤ 7302250; omega⟩ (fun r u H locs hp hI => ?_)
  replace hp : r = om.1 := hp
  rw [hp]
  clear hp r
  replace hI := hI.ofPerm (pm_sw _ _ _)
  obtain ⟨M1, eM1⟩ : ∃ z : MS, z = (M.1, M.2.1, om.2.1, om.2.2.1, om.2.2.2, M.2.2.2.2.2.1, M.2.2.2.2.2.2.1, M.2.2.2.2.2.2.2.1, M.2.2.2.2.2.2.2.2.1, M.2.2.2.2.2.2.2.2.2.1, M.2.2.2.2.2.2.2.2.2.2.1, M.2.2.2.2.2.2.2.2.2.2.2.1, M.2.2.2.2.2.2.2.2.2.2.2.2.1, M.2.2.2.2.2.2.2.2.2.2.2.2.2.1, M.2.2.2.2.2.2.2.2.2.2.2.2.2.2.1, M.2.2.2.2.2.2.2.2.2.2.2.2.2.2.2.1, M.2.2.2.2.2.2.2.2.2.2.2.2.2.2.2.2.1, M.2.2.2.2.2.2.2.2.2.2.2.2.2.2.2.2.2) := ⟨_, rfl⟩
  rw [← eM1] at hR1
  replace hI : WI D (fun q : Nat => s.heap.size ≤ q) s.heap (WL cI cJ cZ ax am N1 Q1 M1 (C.1, C.2.1, C.2.2)) H locs := by rw [eM1]; exact hI
  refine lv_icmp_eq (tgt := 876) hx hb dL_law_723 (by decide) (fun hc => ?_) (fun hc => ?_)
  · exact hN N1 Q1 M1 _ H locs ls _ _ hR1 hI hl (by show cells + 0 + 0 ≤ cells + 4; omega) (by show slots + 0 + 0 ≤ slots + 4200; omega)
  · exact absurd hrt hc
set_option maxHeartbeats 4000000 in
set_option maxRecDepth 100000 in
theorem lo_hold {p : Program} {e : Env} {s : State} {m : MethodId} {below : List Frame} {meth : Method} {c : Code} (l : Launch) {b L : Nat} {xs : Nat → Int32} (C0 : lw_At p s m meth c b L xs) (D : va_G) (cI cJ cZ : ClassId) (hK : KK D cI cJ cZ s) (ax am : Nat → Nat) {i : Int32} (hi1 : vp_in (i + 1) L) (hi2 : vp_in (i + 2) L) (hi3 : vp_in (i + 3) L) {cells slots : Nat} (hcl : cells + 4 ≤ 600000) (hsl : slots + 4200 ≤ 7302250) (hN : NextP p l e s m below meth c b D cI cJ cZ ax am i cells slots) {N : NS} {Q : QS} {M : MS} (C : CS) (hR : Rel N Q M) {H : Heap} {locs : List Loc} {ls : Array Slot} (hI : WI D (fun q : Nat => s.heap.size ≤ q) s.heap (WL cI cJ cZ ax am N Q M C) H locs) (hl : lv_has ls 4 [(0, .ref b), (1, .ref (ax 0)), (2, .ref (am 0)), (3, .int i)]) : W p l e room_1 s m #[Value.ref b] below meth c H locs cells slots (lw_Z below #[Value.ref b] s) (F0 m 728 ls []) := by
  obtain ⟨hx, hb, hr, hml, hown, hts, hX, hbl, hlocks, hgv⟩ := id C0
  have hA : ∀ q : Nat, s.heap.size ≤ q → (fun q : Nat => s.heap.size ≤ q) q := fun _ h => h
  have hbA : ¬ (fun q : Nat => s.heap.size ≤ q) b := Nat.not_le.mpr hbl
  have hg : ∀ w ∈ GW, w.before #[Value.ref b] s = true := fun w h => hts w (gw_tbl h)
  replace hown : s.vm.findClass RL = some m.cls := hown
  refine lv_aload_n hx hb dL_law_728 rfl (lv_at hl 1 rfl) ?_
  refine lv_aload_n hx hb dL_law_729 rfl (lv_at hl 0 rfl) ?_
  refine lv_iload_n hx hb dL_law_730 rfl (lv_at hl 3 rfl) ?_
  refine lv_iconst (v := 1) hx hb dL_law_731 (by decide) ?_
  refine lv_iadd hx hb dL_law_732 ?_
  refine va_sld hx hb hX hbl hbA hI.2.2 hi1 dL_law_733 ?_
  obtain ⟨ox, om, hox, hom, hrt, hR1⟩ := op_hold hR (xs (i + 1).toNatClampNeg)
  refine w_ViA (wc := (wX cI cJ cZ (ax 0) (ax 1) (ax 2) (ax 3) (ax 4) (ax 5) (ax 6) (ax 7) (ax 8) (ax 9) (ax 10) (ax 11) (vH C.1) (vPk C.2.1) (vT C.2.2) N.1 N.2.1 N.2.2.1 N.2.2.2.1 N.2.2.2.2.1 N.2.2.2.2.2.1 N.2.2.2.2.2.2.1 N.2.2.2.2.2.2.2 Q.1 Q.2.1 Q.2.2.1 Q.2.2.2.1 Q.2.2.2.2)) (wr := ((wM cI cJ cZ (am 0) (am 1) (am 2) (am 3) (am 4) (am 5) (am 6) (am 7) (am 8) (am 9) (am 10) (am 11) (am 12) (am 13) M.1 M.2.1 M.2.2.1 M.2.2.2.1 M.2.2.2.2.1 M.2.2.2.2.2.1 M.2.2.2.2.2.2.1 M.2.2.2.2.2.2.2.1 M.2.2.2.2.2.2.2.2.1 M.2.2.2.2.2.2.2.2.2.1 M.2.2.2.2.2.2.2.2.2.2.1 M.2.2.2.2.2.2.2.2.2.2.2.1 M.2.2.2.2.2.2.2.2.2.2.2.2.1 M.2.2.2.2.2.2.2.2.2.2.2.2.2.1 M.2.2.2.2.2.2.2.2.2.2.2.2.2.2.1 M.2.2.2.2.2.2.2.2.2.2.2.2.2.2.2.1 M.2.2.2.2.2.2.2.2.2.2.2.2.2.2.2.2.1 M.2.2.2.2.2.2.2.2.2.2.2.2.2.2.2.2.2) ++ (eH cI (ax 1) C.1 ++ (eP cI cZ (ax 1) C.2.1 ++ eT cJ (ax 1) C.2.2)))) (rest := []) hx hb hml hg hown hK hA hI (List.Perm.refl _) (kX7_hold l D cI cJ cZ (ax 0) (ax 1) (ax 2) (ax 3) (ax 4) (ax 5) (ax 6) (ax 7) (ax 8) (ax 9) (ax 10) (ax 11) (vH C.1) (vPk C.2.1) (vT C.2.2) N.1 N.2.1 N.2.2.1 N.2.2.2.1 N.2.2.2.2.1 N.2.2.2.2.2.1 N.2.2.2.2.2.2.1 N.2.2.2.2.2.2.2 Q.1 Q.2.1 Q.2.2.1 Q.2.2.2.1 Q.2.2.2.2 (xs (i + 1).toNatClampNeg) ox hox) kvX7_hold wL_RL_118 ⟨Nat.le_of_ble_eq_true rfl, Nat.le_of_ble_eq_true rfl⟩ rfl rfl rfl rfl hl.1 (Nat.le_of_ble_eq_true rfl) dL_law_734 ⟨by show _ + 0 ≤ 600000; omega, by show _ + 0 ≤ 7302250; omega⟩ (fun r u H locs hp hI => ?_)
  replace hp : r = ox.1 := hp
  rw [hp]
  clear hp r
  replace hI : WI D (fun q : Nat => s.heap.size ≤ q) s.heap (WL cI cJ cZ ax am (N.1, N.2.1, N.2.2.1, N.2.2.2.1, N.2.2.2.2.1, N.2.2.2.2.2.1, N.2.2.2.2.2.2.1, N.2.2.2.2.2.2.2) (Q.1, ox.2.1, ox.2.2.1, ox.2.2.2, Q.2.2.2.2) M (C.1, C.2.1, C.2.2)) H locs := hI
  refine lv_aload_n hx hb dL_law_737 rfl (lv_at hl 2 rfl) ?_
  refine lv_aload_n hx hb dL_law_738 rfl (lv_at hl 0 rfl) ?_
  refine lv_iload_n hx hb dL_law_739 rfl (lv_at hl 3 rfl) ?_
  refine lv_iconst (v := 1) hx hb dL_law_740 (by decide) ?_
  refine lv_iadd hx hb dL_law_741 ?_
  refine va_sld hx hb hX hbl hbA hI.2.2 hi1 dL_law_742 ?_
  obtain ⟨N1, eN1⟩ : ∃ z : NS, z = (N.1, N.2.1, N.2.2.1, N.2.2.2.1, N.2.2.2.2.1, N.2.2.2.2.2.1, N.2.2.2.2.2.2.1, N.2.2.2.2.2.2.2) := ⟨_, rfl⟩
  obtain ⟨Q1, eQ1⟩ : ∃ z : QS, z = (Q.1, ox.2.1, ox.2.2.1, ox.2.2.2, Q.2.2.2.2) := ⟨_, rfl⟩
  rw [← eN1, ← eQ1] at hI hR1
  refine w_ViA (wc := (wM cI cJ cZ (am 0) (am 1) (am 2) (am 3) (am 4) (am 5) (am 6) (am 7) (am 8) (am 9) (am 10) (am 11) (am 12) (am 13) M.1 M.2.1 M.2.2.1 M.2.2.2.1 M.2.2.2.2.1 M.2.2.2.2.2.1 M.2.2.2.2.2.2.1 M.2.2.2.2.2.2.2.1 M.2.2.2.2.2.2.2.2.1 M.2.2.2.2.2.2.2.2.2.1 M.2.2.2.2.2.2.2.2.2.2.1 M.2.2.2.2.2.2.2.2.2.2.2.1 M.2.2.2.2.2.2.2.2.2.2.2.2.1 M.2.2.2.2.2.2.2.2.2.2.2.2.2.1 M.2.2.2.2.2.2.2.2.2.2.2.2.2.2.1 M.2.2.2.2.2.2.2.2.2.2.2.2.2.2.2.1 M.2.2.2.2.2.2.2.2.2.2.2.2.2.2.2.2.1 M.2.2.2.2.2.2.2.2.2.2.2.2.2.2.2.2.2)) (wr := ((wX cI cJ cZ (ax 0) (ax 1) (ax 2) (ax 3) (ax 4) (ax 5) (ax 6) (ax 7) (ax 8) (ax 9) (ax 10) (ax 11) (vH C.1) (vPk C.2.1) (vT C.2.2) N1.1 N1.2.1 N1.2.2.1 N1.2.2.2.1 N1.2.2.2.2.1 N1.2.2.2.2.2.1 N1.2.2.2.2.2.2.1 N1.2.2.2.2.2.2.2 Q1.1 Q1.2.1 Q1.2.2.1 Q1.2.2.2.1 Q1.2.2.2.2) ++ (eH cI (ax 1) C.1 ++ (eP cI cZ (ax 1) C.2.1 ++ eT cJ (ax 1) C.2.2)))) (rest := [.int ox.1]) hx hb hml hg hown hK hA hI (pm_sw _ _ _) (kX8_hold l D cI cJ cZ (am 0) (am 1) (am 2) (am 3) (am 4) (am 5) (am 6) (am 7) (am 8) (am 9) (am 10) (am 11) (am 12) (am 13) M.1 M.2.1 M.2.2.1 M.2.2.2.1 M.2.2.2.2.1 M.2.2.2.2.2.1 M.2.2.2.2.2.2.1 M.2.2.2.2.2.2.2.1 M.2.2.2.2.2.2.2.2.1 M.2.2.2.2.2.2.2.2.2.1 M.2.2.2.2.2.2.2.2.2.2.1 M.2.2.2.2.2.2.2.2.2.2.2.1 M.2.2.2.2.2.2.2.2.2.2.2.2.1 M.2.2.2.2.2.2.2.2.2.2.2.2.2.1 M.2.2.2.2.2.2.2.2.2.2.2.2.2.2.1 M.2.2.2.2.2.2.2.2.2.2.2.2.2.2.2.1 M.2.2.2.2.2.2.2.2.2.2.2.2.2.2.2.2.1 M.2.2.2.2.2.2.2.2.2.2.2.2.2.2.2.2.2 (xs (i + 1).toNatClampNeg) om hom) kvX8_hold wL_RL_121 ⟨Nat.le_of_ble_eq_true rfl, Nat.le_of_ble_eq_true rfl⟩ rfl rfl rfl rfl hl.1 (Nat.le_of_ble_eq_true rfl) dL_law_743 ⟨by show cells + 0 + 0 ≤ 600000; omega, by show slots + 0 + 0 ≤ 7302250; omega⟩ (fun r u H locs hp hI => ?_)
  replace hp : r = om.1 := hp
  rw [hp]
  clear hp r
  replace hI := hI.ofPerm (pm_sw _ _ _)
  obtain ⟨M1, eM1⟩ : ∃ z : MS, z = (M.1, M.2.1, M.2.2.1, om.2.1, om.2.2.1, M.2.2.2.2.2.1, M.2.2.2.2.2.2.1, M.2.2.2.2.2.2.2.1, M.2.2.2.2.2.2.2.2.1, om.2.2.2.1, M.2.2.2.2.2.2.2.2.2.2.1, M.2.2.2.2.2.2.2.2.2.2.2.1, M.2.2.2.2.2.2.2.2.2.2.2.2.1, M.2.2.2.2.2.2.2.2.2.2.2.2.2.1, M.2.2.2.2.2.2.2.2.2.2.2.2.2.2.1, M.2.2.2.2.2.2.2.2.2.2.2.2.2.2.2.1, M.2.2.2.2.2.2.2.2.2.2.2.2.2.2.2.2.1, om.2.2.2.2) := ⟨_, rfl⟩
  rw [← eM1] at hR1
  replace hI : WI D (fun q : Nat => s.heap.size ≤ q) s.heap (WL cI cJ cZ ax am N1 Q1 M1 (C.1, C.2.1, C.2.2)) H locs := by rw [eM1]; exact hI
  refine lv_icmp_eq (tgt := 876) hx hb dL_law_746 (by decide) (fun hc => ?_) (fun hc => ?_)
  · exact hN N1 Q1 M1 _ H locs ls _ _ hR1 hI hl (by show cells + 0 + 0 ≤ cells + 4; omega) (by show slots + 0 + 0 ≤ slots + 4200; omega)
  · exact absurd hrt hc
set_option maxHeartbeats 4000000 in
set_option maxRecDepth 100000 in
theorem lo_on {p : Program} {e : Env} {s : State} {m : MethodId} {below : List Frame} {meth : Method} {c : Code} (l : Launch) {b L : Nat} {xs : Nat → Int32} (C0 : lw_At p s m meth c b L xs) (D : va_G) (cI cJ cZ : ClassId) (hK : KK D cI cJ cZ s) (ax am : Nat → Nat) {i : Int32} (hi1 : vp_in (i + 1) L) (hi2 : vp_in (i + 2) L) (hi3 : vp_in (i + 3) L) {cells slots : Nat} (hcl : cells + 4 ≤ 600000) (hsl : slots + 4200 ≤ 7302250) (hN : NextP p l e s m below meth c b D cI cJ cZ ax am i cells slots) {N : NS} {Q : QS} {M : MS} (C : CS) (hR : Rel N Q M) {H : Heap} {locs : List Loc} {ls : Array Slot} (hI : WI D (fun q : Nat => s.heap.size ≤ q) s.heap (WL cI cJ cZ ax am N Q M C) H locs) (hl : lv_has ls 4 [(0, .ref b), (1, .ref (ax 0)), (2, .ref (am 0)), (3, .int i)]) : W p l e room_1 s m #[Value.ref b] below meth c H locs cells slots (lw_Z below #[Value.ref b] s) (F0 m 751 ls []) := by
  obtain ⟨hx, hb, hr, hml, hown, hts, hX, hbl, hlocks, hgv⟩ := id C0
  have hA : ∀ q : Nat, s.heap.size ≤ q → (fun q : Nat => s.heap.size ≤ q) q := fun _ h => h
  have hbA : ¬ (fun q : Nat => s.heap.size ≤ q) b := Nat.not_le.mpr hbl
  have hg : ∀ w ∈ GW, w.before #[Value.ref b] s = true := fun w h => hts w (gw_tbl h)
  replace hown : s.vm.findClass RL = some m.cls := hown
  refine lv_aload_n hx hb dL_law_751 rfl (lv_at hl 1 rfl) ?_
  obtain ⟨ox, om, hox, hom, hrt, hR1⟩ := op_on hR 
  refine w_ViA (wc := (wX cI cJ cZ (ax 0) (ax 1) (ax 2) (ax 3) (ax 4) (ax 5) (ax 6) (ax 7) (ax 8) (ax 9) (ax 10) (ax 11) (vH C.1) (vPk C.2.1) (vT C.2.2) N.1 N.2.1 N.2.2.1 N.2.2.2.1 N.2.2.2.2.1 N.2.2.2.2.2.1 N.2.2.2.2.2.2.1 N.2.2.2.2.2.2.2 Q.1 Q.2.1 Q.2.2.1 Q.2.2.2.1 Q.2.2.2.2)) (wr := ((wM cI cJ cZ (am 0) (am 1) (am 2) (am 3) (am 4) (am 5) (am 6) (am 7) (am 8) (am 9) (am 10) (am 11) (am 12) (am 13) M.1 M.2.1 M.2.2.1 M.2.2.2.1 M.2.2.2.2.1 M.2.2.2.2.2.1 M.2.2.2.2.2.2.1 M.2.2.2.2.2.2.2.1 M.2.2.2.2.2.2.2.2.1 M.2.2.2.2.2.2.2.2.2.1 M.2.2.2.2.2.2.2.2.2.2.1 M.2.2.2.2.2.2.2.2.2.2.2.1 M.2.2.2.2.2.2.2.2.2.2.2.2.1 M.2.2.2.2.2.2.2.2.2.2.2.2.2.1 M.2.2.2.2.2.2.2.2.2.2.2.2.2.2.1 M.2.2.2.2.2.2.2.2.2.2.2.2.2.2.2.1 M.2.2.2.2.2.2.2.2.2.2.2.2.2.2.2.2.1 M.2.2.2.2.2.2.2.2.2.2.2.2.2.2.2.2.2) ++ (eH cI (ax 1) C.1 ++ (eP cI cZ (ax 1) C.2.1 ++ eT cJ (ax 1) C.2.2)))) (rest := []) hx hb hml hg hown hK hA hI (List.Perm.refl _) (kX7_on l D cI cJ cZ (ax 0) (ax 1) (ax 2) (ax 3) (ax 4) (ax 5) (ax 6) (ax 7) (ax 8) (ax 9) (ax 10) (ax 11) (vH C.1) (vPk C.2.1) (vT C.2.2) N.1 N.2.1 N.2.2.1 N.2.2.2.1 N.2.2.2.2.1 N.2.2.2.2.2.1 N.2.2.2.2.2.2.1 N.2.2.2.2.2.2.2 Q.1 Q.2.1 Q.2.2.1 Q.2.2.2.1 Q.2.2.2.2  ox hox) kvX7_on wL_RL_122 ⟨Nat.le_of_ble_eq_true rfl, Nat.le_of_ble_eq_true rfl⟩ rfl rfl rfl rfl hl.1 (Nat.le_of_ble_eq_true rfl) dL_law_752 ⟨by show _ + 0 ≤ 600000; omega, by show _ + 0 ≤ 7302250; omega⟩ (fun r u H locs hp hI => ?_)
  replace hp : r = ox.1 := hp
  rw [hp]
  clear hp r
  replace hI : WI D (fun q : Nat => s.heap.size ≤ q) s.heap (WL cI cJ cZ ax am (N.1, N.2.1, N.2.2.1, N.2.2.2.1, N.2.2.2.2.1, N.2.2.2.2.2.1, N.2.2.2.2.2.2.1, N.2.2.2.2.2.2.2) (Q.1, ox.2.1, ox.2.2.1, ox.2.2.2.1, ox.2.2.2.2) M (C.1, C.2.1, C.2.2)) H locs := hI
  refine lv_aload_n hx hb dL_law_755 rfl (lv_at hl 2 rfl) ?_
  obtain ⟨N1, eN1⟩ : ∃ z : NS, z = (N.1, N.2.1, N.2.2.1, N.2.2.2.1, N.2.2.2.2.1, N.2.2.2.2.2.1, N.2.2.2.2.2.2.1, N.2.2.2.2.2.2.2) := ⟨_, rfl⟩
  obtain ⟨Q1, eQ1⟩ : ∃ z : QS, z = (Q.1, ox.2.1, ox.2.2.1, ox.2.2.2.1, ox.2.2.2.2) := ⟨_, rfl⟩
  rw [← eN1, ← eQ1] at hI hR1
  refine w_ViA (wc := (wM cI cJ cZ (am 0) (am 1) (am 2) (am 3) (am 4) (am 5) (am 6) (am 7) (am 8) (am 9) (am 10) (am 11) (am 12) (am 13) M.1 M.2.1 M.2.2.1 M.2.2.2.1 M.2.2.2.2.1 M.2.2.2.2.2.1 M.2.2.2.2.2.2.1 M.2.2.2.2.2.2.2.1 M.2.2.2.2.2.2.2.2.1 M.2.2.2.2.2.2.2.2.2.1 M.2.2.2.2.2.2.2.2.2.2.1 M.2.2.2.2.2.2.2.2.2.2.2.1 M.2.2.2.2.2.2.2.2.2.2.2.2.1 M.2.2.2.2.2.2.2.2.2.2.2.2.2.1 M.2.2.2.2.2.2.2.2.2.2.2.2.2.2.1 M.2.2.2.2.2.2.2.2.2.2.2.2.2.2.2.1 M.2.2.2.2.2.2.2.2.2.2.2.2.2.2.2.2.1 M.2.2.2.2.2.2.2.2.2.2.2.2.2.2.2.2.2)) (wr := ((wX cI cJ cZ (ax 0) (ax 1) (ax 2) (ax 3) (ax 4) (ax 5) (ax 6) (ax 7) (ax 8) (ax 9) (ax 10) (ax 11) (vH C.1) (vPk C.2.1) (vT C.2.2) N1.1 N1.2.1 N1.2.2.1 N1.2.2.2.1 N1.2.2.2.2.1 N1.2.2.2.2.2.1 N1.2.2.2.2.2.2.1 N1.2.2.2.2.2.2.2 Q1.1 Q1.2.1 Q1.2.2.1 Q1.2.2.2.1 Q1.2.2.2.2) ++ (eH cI (ax 1) C.1 ++ (eP cI cZ (ax 1) C.2.1 ++ eT cJ (ax 1) C.2.2)))) (rest := [.int ox.1]) hx hb hml hg hown hK hA hI (pm_sw _ _ _) (kX8_on l D cI cJ cZ (am 0) (am 1) (am 2) (am 3) (am 4) (am 5) (am 6) (am 7) (am 8) (am 9) (am 10) (am 11) (am 12) (am 13) M.1 M.2.1 M.2.2.1 M.2.2.2.1 M.2.2.2.2.1 M.2.2.2.2.2.1 M.2.2.2.2.2.2.1 M.2.2.2.2.2.2.2.1 M.2.2.2.2.2.2.2.2.1 M.2.2.2.2.2.2.2.2.2.1 M.2.2.2.2.2.2.2.2.2.2.1 M.2.2.2.2.2.2.2.2.2.2.2.1 M.2.2.2.2.2.2.2.2.2.2.2.2.1 M.2.2.2.2.2.2.2.2.2.2.2.2.2.1 M.2.2.2.2.2.2.2.2.2.2.2.2.2.2.1 M.2.2.2.2.2.2.2.2.2.2.2.2.2.2.2.1 M.2.2.2.2.2.2.2.2.2.2.2.2.2.2.2.2.1 M.2.2.2.2.2.2.2.2.2.2.2.2.2.2.2.2.2  om hom) kvX8_on wL_RL_125 ⟨Nat.le_of_ble_eq_true rfl, Nat.le_of_ble_eq_true rfl⟩ rfl rfl rfl rfl hl.1 (Nat.le_of_ble_eq_true rfl) dL_law_756 ⟨by show cells + 0 + 0 ≤ 600000; omega, by show slots + 0 + 0 ≤ 7302250; omega⟩ (fun r u H locs hp hI => ?_)
  replace hp : r = om.1 := hp
  rw [hp]
  clear hp r
  replace hI := hI.ofPerm (pm_sw _ _ _)
  obtain ⟨M1, eM1⟩ : ∃ z : MS, z = (M.1, M.2.1, M.2.2.1, om.2.1, om.2.2.1, M.2.2.2.2.2.1, M.2.2.2.2.2.2.1, M.2.2.2.2.2.2.2.1, M.2.2.2.2.2.2.2.2.1, om.2.2.2.1, M.2.2.2.2.2.2.2.2.2.2.1, M.2.2.2.2.2.2.2.2.2.2.2.1, M.2.2.2.2.2.2.2.2.2.2.2.2.1, M.2.2.2.2.2.2.2.2.2.2.2.2.2.1, M.2.2.2.2.2.2.2.2.2.2.2.2.2.2.1, M.2.2.2.2.2.2.2.2.2.2.2.2.2.2.2.1, M.2.2.2.2.2.2.2.2.2.2.2.2.2.2.2.2.1, om.2.2.2.2) := ⟨_, rfl⟩
  rw [← eM1] at hR1
  replace hI : WI D (fun q : Nat => s.heap.size ≤ q) s.heap (WL cI cJ cZ ax am N1 Q1 M1 (C.1, C.2.1, C.2.2)) H locs := by rw [eM1]; exact hI
  refine lv_icmp_eq (tgt := 876) hx hb dL_law_759 (by decide) (fun hc => ?_) (fun hc => ?_)
  · exact hN N1 Q1 M1 _ H locs ls _ _ hR1 hI hl (by show cells + 0 + 0 ≤ cells + 4; omega) (by show slots + 0 + 0 ≤ slots + 4200; omega)
  · exact absurd hrt hc
set_option maxHeartbeats 4000000 in
set_option maxRecDepth 100000 in
theorem lo_rows {p : Program} {e : Env} {s : State} {m : MethodId} {below : List Frame} {meth : Method} {c : Code} (l : Launch) {b L : Nat} {xs : Nat → Int32} (C0 : lw_At p s m meth c b L xs) (D : va_G) (cI cJ cZ : ClassId) (hK : KK D cI cJ cZ s) (ax am : Nat → Nat) {i : Int32} (hi1 : vp_in (i + 1) L) (hi2 : vp_in (i + 2) L) (hi3 : vp_in (i + 3) L) {cells slots : Nat} (hcl : cells + 4 ≤ 600000) (hsl : slots + 4200 ≤ 7302250) (hN : NextP p l e s m below meth c b D cI cJ cZ ax am i cells slots) {N : NS} {Q : QS} {M : MS} (C : CS) (hR : Rel N Q M) {H : Heap} {locs : List Loc} {ls : Array Slot} (hI : WI D (fun q : Nat => s.heap.size ≤ q) s.heap (WL cI cJ cZ ax am N Q M C) H locs) (hl : lv_has ls 4 [(0, .ref b), (1, .ref (ax 0)), (2, .ref (am 0)), (3, .int i)]) : W p l e room_1 s m #[Value.ref b] below meth c H locs cells slots (lw_Z below #[Value.ref b] s) (F0 m 764 ls []) := by
  obtain ⟨hx, hb, hr, hml, hown, hts, hX, hbl, hlocks, hgv⟩ := id C0
  have hA : ∀ q : Nat, s.heap.size ≤ q → (fun q : Nat => s.heap.size ≤ q) q := fun _ h => h
  have hbA : ¬ (fun q : Nat => s.heap.size ≤ q) b := Nat.not_le.mpr hbl
  have hg : ∀ w ∈ GW, w.before #[Value.ref b] s = true := fun w h => hts w (gw_tbl h)
  replace hown : s.vm.findClass RL = some m.cls := hown
  refine lv_aload_n hx hb dL_law_764 rfl (lv_at hl 1 rfl) ?_
  obtain ⟨ox, om, hox, hom, hrt, hR1⟩ := op_rows hR 
  refine w_ViA (wc := (wX cI cJ cZ (ax 0) (ax 1) (ax 2) (ax 3) (ax 4) (ax 5) (ax 6) (ax 7) (ax 8) (ax 9) (ax 10) (ax 11) (vH C.1) (vPk C.2.1) (vT C.2.2) N.1 N.2.1 N.2.2.1 N.2.2.2.1 N.2.2.2.2.1 N.2.2.2.2.2.1 N.2.2.2.2.2.2.1 N.2.2.2.2.2.2.2 Q.1 Q.2.1 Q.2.2.1 Q.2.2.2.1 Q.2.2.2.2)) (wr := ((wM cI cJ cZ (am 0) (am 1) (am 2) (am 3) (am 4) (am 5) (am 6) (am 7) (am 8) (am 9) (am 10) (am 11) (am 12) (am 13) M.1 M.2.1 M.2.2.1 M.2.2.2.1 M.2.2.2.2.1 M.2.2.2.2.2.1 M.2.2.2.2.2.2.1 M.2.2.2.2.2.2.2.1 M.2.2.2.2.2.2.2.2.1 M.2.2.2.2.2.2.2.2.2.1 M.2.2.2.2.2.2.2.2.2.2.1 M.2.2.2.2.2.2.2.2.2.2.2.1 M.2.2.2.2.2.2.2.2.2.2.2.2.1 M.2.2.2.2.2.2.2.2.2.2.2.2.2.1 M.2.2.2.2.2.2.2.2.2.2.2.2.2.2.1 M.2.2.2.2.2.2.2.2.2.2.2.2.2.2.2.1 M.2.2.2.2.2.2.2.2.2.2.2.2.2.2.2.2.1 M.2.2.2.2.2.2.2.2.2.2.2.2.2.2.2.2.2) ++ (eH cI (ax 1) C.1 ++ (eP cI cZ (ax 1) C.2.1 ++ eT cJ (ax 1) C.2.2)))) (rest := []) hx hb hml hg hown hK hA hI (List.Perm.refl _) (kX7_rows l D cI cJ cZ (ax 0) (ax 1) (ax 2) (ax 3) (ax 4) (ax 5) (ax 6) (ax 7) (ax 8) (ax 9) (ax 10) (ax 11) (vH C.1) (vPk C.2.1) (vT C.2.2) N.1 N.2.1 N.2.2.1 N.2.2.2.1 N.2.2.2.2.1 N.2.2.2.2.2.1 N.2.2.2.2.2.2.1 N.2.2.2.2.2.2.2 Q.1 Q.2.1 Q.2.2.1 Q.2.2.2.1 Q.2.2.2.2  ox hox) kvX7_rows wL_RL_126 ⟨Nat.le_of_ble_eq_true rfl, Nat.le_of_ble_eq_true rfl⟩ rfl rfl rfl rfl hl.1 (Nat.le_of_ble_eq_true rfl) dL_law_765 ⟨by show _ + 0 ≤ 600000; omega, by show _ + 0 ≤ 7302250; omega⟩ (fun r u H locs hp hI => ?_)
  replace hp : r = ox.1 := hp
  rw [hp]
  clear hp r
  replace hI : WI D (fun q : Nat => s.heap.size ≤ q) s.heap (WL cI cJ cZ ax am (N.1, N.2.1, N.2.2.1, N.2.2.2.1, N.2.2.2.2.1, N.2.2.2.2.2.1, N.2.2.2.2.2.2.1, N.2.2.2.2.2.2.2) (Q.1, Q.2.1, Q.2.2.1, Q.2.2.2.1, ox.2) M (C.1, C.2.1, C.2.2)) H locs := hI
  refine lv_aload_n hx hb dL_law_768 rfl (lv_at hl 2 rfl) ?_
  obtain ⟨N1, eN1⟩ : ∃ z : NS, z = (N.1, N.2.1, N.2.2.1, N.2.2.2.1, N.2.2.2.2.1, N.2.2.2.2.2.1, N.2.2.2.2.2.2.1, N.2.2.2.2.2.2.2) := ⟨_, rfl⟩
  obtain ⟨Q1, eQ1⟩ : ∃ z : QS, z = (Q.1, Q.2.1, Q.2.2.1, Q.2.2.2.1, ox.2) := ⟨_, rfl⟩
  rw [← eN1, ← eQ1] at hI hR1
  refine w_ViA (wc := (wM cI cJ cZ (am 0) (am 1) (am 2) (am 3) (am 4) (am 5) (am 6) (am 7) (am 8) (am 9) (am 10) (am 11) (am 12) (am 13) M.1 M.2.1 M.2.2.1 M.2.2.2.1 M.2.2.2.2.1 M.2.2.2.2.2.1 M.2.2.2.2.2.2.1 M.2.2.2.2.2.2.2.1 M.2.2.2.2.2.2.2.2.1 M.2.2.2.2.2.2.2.2.2.1 M.2.2.2.2.2.2.2.2.2.2.1 M.2.2.2.2.2.2.2.2.2.2.2.1 M.2.2.2.2.2.2.2.2.2.2.2.2.1 M.2.2.2.2.2.2.2.2.2.2.2.2.2.1 M.2.2.2.2.2.2.2.2.2.2.2.2.2.2.1 M.2.2.2.2.2.2.2.2.2.2.2.2.2.2.2.1 M.2.2.2.2.2.2.2.2.2.2.2.2.2.2.2.2.1 M.2.2.2.2.2.2.2.2.2.2.2.2.2.2.2.2.2)) (wr := ((wX cI cJ cZ (ax 0) (ax 1) (ax 2) (ax 3) (ax 4) (ax 5) (ax 6) (ax 7) (ax 8) (ax 9) (ax 10) (ax 11) (vH C.1) (vPk C.2.1) (vT C.2.2) N1.1 N1.2.1 N1.2.2.1 N1.2.2.2.1 N1.2.2.2.2.1 N1.2.2.2.2.2.1 N1.2.2.2.2.2.2.1 N1.2.2.2.2.2.2.2 Q1.1 Q1.2.1 Q1.2.2.1 Q1.2.2.2.1 Q1.2.2.2.2) ++ (eH cI (ax 1) C.1 ++ (eP cI cZ (ax 1) C.2.1 ++ eT cJ (ax 1) C.2.2)))) (rest := [.int ox.1]) hx hb hml hg hown hK hA hI (pm_sw _ _ _) (kX8_rows l D cI cJ cZ (am 0) (am 1) (am 2) (am 3) (am 4) (am 5) (am 6) (am 7) (am 8) (am 9) (am 10) (am 11) (am 12) (am 13) M.1 M.2.1 M.2.2.1 M.2.2.2.1 M.2.2.2.2.1 M.2.2.2.2.2.1 M.2.2.2.2.2.2.1 M.2.2.2.2.2.2.2.1 M.2.2.2.2.2.2.2.2.1 M.2.2.2.2.2.2.2.2.2.1 M.2.2.2.2.2.2.2.2.2.2.1 M.2.2.2.2.2.2.2.2.2.2.2.1 M.2.2.2.2.2.2.2.2.2.2.2.2.1 M.2.2.2.2.2.2.2.2.2.2.2.2.2.1 M.2.2.2.2.2.2.2.2.2.2.2.2.2.2.1 M.2.2.2.2.2.2.2.2.2.2.2.2.2.2.2.1 M.2.2.2.2.2.2.2.2.2.2.2.2.2.2.2.2.1 M.2.2.2.2.2.2.2.2.2.2.2.2.2.2.2.2.2  om hom) kvX8_rows wL_RL_129 ⟨Nat.le_of_ble_eq_true rfl, Nat.le_of_ble_eq_true rfl⟩ rfl rfl rfl rfl hl.1 (Nat.le_of_ble_eq_true rfl) dL_law_769 ⟨by show cells + 0 + 0 ≤ 600000; omega, by show slots + 0 + 0 ≤ 7302250; omega⟩ (fun r u H locs hp hI => ?_)
  replace hp : r = om.1 := hp
  rw [hp]
  clear hp r
  replace hI := hI.ofPerm (pm_sw _ _ _)
  obtain ⟨M1, eM1⟩ : ∃ z : MS, z = (M.1, M.2.1, M.2.2.1, M.2.2.2.1, om.2.1, M.2.2.2.2.2.1, M.2.2.2.2.2.2.1, M.2.2.2.2.2.2.2.1, M.2.2.2.2.2.2.2.2.1, M.2.2.2.2.2.2.2.2.2.1, M.2.2.2.2.2.2.2.2.2.2.1, M.2.2.2.2.2.2.2.2.2.2.2.1, M.2.2.2.2.2.2.2.2.2.2.2.2.1, M.2.2.2.2.2.2.2.2.2.2.2.2.2.1, M.2.2.2.2.2.2.2.2.2.2.2.2.2.2.1, M.2.2.2.2.2.2.2.2.2.2.2.2.2.2.2.1, M.2.2.2.2.2.2.2.2.2.2.2.2.2.2.2.2.1, om.2.2) := ⟨_, rfl⟩
  rw [← eM1] at hR1
  replace hI : WI D (fun q : Nat => s.heap.size ≤ q) s.heap (WL cI cJ cZ ax am N1 Q1 M1 (C.1, C.2.1, C.2.2)) H locs := by rw [eM1]; exact hI
  refine lv_icmp_eq (tgt := 876) hx hb dL_law_772 (by decide) (fun hc => ?_) (fun hc => ?_)
  · exact hN N1 Q1 M1 _ H locs ls _ _ hR1 hI hl (by show cells + 0 + 0 ≤ cells + 4; omega) (by show slots + 0 + 0 ≤ slots + 4200; omega)
  · exact absurd hrt hc
set_option maxHeartbeats 4000000 in
set_option maxRecDepth 100000 in
theorem lo_at {p : Program} {e : Env} {s : State} {m : MethodId} {below : List Frame} {meth : Method} {c : Code} (l : Launch) {b L : Nat} {xs : Nat → Int32} (C0 : lw_At p s m meth c b L xs) (D : va_G) (cI cJ cZ : ClassId) (hK : KK D cI cJ cZ s) (ax am : Nat → Nat) {i : Int32} (hi1 : vp_in (i + 1) L) (hi2 : vp_in (i + 2) L) (hi3 : vp_in (i + 3) L) {cells slots : Nat} (hcl : cells + 4 ≤ 600000) (hsl : slots + 4200 ≤ 7302250) (hN : NextP p l e s m below meth c b D cI cJ cZ ax am i cells slots) {N : NS} {Q : QS} {M : MS} (C : CS) (hR : Rel N Q M) {H : Heap} {locs : List Loc} {ls : Array Slot} (hI : WI D (fun q : Nat => s.heap.size ≤ q) s.heap (WL cI cJ cZ ax am N Q M C) H locs) (hl : lv_has ls 4 [(0, .ref b), (1, .ref (ax 0)), (2, .ref (am 0)), (3, .int i)]) : W p l e room_1 s m #[Value.ref b] below meth c H locs cells slots (lw_Z below #[Value.ref b] s) (F0 m 777 ls []) := by
  obtain ⟨hx, hb, hr, hml, hown, hts, hX, hbl, hlocks, hgv⟩ := id C0
  have hA : ∀ q : Nat, s.heap.size ≤ q → (fun q : Nat => s.heap.size ≤ q) q := fun _ h => h
  have hbA : ¬ (fun q : Nat => s.heap.size ≤ q) b := Nat.not_le.mpr hbl
  have hg : ∀ w ∈ GW, w.before #[Value.ref b] s = true := fun w h => hts w (gw_tbl h)
  replace hown : s.vm.findClass RL = some m.cls := hown
  refine lv_aload_n hx hb dL_law_777 rfl (lv_at hl 1 rfl) ?_
  refine lv_aload_n hx hb dL_law_778 rfl (lv_at hl 0 rfl) ?_
  refine lv_iload_n hx hb dL_law_779 rfl (lv_at hl 3 rfl) ?_
  refine lv_iconst (v := 1) hx hb dL_law_780 (by decide) ?_
  refine lv_iadd hx hb dL_law_781 ?_
  refine va_sld hx hb hX hbl hbA hI.2.2 hi1 dL_law_782 ?_
  refine lv_aload_n hx hb dL_law_783 rfl (lv_at hl 0 rfl) ?_
  refine lv_iload_n hx hb dL_law_784 rfl (lv_at hl 3 rfl) ?_
  refine lv_iconst (v := 2) hx hb dL_law_785 (by decide) ?_
  refine lv_iadd hx hb dL_law_786 ?_
  refine va_sld hx hb hX hbl hbA hI.2.2 hi2 dL_law_787 ?_
  obtain ⟨ox, om, hox, hom, hrt, hR1⟩ := op_at hR (xs (i + 1).toNatClampNeg) (xs (i + 2).toNatClampNeg)
  refine w_ViA (wc := (wX cI cJ cZ (ax 0) (ax 1) (ax 2) (ax 3) (ax 4) (ax 5) (ax 6) (ax 7) (ax 8) (ax 9) (ax 10) (ax 11) (vH C.1) (vPk C.2.1) (vT C.2.2) N.1 N.2.1 N.2.2.1 N.2.2.2.1 N.2.2.2.2.1 N.2.2.2.2.2.1 N.2.2.2.2.2.2.1 N.2.2.2.2.2.2.2 Q.1 Q.2.1 Q.2.2.1 Q.2.2.2.1 Q.2.2.2.2)) (wr := ((wM cI cJ cZ (am 0) (am 1) (am 2) (am 3) (am 4) (am 5) (am 6) (am 7) (am 8) (am 9) (am 10) (am 11) (am 12) (am 13) M.1 M.2.1 M.2.2.1 M.2.2.2.1 M.2.2.2.2.1 M.2.2.2.2.2.1 M.2.2.2.2.2.2.1 M.2.2.2.2.2.2.2.1 M.2.2.2.2.2.2.2.2.1 M.2.2.2.2.2.2.2.2.2.1 M.2.2.2.2.2.2.2.2.2.2.1 M.2.2.2.2.2.2.2.2.2.2.2.1 M.2.2.2.2.2.2.2.2.2.2.2.2.1 M.2.2.2.2.2.2.2.2.2.2.2.2.2.1 M.2.2.2.2.2.2.2.2.2.2.2.2.2.2.1 M.2.2.2.2.2.2.2.2.2.2.2.2.2.2.2.1 M.2.2.2.2.2.2.2.2.2.2.2.2.2.2.2.2.1 M.2.2.2.2.2.2.2.2.2.2.2.2.2.2.2.2.2) ++ (eH cI (ax 1) C.1 ++ (eP cI cZ (ax 1) C.2.1 ++ eT cJ (ax 1) C.2.2)))) (rest := []) hx hb hml hg hown hK hA hI (List.Perm.refl _) (kX7_at l D cI cJ cZ (ax 0) (ax 1) (ax 2) (ax 3) (ax 4) (ax 5) (ax 6) (ax 7) (ax 8) (ax 9) (ax 10) (ax 11) (vH C.1) (vPk C.2.1) (vT C.2.2) N.1 N.2.1 N.2.2.1 N.2.2.2.1 N.2.2.2.2.1 N.2.2.2.2.2.1 N.2.2.2.2.2.2.1 N.2.2.2.2.2.2.2 Q.1 Q.2.1 Q.2.2.1 Q.2.2.2.1 Q.2.2.2.2 (xs (i + 1).toNatClampNeg) (xs (i + 2).toNatClampNeg) ox hox) kvX7_at wL_RL_130 ⟨Nat.le_of_ble_eq_true rfl, Nat.le_of_ble_eq_true rfl⟩ rfl rfl rfl rfl hl.1 (Nat.le_of_ble_eq_true rfl) dL_law_788 ⟨by show _ + 0 ≤ 600000; omega, by show _ + 0 ≤ 7302250; omega⟩ (fun r u H locs hp hI => ?_)
  replace hp : r = ox := hp
  rw [hp]
  clear hp r
  replace hI : WI D (fun q : Nat => s.heap.size ≤ q) s.heap (WL cI cJ cZ ax am (N.1, N.2.1, N.2.2.1, N.2.2.2.1, N.2.2.2.2.1, N.2.2.2.2.2.1, N.2.2.2.2.2.2.1, N.2.2.2.2.2.2.2) (Q.1, Q.2.1, Q.2.2.1, Q.2.2.2.1, Q.2.2.2.2) M (C.1, C.2.1, C.2.2)) H locs := hI
  refine lv_aload_n hx hb dL_law_791 rfl (lv_at hl 2 rfl) ?_
  refine lv_aload_n hx hb dL_law_792 rfl (lv_at hl 0 rfl) ?_
  refine lv_iload_n hx hb dL_law_793 rfl (lv_at hl 3 rfl) ?_
  refine lv_iconst (v := 1) hx hb dL_law_794 (by decide) ?_
  refine lv_iadd hx hb dL_law_795 ?_
  refine va_sld hx hb hX hbl hbA hI.2.2 hi1 dL_law_796 ?_
  refine lv_aload_n hx hb dL_law_797 rfl (lv_at hl 0 rfl) ?_
  refine lv_iload_n hx hb dL_law_798 rfl (lv_at hl 3 rfl) ?_
  refine lv_iconst (v := 2) hx hb dL_law_799 (by decide) ?_
  refine lv_iadd hx hb dL_law_800 ?_
  refine va_sld hx hb hX hbl hbA hI.2.2 hi2 dL_law_801 ?_
  obtain ⟨N1, eN1⟩ : ∃ z : NS, z = (N.1, N.2.1, N.2.2.1, N.2.2.2.1, N.2.2.2.2.1, N.2.2.2.2.2.1, N.2.2.2.2.2.2.1, N.2.2.2.2.2.2.2) := ⟨_, rfl⟩
  obtain ⟨Q1, eQ1⟩ : ∃ z : QS, z = (Q.1, Q.2.1, Q.2.2.1, Q.2.2.2.1, Q.2.2.2.2) := ⟨_, rfl⟩
  rw [← eN1, ← eQ1] at hI hR1
  refine w_ViA (wc := (wM cI cJ cZ (am 0) (am 1) (am 2) (am 3) (am 4) (am 5) (am 6) (am 7) (am 8) (am 9) (am 10) (am 11) (am 12) (am 13) M.1 M.2.1 M.2.2.1 M.2.2.2.1 M.2.2.2.2.1 M.2.2.2.2.2.1 M.2.2.2.2.2.2.1 M.2.2.2.2.2.2.2.1 M.2.2.2.2.2.2.2.2.1 M.2.2.2.2.2.2.2.2.2.1 M.2.2.2.2.2.2.2.2.2.2.1 M.2.2.2.2.2.2.2.2.2.2.2.1 M.2.2.2.2.2.2.2.2.2.2.2.2.1 M.2.2.2.2.2.2.2.2.2.2.2.2.2.1 M.2.2.2.2.2.2.2.2.2.2.2.2.2.2.1 M.2.2.2.2.2.2.2.2.2.2.2.2.2.2.2.1 M.2.2.2.2.2.2.2.2.2.2.2.2.2.2.2.2.1 M.2.2.2.2.2.2.2.2.2.2.2.2.2.2.2.2.2)) (wr := ((wX cI cJ cZ (ax 0) (ax 1) (ax 2) (ax 3) (ax 4) (ax 5) (ax 6) (ax 7) (ax 8) (ax 9) (ax 10) (ax 11) (vH C.1) (vPk C.2.1) (vT C.2.2) N1.1 N1.2.1 N1.2.2.1 N1.2.2.2.1 N1.2.2.2.2.1 N1.2.2.2.2.2.1 N1.2.2.2.2.2.2.1 N1.2.2.2.2.2.2.2 Q1.1 Q1.2.1 Q1.2.2.1 Q1.2.2.2.1 Q1.2.2.2.2) ++ (eH cI (ax 1) C.1 ++ (eP cI cZ (ax 1) C.2.1 ++ eT cJ (ax 1) C.2.2)))) (rest := [.int ox]) hx hb hml hg hown hK hA hI (pm_sw _ _ _) (kX8_at l D cI cJ cZ (am 0) (am 1) (am 2) (am 3) (am 4) (am 5) (am 6) (am 7) (am 8) (am 9) (am 10) (am 11) (am 12) (am 13) M.1 M.2.1 M.2.2.1 M.2.2.2.1 M.2.2.2.2.1 M.2.2.2.2.2.1 M.2.2.2.2.2.2.1 M.2.2.2.2.2.2.2.1 M.2.2.2.2.2.2.2.2.1 M.2.2.2.2.2.2.2.2.2.1 M.2.2.2.2.2.2.2.2.2.2.1 M.2.2.2.2.2.2.2.2.2.2.2.1 M.2.2.2.2.2.2.2.2.2.2.2.2.1 M.2.2.2.2.2.2.2.2.2.2.2.2.2.1 M.2.2.2.2.2.2.2.2.2.2.2.2.2.2.1 M.2.2.2.2.2.2.2.2.2.2.2.2.2.2.2.1 M.2.2.2.2.2.2.2.2.2.2.2.2.2.2.2.2.1 M.2.2.2.2.2.2.2.2.2.2.2.2.2.2.2.2.2 (xs (i + 1).toNatClampNeg) (xs (i + 2).toNatClampNeg) om hom) kvX8_at wL_RL_133 ⟨Nat.le_of_ble_eq_true rfl, Nat.le_of_ble_eq_true rfl⟩ rfl rfl rfl rfl hl.1 (Nat.le_of_ble_eq_true rfl) dL_law_802 ⟨by show cells + 0 + 0 ≤ 600000; omega, by show slots + 0 + 0 ≤ 7302250; omega⟩ (fun r u H locs hp hI => ?_)
  replace hp : r = om := hp
  rw [hp]
  clear hp r
  replace hI := hI.ofPerm (pm_sw _ _ _)
  obtain ⟨M1, eM1⟩ : ∃ z : MS, z = (M.1, M.2.1, M.2.2.1, M.2.2.2.1, M.2.2.2.2.1, M.2.2.2.2.2.1, M.2.2.2.2.2.2.1, M.2.2.2.2.2.2.2.1, M.2.2.2.2.2.2.2.2.1, M.2.2.2.2.2.2.2.2.2.1, M.2.2.2.2.2.2.2.2.2.2.1, M.2.2.2.2.2.2.2.2.2.2.2.1, M.2.2.2.2.2.2.2.2.2.2.2.2.1, M.2.2.2.2.2.2.2.2.2.2.2.2.2.1, M.2.2.2.2.2.2.2.2.2.2.2.2.2.2.1, M.2.2.2.2.2.2.2.2.2.2.2.2.2.2.2.1, M.2.2.2.2.2.2.2.2.2.2.2.2.2.2.2.2.1, M.2.2.2.2.2.2.2.2.2.2.2.2.2.2.2.2.2) := ⟨_, rfl⟩
  rw [← eM1] at hR1
  replace hI : WI D (fun q : Nat => s.heap.size ≤ q) s.heap (WL cI cJ cZ ax am N1 Q1 M1 (C.1, C.2.1, C.2.2)) H locs := by rw [eM1]; exact hI
  refine lv_icmp_eq (tgt := 876) hx hb dL_law_805 (by decide) (fun hc => ?_) (fun hc => ?_)
  · exact hN N1 Q1 M1 _ H locs ls _ _ hR1 hI hl (by show cells + 0 + 0 ≤ cells + 4; omega) (by show slots + 0 + 0 ≤ slots + 4200; omega)
  · exact absurd hrt hc
set_option maxHeartbeats 4000000 in
set_option maxRecDepth 100000 in
theorem lo_meets {p : Program} {e : Env} {s : State} {m : MethodId} {below : List Frame} {meth : Method} {c : Code} (l : Launch) {b L : Nat} {xs : Nat → Int32} (C0 : lw_At p s m meth c b L xs) (D : va_G) (cI cJ cZ : ClassId) (hK : KK D cI cJ cZ s) (ax am : Nat → Nat) {i : Int32} (hi1 : vp_in (i + 1) L) (hi2 : vp_in (i + 2) L) (hi3 : vp_in (i + 3) L) {cells slots : Nat} (hcl : cells + 4 ≤ 600000) (hsl : slots + 4200 ≤ 7302250) (hN : NextP p l e s m below meth c b D cI cJ cZ ax am i cells slots) {N : NS} {Q : QS} {M : MS} (C : CS) (hR : Rel N Q M) {H : Heap} {locs : List Loc} {ls : Array Slot} (hI : WI D (fun q : Nat => s.heap.size ≤ q) s.heap (WL cI cJ cZ ax am N Q M C) H locs) (hl : lv_has ls 4 [(0, .ref b), (1, .ref (ax 0)), (2, .ref (am 0)), (3, .int i)]) : W p l e room_1 s m #[Value.ref b] below meth c H locs cells slots (lw_Z below #[Value.ref b] s) (F0 m 810 ls []) := by
  obtain ⟨hx, hb, hr, hml, hown, hts, hX, hbl, hlocks, hgv⟩ := id C0
  have hA : ∀ q : Nat, s.heap.size ≤ q → (fun q : Nat => s.heap.size ≤ q) q := fun _ h => h
  have hbA : ¬ (fun q : Nat => s.heap.size ≤ q) b := Nat.not_le.mpr hbl
  have hg : ∀ w ∈ GW, w.before #[Value.ref b] s = true := fun w h => hts w (gw_tbl h)
  replace hown : s.vm.findClass RL = some m.cls := hown
  refine lv_aload_n hx hb dL_law_810 rfl (lv_at hl 1 rfl) ?_
  refine lv_aload_n hx hb dL_law_811 rfl (lv_at hl 0 rfl) ?_
  refine lv_iload_n hx hb dL_law_812 rfl (lv_at hl 3 rfl) ?_
  refine lv_iconst (v := 1) hx hb dL_law_813 (by decide) ?_
  refine lv_iadd hx hb dL_law_814 ?_
  refine va_sld hx hb hX hbl hbA hI.2.2 hi1 dL_law_815 ?_
  refine lv_aload_n hx hb dL_law_816 rfl (lv_at hl 0 rfl) ?_
  refine lv_iload_n hx hb dL_law_817 rfl (lv_at hl 3 rfl) ?_
  refine lv_iconst (v := 2) hx hb dL_law_818 (by decide) ?_
  refine lv_iadd hx hb dL_law_819 ?_
  refine va_sld hx hb hX hbl hbA hI.2.2 hi2 dL_law_820 ?_
  refine lv_aload_n hx hb dL_law_821 rfl (lv_at hl 0 rfl) ?_
  refine lv_iload_n hx hb dL_law_822 rfl (lv_at hl 3 rfl) ?_
  refine lv_iconst (v := 3) hx hb dL_law_823 (by decide) ?_
  refine lv_iadd hx hb dL_law_824 ?_
  refine va_sld hx hb hX hbl hbA hI.2.2 hi3 dL_law_825 ?_
  obtain ⟨ox, om, hox, hom, hrt, hR1⟩ := op_meets hR (xs (i + 1).toNatClampNeg) (xs (i + 2).toNatClampNeg) (xs (i + 3).toNatClampNeg)
  refine w_ViA (wc := (wX cI cJ cZ (ax 0) (ax 1) (ax 2) (ax 3) (ax 4) (ax 5) (ax 6) (ax 7) (ax 8) (ax 9) (ax 10) (ax 11) (vH C.1) (vPk C.2.1) (vT C.2.2) N.1 N.2.1 N.2.2.1 N.2.2.2.1 N.2.2.2.2.1 N.2.2.2.2.2.1 N.2.2.2.2.2.2.1 N.2.2.2.2.2.2.2 Q.1 Q.2.1 Q.2.2.1 Q.2.2.2.1 Q.2.2.2.2)) (wr := ((wM cI cJ cZ (am 0) (am 1) (am 2) (am 3) (am 4) (am 5) (am 6) (am 7) (am 8) (am 9) (am 10) (am 11) (am 12) (am 13) M.1 M.2.1 M.2.2.1 M.2.2.2.1 M.2.2.2.2.1 M.2.2.2.2.2.1 M.2.2.2.2.2.2.1 M.2.2.2.2.2.2.2.1 M.2.2.2.2.2.2.2.2.1 M.2.2.2.2.2.2.2.2.2.1 M.2.2.2.2.2.2.2.2.2.2.1 M.2.2.2.2.2.2.2.2.2.2.2.1 M.2.2.2.2.2.2.2.2.2.2.2.2.1 M.2.2.2.2.2.2.2.2.2.2.2.2.2.1 M.2.2.2.2.2.2.2.2.2.2.2.2.2.2.1 M.2.2.2.2.2.2.2.2.2.2.2.2.2.2.2.1 M.2.2.2.2.2.2.2.2.2.2.2.2.2.2.2.2.1 M.2.2.2.2.2.2.2.2.2.2.2.2.2.2.2.2.2) ++ (eH cI (ax 1) C.1 ++ (eP cI cZ (ax 1) C.2.1 ++ eT cJ (ax 1) C.2.2)))) (rest := []) hx hb hml hg hown hK hA hI (List.Perm.refl _) (kX7_meets l D cI cJ cZ (ax 0) (ax 1) (ax 2) (ax 3) (ax 4) (ax 5) (ax 6) (ax 7) (ax 8) (ax 9) (ax 10) (ax 11) (vH C.1) (vPk C.2.1) (vT C.2.2) N.1 N.2.1 N.2.2.1 N.2.2.2.1 N.2.2.2.2.1 N.2.2.2.2.2.1 N.2.2.2.2.2.2.1 N.2.2.2.2.2.2.2 Q.1 Q.2.1 Q.2.2.1 Q.2.2.2.1 Q.2.2.2.2 (xs (i + 1).toNatClampNeg) (xs (i + 2).toNatClampNeg) (xs (i + 3).toNatClampNeg) ox hox) kvX7_meets wL_RL_134 ⟨Nat.le_of_ble_eq_true rfl, Nat.le_of_ble_eq_true rfl⟩ rfl rfl rfl rfl hl.1 (Nat.le_of_ble_eq_true rfl) dL_law_826 ⟨by show _ + 0 ≤ 600000; omega, by show _ + 0 ≤ 7302250; omega⟩ (fun r u H locs hp hI => ?_)
  replace hp : r = ox := hp
  rw [hp]
  clear hp r
  replace hI : WI D (fun q : Nat => s.heap.size ≤ q) s.heap (WL cI cJ cZ ax am (N.1, N.2.1, N.2.2.1, N.2.2.2.1, N.2.2.2.2.1, N.2.2.2.2.2.1, N.2.2.2.2.2.2.1, N.2.2.2.2.2.2.2) (Q.1, Q.2.1, Q.2.2.1, Q.2.2.2.1, Q.2.2.2.2) M (C.1, C.2.1, C.2.2)) H locs := hI
  refine lv_aload_n hx hb dL_law_829 rfl (lv_at hl 2 rfl) ?_
  refine lv_aload_n hx hb dL_law_830 rfl (lv_at hl 0 rfl) ?_
  refine lv_iload_n hx hb dL_law_831 rfl (lv_at hl 3 rfl) ?_
  refine lv_iconst (v := 1) hx hb dL_law_832 (by decide) ?_
  refine lv_iadd hx hb dL_law_833 ?_
  refine va_sld hx hb hX hbl hbA hI.2.2 hi1 dL_law_834 ?_
  refine lv_aload_n hx hb dL_law_835 rfl (lv_at hl 0 rfl) ?_
  refine lv_iload_n hx hb dL_law_836 rfl (lv_at hl 3 rfl) ?_
  refine lv_iconst (v := 2) hx hb dL_law_837 (by decide) ?_
  refine lv_iadd hx hb dL_law_838 ?_
  refine va_sld hx hb hX hbl hbA hI.2.2 hi2 dL_law_839 ?_
  refine lv_aload_n hx hb dL_law_840 rfl (lv_at hl 0 rfl) ?_
  refine lv_iload_n hx hb dL_law_841 rfl (lv_at hl 3 rfl) ?_
  refine lv_iconst (v := 3) hx hb dL_law_842 (by decide) ?_
  refine lv_iadd hx hb dL_law_843 ?_
  refine va_sld hx hb hX hbl hbA hI.2.2 hi3 dL_law_844 ?_
  obtain ⟨N1, eN1⟩ : ∃ z : NS, z = (N.1, N.2.1, N.2.2.1, N.2.2.2.1, N.2.2.2.2.1, N.2.2.2.2.2.1, N.2.2.2.2.2.2.1, N.2.2.2.2.2.2.2) := ⟨_, rfl⟩
  obtain ⟨Q1, eQ1⟩ : ∃ z : QS, z = (Q.1, Q.2.1, Q.2.2.1, Q.2.2.2.1, Q.2.2.2.2) := ⟨_, rfl⟩
  rw [← eN1, ← eQ1] at hI hR1
  refine w_ViA (wc := (wM cI cJ cZ (am 0) (am 1) (am 2) (am 3) (am 4) (am 5) (am 6) (am 7) (am 8) (am 9) (am 10) (am 11) (am 12) (am 13) M.1 M.2.1 M.2.2.1 M.2.2.2.1 M.2.2.2.2.1 M.2.2.2.2.2.1 M.2.2.2.2.2.2.1 M.2.2.2.2.2.2.2.1 M.2.2.2.2.2.2.2.2.1 M.2.2.2.2.2.2.2.2.2.1 M.2.2.2.2.2.2.2.2.2.2.1 M.2.2.2.2.2.2.2.2.2.2.2.1 M.2.2.2.2.2.2.2.2.2.2.2.2.1 M.2.2.2.2.2.2.2.2.2.2.2.2.2.1 M.2.2.2.2.2.2.2.2.2.2.2.2.2.2.1 M.2.2.2.2.2.2.2.2.2.2.2.2.2.2.2.1 M.2.2.2.2.2.2.2.2.2.2.2.2.2.2.2.2.1 M.2.2.2.2.2.2.2.2.2.2.2.2.2.2.2.2.2)) (wr := ((wX cI cJ cZ (ax 0) (ax 1) (ax 2) (ax 3) (ax 4) (ax 5) (ax 6) (ax 7) (ax 8) (ax 9) (ax 10) (ax 11) (vH C.1) (vPk C.2.1) (vT C.2.2) N1.1 N1.2.1 N1.2.2.1 N1.2.2.2.1 N1.2.2.2.2.1 N1.2.2.2.2.2.1 N1.2.2.2.2.2.2.1 N1.2.2.2.2.2.2.2 Q1.1 Q1.2.1 Q1.2.2.1 Q1.2.2.2.1 Q1.2.2.2.2) ++ (eH cI (ax 1) C.1 ++ (eP cI cZ (ax 1) C.2.1 ++ eT cJ (ax 1) C.2.2)))) (rest := [.int ox]) hx hb hml hg hown hK hA hI (pm_sw _ _ _) (kX8_meets l D cI cJ cZ (am 0) (am 1) (am 2) (am 3) (am 4) (am 5) (am 6) (am 7) (am 8) (am 9) (am 10) (am 11) (am 12) (am 13) M.1 M.2.1 M.2.2.1 M.2.2.2.1 M.2.2.2.2.1 M.2.2.2.2.2.1 M.2.2.2.2.2.2.1 M.2.2.2.2.2.2.2.1 M.2.2.2.2.2.2.2.2.1 M.2.2.2.2.2.2.2.2.2.1 M.2.2.2.2.2.2.2.2.2.2.1 M.2.2.2.2.2.2.2.2.2.2.2.1 M.2.2.2.2.2.2.2.2.2.2.2.2.1 M.2.2.2.2.2.2.2.2.2.2.2.2.2.1 M.2.2.2.2.2.2.2.2.2.2.2.2.2.2.1 M.2.2.2.2.2.2.2.2.2.2.2.2.2.2.2.1 M.2.2.2.2.2.2.2.2.2.2.2.2.2.2.2.2.1 M.2.2.2.2.2.2.2.2.2.2.2.2.2.2.2.2.2 (xs (i + 1).toNatClampNeg) (xs (i + 2).toNatClampNeg) (xs (i + 3).toNatClampNeg) om hom) kvX8_meets wL_RL_137 ⟨Nat.le_of_ble_eq_true rfl, Nat.le_of_ble_eq_true rfl⟩ rfl rfl rfl rfl hl.1 (Nat.le_of_ble_eq_true rfl) dL_law_845 ⟨by show cells + 0 + 0 ≤ 600000; omega, by show slots + 0 + 0 ≤ 7302250; omega⟩ (fun r u H locs hp hI => ?_)
  replace hp : r = om := hp
  rw [hp]
  clear hp r
  replace hI := hI.ofPerm (pm_sw _ _ _)
  obtain ⟨M1, eM1⟩ : ∃ z : MS, z = (M.1, M.2.1, M.2.2.1, M.2.2.2.1, M.2.2.2.2.1, M.2.2.2.2.2.1, M.2.2.2.2.2.2.1, M.2.2.2.2.2.2.2.1, M.2.2.2.2.2.2.2.2.1, M.2.2.2.2.2.2.2.2.2.1, M.2.2.2.2.2.2.2.2.2.2.1, M.2.2.2.2.2.2.2.2.2.2.2.1, M.2.2.2.2.2.2.2.2.2.2.2.2.1, M.2.2.2.2.2.2.2.2.2.2.2.2.2.1, M.2.2.2.2.2.2.2.2.2.2.2.2.2.2.1, M.2.2.2.2.2.2.2.2.2.2.2.2.2.2.2.1, M.2.2.2.2.2.2.2.2.2.2.2.2.2.2.2.2.1, M.2.2.2.2.2.2.2.2.2.2.2.2.2.2.2.2.2) := ⟨_, rfl⟩
  rw [← eM1] at hR1
  replace hI : WI D (fun q : Nat => s.heap.size ≤ q) s.heap (WL cI cJ cZ ax am N1 Q1 M1 (C.1, C.2.1, C.2.2)) H locs := by rw [eM1]; exact hI
  refine lv_icmp_eq (tgt := 876) hx hb dL_law_848 (by decide) (fun hc => ?_) (fun hc => ?_)
  · exact hN N1 Q1 M1 _ H locs ls _ _ hR1 hI hl (by show cells + 0 + 0 ≤ cells + 4; omega) (by show slots + 0 + 0 ≤ slots + 4200; omega)
  · exact absurd hrt hc
set_option maxHeartbeats 4000000 in
set_option maxRecDepth 100000 in
theorem lo_many {p : Program} {e : Env} {s : State} {m : MethodId} {below : List Frame} {meth : Method} {c : Code} (l : Launch) {b L : Nat} {xs : Nat → Int32} (C0 : lw_At p s m meth c b L xs) (D : va_G) (cI cJ cZ : ClassId) (hK : KK D cI cJ cZ s) (ax am : Nat → Nat) {i : Int32} (hi1 : vp_in (i + 1) L) (hi2 : vp_in (i + 2) L) (hi3 : vp_in (i + 3) L) {cells slots : Nat} (hcl : cells + 4 ≤ 600000) (hsl : slots + 4200 ≤ 7302250) (hN : NextP p l e s m below meth c b D cI cJ cZ ax am i cells slots) {N : NS} {Q : QS} {M : MS} (C : CS) (hR : Rel N Q M) {H : Heap} {locs : List Loc} {ls : Array Slot} (hI : WI D (fun q : Nat => s.heap.size ≤ q) s.heap (WL cI cJ cZ ax am N Q M C) H locs) (hl : lv_has ls 4 [(0, .ref b), (1, .ref (ax 0)), (2, .ref (am 0)), (3, .int i)]) : W p l e room_1 s m #[Value.ref b] below meth c H locs cells slots (lw_Z below #[Value.ref b] s) (F0 m 853 ls []) := by
  obtain ⟨hx, hb, hr, hml, hown, hts, hX, hbl, hlocks, hgv⟩ := id C0
  have hA : ∀ q : Nat, s.heap.size ≤ q → (fun q : Nat => s.heap.size ≤ q) q := fun _ h => h
  have hbA : ¬ (fun q : Nat => s.heap.size ≤ q) b := Nat.not_le.mpr hbl
  have hg : ∀ w ∈ GW, w.before #[Value.ref b] s = true := fun w h => hts w (gw_tbl h)
  replace hown : s.vm.findClass RL = some m.cls := hown
  refine lv_aload_n hx hb dL_law_853 rfl (lv_at hl 1 rfl) ?_
  refine lv_aload_n hx hb dL_law_854 rfl (lv_at hl 0 rfl) ?_
  refine lv_iload_n hx hb dL_law_855 rfl (lv_at hl 3 rfl) ?_
  refine lv_iconst (v := 1) hx hb dL_law_856 (by decide) ?_
  refine lv_iadd hx hb dL_law_857 ?_
  refine va_sld hx hb hX hbl hbA hI.2.2 hi1 dL_law_858 ?_
  obtain ⟨ox, om, hox, hom, hrt, hR1⟩ := op_many hR (xs (i + 1).toNatClampNeg)
  refine w_ViA (wc := (wX cI cJ cZ (ax 0) (ax 1) (ax 2) (ax 3) (ax 4) (ax 5) (ax 6) (ax 7) (ax 8) (ax 9) (ax 10) (ax 11) (vH C.1) (vPk C.2.1) (vT C.2.2) N.1 N.2.1 N.2.2.1 N.2.2.2.1 N.2.2.2.2.1 N.2.2.2.2.2.1 N.2.2.2.2.2.2.1 N.2.2.2.2.2.2.2 Q.1 Q.2.1 Q.2.2.1 Q.2.2.2.1 Q.2.2.2.2)) (wr := ((wM cI cJ cZ (am 0) (am 1) (am 2) (am 3) (am 4) (am 5) (am 6) (am 7) (am 8) (am 9) (am 10) (am 11) (am 12) (am 13) M.1 M.2.1 M.2.2.1 M.2.2.2.1 M.2.2.2.2.1 M.2.2.2.2.2.1 M.2.2.2.2.2.2.1 M.2.2.2.2.2.2.2.1 M.2.2.2.2.2.2.2.2.1 M.2.2.2.2.2.2.2.2.2.1 M.2.2.2.2.2.2.2.2.2.2.1 M.2.2.2.2.2.2.2.2.2.2.2.1 M.2.2.2.2.2.2.2.2.2.2.2.2.1 M.2.2.2.2.2.2.2.2.2.2.2.2.2.1 M.2.2.2.2.2.2.2.2.2.2.2.2.2.2.1 M.2.2.2.2.2.2.2.2.2.2.2.2.2.2.2.1 M.2.2.2.2.2.2.2.2.2.2.2.2.2.2.2.2.1 M.2.2.2.2.2.2.2.2.2.2.2.2.2.2.2.2.2) ++ (eH cI (ax 1) C.1 ++ (eP cI cZ (ax 1) C.2.1 ++ eT cJ (ax 1) C.2.2)))) (rest := []) hx hb hml hg hown hK hA hI (List.Perm.refl _) (kX7_many l D cI cJ cZ (ax 0) (ax 1) (ax 2) (ax 3) (ax 4) (ax 5) (ax 6) (ax 7) (ax 8) (ax 9) (ax 10) (ax 11) (vH C.1) (vPk C.2.1) (vT C.2.2) N.1 N.2.1 N.2.2.1 N.2.2.2.1 N.2.2.2.2.1 N.2.2.2.2.2.1 N.2.2.2.2.2.2.1 N.2.2.2.2.2.2.2 Q.1 Q.2.1 Q.2.2.1 Q.2.2.2.1 Q.2.2.2.2 (xs (i + 1).toNatClampNeg) ox hox) kvX7_many wL_RL_138 ⟨Nat.le_of_ble_eq_true rfl, Nat.le_of_ble_eq_true rfl⟩ rfl rfl rfl rfl hl.1 (Nat.le_of_ble_eq_true rfl) dL_law_859 ⟨by show _ + 0 ≤ 600000; omega, by show _ + 0 ≤ 7302250; omega⟩ (fun r u H locs hp hI => ?_)
  replace hp : r = ox := hp
  rw [hp]
  clear hp r
  replace hI : WI D (fun q : Nat => s.heap.size ≤ q) s.heap (WL cI cJ cZ ax am (N.1, N.2.1, N.2.2.1, N.2.2.2.1, N.2.2.2.2.1, N.2.2.2.2.2.1, N.2.2.2.2.2.2.1, N.2.2.2.2.2.2.2) (Q.1, Q.2.1, Q.2.2.1, Q.2.2.2.1, Q.2.2.2.2) M (C.1, C.2.1, C.2.2)) H locs := hI
  refine lv_aload_n hx hb dL_law_862 rfl (lv_at hl 2 rfl) ?_
  refine lv_aload_n hx hb dL_law_863 rfl (lv_at hl 0 rfl) ?_
  refine lv_iload_n hx hb dL_law_864 rfl (lv_at hl 3 rfl) ?_
  refine lv_iconst (v := 1) hx hb dL_law_865 (by decide) ?_
  refine lv_iadd hx hb dL_law_866 ?_
  refine va_sld hx hb hX hbl hbA hI.2.2 hi1 dL_law_867 ?_
  obtain ⟨N1, eN1⟩ : ∃ z : NS, z = (N.1, N.2.1, N.2.2.1, N.2.2.2.1, N.2.2.2.2.1, N.2.2.2.2.2.1, N.2.2.2.2.2.2.1, N.2.2.2.2.2.2.2) := ⟨_, rfl⟩
  obtain ⟨Q1, eQ1⟩ : ∃ z : QS, z = (Q.1, Q.2.1, Q.2.2.1, Q.2.2.2.1, Q.2.2.2.2) := ⟨_, rfl⟩
  rw [← eN1, ← eQ1] at hI hR1
  refine w_ViA (wc := (wM cI cJ cZ (am 0) (am 1) (am 2) (am 3) (am 4) (am 5) (am 6) (am 7) (am 8) (am 9) (am 10) (am 11) (am 12) (am 13) M.1 M.2.1 M.2.2.1 M.2.2.2.1 M.2.2.2.2.1 M.2.2.2.2.2.1 M.2.2.2.2.2.2.1 M.2.2.2.2.2.2.2.1 M.2.2.2.2.2.2.2.2.1 M.2.2.2.2.2.2.2.2.2.1 M.2.2.2.2.2.2.2.2.2.2.1 M.2.2.2.2.2.2.2.2.2.2.2.1 M.2.2.2.2.2.2.2.2.2.2.2.2.1 M.2.2.2.2.2.2.2.2.2.2.2.2.2.1 M.2.2.2.2.2.2.2.2.2.2.2.2.2.2.1 M.2.2.2.2.2.2.2.2.2.2.2.2.2.2.2.1 M.2.2.2.2.2.2.2.2.2.2.2.2.2.2.2.2.1 M.2.2.2.2.2.2.2.2.2.2.2.2.2.2.2.2.2)) (wr := ((wX cI cJ cZ (ax 0) (ax 1) (ax 2) (ax 3) (ax 4) (ax 5) (ax 6) (ax 7) (ax 8) (ax 9) (ax 10) (ax 11) (vH C.1) (vPk C.2.1) (vT C.2.2) N1.1 N1.2.1 N1.2.2.1 N1.2.2.2.1 N1.2.2.2.2.1 N1.2.2.2.2.2.1 N1.2.2.2.2.2.2.1 N1.2.2.2.2.2.2.2 Q1.1 Q1.2.1 Q1.2.2.1 Q1.2.2.2.1 Q1.2.2.2.2) ++ (eH cI (ax 1) C.1 ++ (eP cI cZ (ax 1) C.2.1 ++ eT cJ (ax 1) C.2.2)))) (rest := [.int ox]) hx hb hml hg hown hK hA hI (pm_sw _ _ _) (kX8_many l D cI cJ cZ (am 0) (am 1) (am 2) (am 3) (am 4) (am 5) (am 6) (am 7) (am 8) (am 9) (am 10) (am 11) (am 12) (am 13) M.1 M.2.1 M.2.2.1 M.2.2.2.1 M.2.2.2.2.1 M.2.2.2.2.2.1 M.2.2.2.2.2.2.1 M.2.2.2.2.2.2.2.1 M.2.2.2.2.2.2.2.2.1 M.2.2.2.2.2.2.2.2.2.1 M.2.2.2.2.2.2.2.2.2.2.1 M.2.2.2.2.2.2.2.2.2.2.2.1 M.2.2.2.2.2.2.2.2.2.2.2.2.1 M.2.2.2.2.2.2.2.2.2.2.2.2.2.1 M.2.2.2.2.2.2.2.2.2.2.2.2.2.2.1 M.2.2.2.2.2.2.2.2.2.2.2.2.2.2.2.1 M.2.2.2.2.2.2.2.2.2.2.2.2.2.2.2.2.1 M.2.2.2.2.2.2.2.2.2.2.2.2.2.2.2.2.2 (xs (i + 1).toNatClampNeg) om hom) kvX8_many wL_RL_141 ⟨Nat.le_of_ble_eq_true rfl, Nat.le_of_ble_eq_true rfl⟩ rfl rfl rfl rfl hl.1 (Nat.le_of_ble_eq_true rfl) dL_law_868 ⟨by show cells + 0 + 0 ≤ 600000; omega, by show slots + 0 + 0 ≤ 7302250; omega⟩ (fun r u H locs hp hI => ?_)
  replace hp : r = om := hp
  rw [hp]
  clear hp r
  replace hI := hI.ofPerm (pm_sw _ _ _)
  obtain ⟨M1, eM1⟩ : ∃ z : MS, z = (M.1, M.2.1, M.2.2.1, M.2.2.2.1, M.2.2.2.2.1, M.2.2.2.2.2.1, M.2.2.2.2.2.2.1, M.2.2.2.2.2.2.2.1, M.2.2.2.2.2.2.2.2.1, M.2.2.2.2.2.2.2.2.2.1, M.2.2.2.2.2.2.2.2.2.2.1, M.2.2.2.2.2.2.2.2.2.2.2.1, M.2.2.2.2.2.2.2.2.2.2.2.2.1, M.2.2.2.2.2.2.2.2.2.2.2.2.2.1, M.2.2.2.2.2.2.2.2.2.2.2.2.2.2.1, M.2.2.2.2.2.2.2.2.2.2.2.2.2.2.2.1, M.2.2.2.2.2.2.2.2.2.2.2.2.2.2.2.2.1, M.2.2.2.2.2.2.2.2.2.2.2.2.2.2.2.2.2) := ⟨_, rfl⟩
  rw [← eM1] at hR1
  replace hI : WI D (fun q : Nat => s.heap.size ≤ q) s.heap (WL cI cJ cZ ax am N1 Q1 M1 (C.1, C.2.1, C.2.2)) H locs := by rw [eM1]; exact hI
  refine lv_icmp_eq (tgt := 876) hx hb dL_law_871 (by decide) (fun hc => ?_) (fun hc => ?_)
  · exact hN N1 Q1 M1 _ H locs ls _ _ hR1 hI hl (by show cells + 0 + 0 ≤ cells + 4; omega) (by show slots + 0 + 0 ≤ slots + 4200; omega)
  · exact absurd hrt hc
