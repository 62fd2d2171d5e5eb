set_option maxHeartbeats 4000000 in
set_option maxRecDepth 100000 in
theorem lo_post {p : Program} {e : Env} {s : State} {m : MethodId} {below : List Frame} {meth : Method} {c : Code} (l : Launch) {b L : Nat} {xs : Nat → Int32} (C0 : lw_At p s m meth c b L xs) (D : va_G) (cI cJ cZ : ClassId) (hK : KK D cI cJ cZ s) (ax am : Nat → Nat) {i : Int32} (hi1 : vp_in (i + 1) L) (hi2 : vp_in (i + 2) L) (hi3 : vp_in (i + 3) L) {cells slots : Nat} (hcl : cells + 4 ≤ 600000) (hsl : slots + 4200 ≤ 7302250) (hN : NextP p l e s m below meth c b D cI cJ cZ ax am i cells slots) {N : NS} {Q : QS} {M : MS} (C : CS) (hR : Rel N Q M) {H : Heap} {locs : List Loc} {ls : Array Slot} (hI : WI D (fun q : Nat => s.heap.size ≤ q) s.heap (WL cI cJ cZ ax am N Q M C) H locs) (hl : lv_has ls 4 [(0, .ref b), (1, .ref (ax 0)), (2, .ref (am 0)), (3, .int i)]) : W p l e room_1 s m #[Value.ref b] below meth c H locs cells slots (lw_Z below #[Value.ref b] s) (F0 m 172 ls []) := by
  obtain ⟨hx, hb, hr, hml, hown, hts, hX, hbl, hlocks, hgv⟩ := id C0
  have hA : ∀ q : Nat, s.heap.size ≤ q → (fun q : Nat => s.heap.size ≤ q) q := fun _ h => h
  have hbA : ¬ (fun q : Nat => s.heap.size ≤ q) b := Nat.not_le.mpr hbl
  have hg : ∀ w ∈ GW, w.before #[Value.ref b] s = true := fun w h => hts w (gw_tbl h)
  replace hown : s.vm.findClass RL = some m.cls := hown
  refine lv_aload_n hx hb dL_law_172 rfl (lv_at hl 1 rfl) ?_
  obtain ⟨ox, om, hox, hom, hrt, hR1⟩ := op_post hR 
  refine w_ViA (wc := (wX cI cJ cZ (ax 0) (ax 1) (ax 2) (ax 3) (ax 4) (ax 5) (ax 6) (ax 7) (ax 8) (ax 9) (ax 10) (ax 11) (vH C.1) (vPk C.2.1) (vT C.2.2) N.1 N.2.1 N.2.2.1 N.2.2.2.1 N.2.2.2.2.1 N.2.2.2.2.2.1 N.2.2.2.2.2.2.1 N.2.2.2.2.2.2.2 Q.1 Q.2.1 Q.2.2.1 Q.2.2.2.1 Q.2.2.2.2)) (wr := ((wM cI cJ cZ (am 0) (am 1) (am 2) (am 3) (am 4) (am 5) (am 6) (am 7) (am 8) (am 9) (am 10) (am 11) (am 12) (am 13) M.1 M.2.1 M.2.2.1 M.2.2.2.1 M.2.2.2.2.1 M.2.2.2.2.2.1 M.2.2.2.2.2.2.1 M.2.2.2.2.2.2.2.1 M.2.2.2.2.2.2.2.2.1 M.2.2.2.2.2.2.2.2.2.1 M.2.2.2.2.2.2.2.2.2.2.1 M.2.2.2.2.2.2.2.2.2.2.2.1 M.2.2.2.2.2.2.2.2.2.2.2.2.1 M.2.2.2.2.2.2.2.2.2.2.2.2.2.1 M.2.2.2.2.2.2.2.2.2.2.2.2.2.2.1 M.2.2.2.2.2.2.2.2.2.2.2.2.2.2.2.1 M.2.2.2.2.2.2.2.2.2.2.2.2.2.2.2.2.1 M.2.2.2.2.2.2.2.2.2.2.2.2.2.2.2.2.2) ++ (eH cI (ax 1) C.1 ++ (eP cI cZ (ax 1) C.2.1 ++ eT cJ (ax 1) C.2.2)))) (rest := []) hx hb hml hg hown hK hA hI (List.Perm.refl _) (kX7_post l D cI cJ cZ (ax 0) (ax 1) (ax 2) (ax 3) (ax 4) (ax 5) (ax 6) (ax 7) (ax 8) (ax 9) (ax 10) (ax 11) (vH C.1) (vPk C.2.1) (vT C.2.2) N.1 N.2.1 N.2.2.1 N.2.2.2.1 N.2.2.2.2.1 N.2.2.2.2.2.1 N.2.2.2.2.2.2.1 N.2.2.2.2.2.2.2 Q.1 Q.2.1 Q.2.2.1 Q.2.2.2.1 Q.2.2.2.2  ox hox) kvX7_post wL_RL_13 ⟨Nat.le_of_ble_eq_true rfl, Nat.le_of_ble_eq_true rfl⟩ rfl rfl rfl rfl hl.1 (Nat.le_of_ble_eq_true rfl) dL_law_173 ⟨by show _ + 0 ≤ 600000; omega, by show _ + 0 ≤ 7302250; omega⟩ (fun r u H locs hp hI => ?_)
  replace hp : r = ox.1 := hp
  rw [hp]
  clear hp r
  replace hI : WI D (fun q : Nat => s.heap.size ≤ q) s.heap (WL cI cJ cZ ax am (ox.2.1, N.2.1, N.2.2.1, N.2.2.2.1, N.2.2.2.2.1, N.2.2.2.2.2.1, ox.2.2, N.2.2.2.2.2.2.2) (Q.1, Q.2.1, Q.2.2.1, Q.2.2.2.1, Q.2.2.2.2) M (C.1, C.2.1, C.2.2)) H locs := hI
  refine lv_aload_n hx hb dL_law_176 rfl (lv_at hl 2 rfl) ?_
  obtain ⟨N1, eN1⟩ : ∃ z : NS, z = (ox.2.1, N.2.1, N.2.2.1, N.2.2.2.1, N.2.2.2.2.1, N.2.2.2.2.2.1, ox.2.2, N.2.2.2.2.2.2.2) := ⟨_, rfl⟩
  obtain ⟨Q1, eQ1⟩ : ∃ z : QS, z = (Q.1, Q.2.1, Q.2.2.1, Q.2.2.2.1, Q.2.2.2.2) := ⟨_, rfl⟩
  rw [← eN1, ← eQ1] at hI hR1
  refine w_ViA (wc := (wM cI cJ cZ (am 0) (am 1) (am 2) (am 3) (am 4) (am 5) (am 6) (am 7) (am 8) (am 9) (am 10) (am 11) (am 12) (am 13) M.1 M.2.1 M.2.2.1 M.2.2.2.1 M.2.2.2.2.1 M.2.2.2.2.2.1 M.2.2.2.2.2.2.1 M.2.2.2.2.2.2.2.1 M.2.2.2.2.2.2.2.2.1 M.2.2.2.2.2.2.2.2.2.1 M.2.2.2.2.2.2.2.2.2.2.1 M.2.2.2.2.2.2.2.2.2.2.2.1 M.2.2.2.2.2.2.2.2.2.2.2.2.1 M.2.2.2.2.2.2.2.2.2.2.2.2.2.1 M.2.2.2.2.2.2.2.2.2.2.2.2.2.2.1 M.2.2.2.2.2.2.2.2.2.2.2.2.2.2.2.1 M.2.2.2.2.2.2.2.2.2.2.2.2.2.2.2.2.1 M.2.2.2.2.2.2.2.2.2.2.2.2.2.2.2.2.2)) (wr := ((wX cI cJ cZ (ax 0) (ax 1) (ax 2) (ax 3) (ax 4) (ax 5) (ax 6) (ax 7) (ax 8) (ax 9) (ax 10) (ax 11) (vH C.1) (vPk C.2.1) (vT C.2.2) N1.1 N1.2.1 N1.2.2.1 N1.2.2.2.1 N1.2.2.2.2.1 N1.2.2.2.2.2.1 N1.2.2.2.2.2.2.1 N1.2.2.2.2.2.2.2 Q1.1 Q1.2.1 Q1.2.2.1 Q1.2.2.2.1 Q1.2.2.2.2) ++ (eH cI (ax 1) C.1 ++ (eP cI cZ (ax 1) C.2.1 ++ eT cJ (ax 1) C.2.2)))) (rest := [.int ox.1]) hx hb hml hg hown hK hA hI (pm_sw _ _ _) (kX8_post l D cI cJ cZ (am 0) (am 1) (am 2) (am 3) (am 4) (am 5) (am 6) (am 7) (am 8) (am 9) (am 10) (am 11) (am 12) (am 13) M.1 M.2.1 M.2.2.1 M.2.2.2.1 M.2.2.2.2.1 M.2.2.2.2.2.1 M.2.2.2.2.2.2.1 M.2.2.2.2.2.2.2.1 M.2.2.2.2.2.2.2.2.1 M.2.2.2.2.2.2.2.2.2.1 M.2.2.2.2.2.2.2.2.2.2.1 M.2.2.2.2.2.2.2.2.2.2.2.1 M.2.2.2.2.2.2.2.2.2.2.2.2.1 M.2.2.2.2.2.2.2.2.2.2.2.2.2.1 M.2.2.2.2.2.2.2.2.2.2.2.2.2.2.1 M.2.2.2.2.2.2.2.2.2.2.2.2.2.2.2.1 M.2.2.2.2.2.2.2.2.2.2.2.2.2.2.2.2.1 M.2.2.2.2.2.2.2.2.2.2.2.2.2.2.2.2.2  om hom) kvX8_post wL_RL_17 ⟨Nat.le_of_ble_eq_true rfl, Nat.le_of_ble_eq_true rfl⟩ rfl rfl rfl rfl hl.1 (Nat.le_of_ble_eq_true rfl) dL_law_177 ⟨by show cells + 0 + 0 ≤ 600000; omega, by show slots + 0 + 0 ≤ 7302250; omega⟩ (fun r u H locs hp hI => ?_)
  replace hp : r = om.1 := hp
  rw [hp]
  clear hp r
  replace hI := hI.ofPerm (pm_sw _ _ _)
  obtain ⟨M1, eM1⟩ : ∃ z : MS, z = (om.2, M.2.1, M.2.2.1, M.2.2.2.1, M.2.2.2.2.1, M.2.2.2.2.2.1, M.2.2.2.2.2.2.1, M.2.2.2.2.2.2.2.1, M.2.2.2.2.2.2.2.2.1, M.2.2.2.2.2.2.2.2.2.1, M.2.2.2.2.2.2.2.2.2.2.1, M.2.2.2.2.2.2.2.2.2.2.2.1, M.2.2.2.2.2.2.2.2.2.2.2.2.1, M.2.2.2.2.2.2.2.2.2.2.2.2.2.1, M.2.2.2.2.2.2.2.2.2.2.2.2.2.2.1, M.2.2.2.2.2.2.2.2.2.2.2.2.2.2.2.1, M.2.2.2.2.2.2.2.2.2.2.2.2.2.2.2.2.1, M.2.2.2.2.2.2.2.2.2.2.2.2.2.2.2.2.2) := ⟨_, rfl⟩
  rw [← eM1] at hR1
  replace hI : WI D (fun q : Nat => s.heap.size ≤ q) s.heap (WL cI cJ cZ ax am N1 Q1 M1 (C.1, C.2.1, C.2.2)) H locs := by rw [eM1]; exact hI
  refine lv_icmp_eq (tgt := 876) hx hb dL_law_180 (by decide) (fun hc => ?_) (fun hc => ?_)
  · exact hN N1 Q1 M1 _ H locs ls _ _ hR1 hI hl (by show cells + 0 + 0 ≤ cells + 4; omega) (by show slots + 0 + 0 ≤ slots + 4200; omega)
  · exact absurd hrt hc
set_option maxHeartbeats 4000000 in
set_option maxRecDepth 100000 in
theorem lo_road {p : Program} {e : Env} {s : State} {m : MethodId} {below : List Frame} {meth : Method} {c : Code} (l : Launch) {b L : Nat} {xs : Nat → Int32} (C0 : lw_At p s m meth c b L xs) (D : va_G) (cI cJ cZ : ClassId) (hK : KK D cI cJ cZ s) (ax am : Nat → Nat) {i : Int32} (hi1 : vp_in (i + 1) L) (hi2 : vp_in (i + 2) L) (hi3 : vp_in (i + 3) L) {cells slots : Nat} (hcl : cells + 4 ≤ 600000) (hsl : slots + 4200 ≤ 7302250) (hN : NextP p l e s m below meth c b D cI cJ cZ ax am i cells slots) {N : NS} {Q : QS} {M : MS} (C : CS) (hR : Rel N Q M) {H : Heap} {locs : List Loc} {ls : Array Slot} (hI : WI D (fun q : Nat => s.heap.size ≤ q) s.heap (WL cI cJ cZ ax am N Q M C) H locs) (hl : lv_has ls 4 [(0, .ref b), (1, .ref (ax 0)), (2, .ref (am 0)), (3, .int i)]) : W p l e room_1 s m #[Value.ref b] below meth c H locs cells slots (lw_Z below #[Value.ref b] s) (F0 m 185 ls []) := by
  obtain ⟨hx, hb, hr, hml, hown, hts, hX, hbl, hlocks, hgv⟩ := id C0
  have hA : ∀ q : Nat, s.heap.size ≤ q → (fun q : Nat => s.heap.size ≤ q) q := fun _ h => h
  have hbA : ¬ (fun q : Nat => s.heap.size ≤ q) b := Nat.not_le.mpr hbl
  have hg : ∀ w ∈ GW, w.before #[Value.ref b] s = true := fun w h => hts w (gw_tbl h)
  replace hown : s.vm.findClass RL = some m.cls := hown
  refine lv_aload_n hx hb dL_law_185 rfl (lv_at hl 1 rfl) ?_
  refine lv_aload_n hx hb dL_law_186 rfl (lv_at hl 0 rfl) ?_
  refine lv_iload_n hx hb dL_law_187 rfl (lv_at hl 3 rfl) ?_
  refine lv_iconst (v := 1) hx hb dL_law_188 (by decide) ?_
  refine lv_iadd hx hb dL_law_189 ?_
  refine va_sld hx hb hX hbl hbA hI.2.2 hi1 dL_law_190 ?_
  refine lv_aload_n hx hb dL_law_191 rfl (lv_at hl 0 rfl) ?_
  refine lv_iload_n hx hb dL_law_192 rfl (lv_at hl 3 rfl) ?_
  refine lv_iconst (v := 2) hx hb dL_law_193 (by decide) ?_
  refine lv_iadd hx hb dL_law_194 ?_
  refine va_sld hx hb hX hbl hbA hI.2.2 hi2 dL_law_195 ?_
  obtain ⟨ox, om, hox, hom, hrt, hR1⟩ := op_road hR (xs (i + 1).toNatClampNeg) (xs (i + 2).toNatClampNeg)
  refine w_ViA (wc := (wX cI cJ cZ (ax 0) (ax 1) (ax 2) (ax 3) (ax 4) (ax 5) (ax 6) (ax 7) (ax 8) (ax 9) (ax 10) (ax 11) (vH C.1) (vPk C.2.1) (vT C.2.2) N.1 N.2.1 N.2.2.1 N.2.2.2.1 N.2.2.2.2.1 N.2.2.2.2.2.1 N.2.2.2.2.2.2.1 N.2.2.2.2.2.2.2 Q.1 Q.2.1 Q.2.2.1 Q.2.2.2.1 Q.2.2.2.2)) (wr := ((wM cI cJ cZ (am 0) (am 1) (am 2) (am 3) (am 4) (am 5) (am 6) (am 7) (am 8) (am 9) (am 10) (am 11) (am 12) (am 13) M.1 M.2.1 M.2.2.1 M.2.2.2.1 M.2.2.2.2.1 M.2.2.2.2.2.1 M.2.2.2.2.2.2.1 M.2.2.2.2.2.2.2.1 M.2.2.2.2.2.2.2.2.1 M.2.2.2.2.2.2.2.2.2.1 M.2.2.2.2.2.2.2.2.2.2.1 M.2.2.2.2.2.2.2.2.2.2.2.1 M.2.2.2.2.2.2.2.2.2.2.2.2.1 M.2.2.2.2.2.2.2.2.2.2.2.2.2.1 M.2.2.2.2.2.2.2.2.2.2.2.2.2.2.1 M.2.2.2.2.2.2.2.2.2.2.2.2.2.2.2.1 M.2.2.2.2.2.2.2.2.2.2.2.2.2.2.2.2.1 M.2.2.2.2.2.2.2.2.2.2.2.2.2.2.2.2.2) ++ (eH cI (ax 1) C.1 ++ (eP cI cZ (ax 1) C.2.1 ++ eT cJ (ax 1) C.2.2)))) (rest := []) hx hb hml hg hown hK hA hI (List.Perm.refl _) (kX7_road l D cI cJ cZ (ax 0) (ax 1) (ax 2) (ax 3) (ax 4) (ax 5) (ax 6) (ax 7) (ax 8) (ax 9) (ax 10) (ax 11) (vH C.1) (vPk C.2.1) (vT C.2.2) N.1 N.2.1 N.2.2.1 N.2.2.2.1 N.2.2.2.2.1 N.2.2.2.2.2.1 N.2.2.2.2.2.2.1 N.2.2.2.2.2.2.2 Q.1 Q.2.1 Q.2.2.1 Q.2.2.2.1 Q.2.2.2.2 (xs (i + 1).toNatClampNeg) (xs (i + 2).toNatClampNeg) ox hox) kvX7_road wL_RL_18 ⟨Nat.le_of_ble_eq_true rfl, Nat.le_of_ble_eq_true rfl⟩ rfl rfl rfl rfl hl.1 (Nat.le_of_ble_eq_true rfl) dL_law_196 ⟨by show _ + 0 ≤ 600000; omega, by show _ + 0 ≤ 7302250; omega⟩ (fun r u H locs hp hI => ?_)
  replace hp : r = ox.1 := hp
  rw [hp]
  clear hp r
  replace hI : WI D (fun q : Nat => s.heap.size ≤ q) s.heap (WL cI cJ cZ ax am (N.1, ox.2.1, ox.2.2.1, ox.2.2.2.1, ox.2.2.2.2.1, ox.2.2.2.2.2.1, ox.2.2.2.2.2.2.1, ox.2.2.2.2.2.2.2) (Q.1, Q.2.1, Q.2.2.1, Q.2.2.2.1, Q.2.2.2.2) M (C.1, C.2.1, C.2.2)) H locs := hI
  refine lv_aload_n hx hb dL_law_199 rfl (lv_at hl 2 rfl) ?_
  refine lv_aload_n hx hb dL_law_200 rfl (lv_at hl 0 rfl) ?_
  refine lv_iload_n hx hb dL_law_201 rfl (lv_at hl 3 rfl) ?_
  refine lv_iconst (v := 1) hx hb dL_law_202 (by decide) ?_
  refine lv_iadd hx hb dL_law_203 ?_
  refine va_sld hx hb hX hbl hbA hI.2.2 hi1 dL_law_204 ?_
  refine lv_aload_n hx hb dL_law_205 rfl (lv_at hl 0 rfl) ?_
  refine lv_iload_n hx hb dL_law_206 rfl (lv_at hl 3 rfl) ?_
  refine lv_iconst (v := 2) hx hb dL_law_207 (by decide) ?_
  refine lv_iadd hx hb dL_law_208 ?_
  refine va_sld hx hb hX hbl hbA hI.2.2 hi2 dL_law_209 ?_
  obtain ⟨N1, eN1⟩ : ∃ z : NS, z = (N.1, ox.2.1, ox.2.2.1, ox.2.2.2.1, ox.2.2.2.2.1, ox.2.2.2.2.2.1, ox.2.2.2.2.2.2.1, ox.2.2.2.2.2.2.2) := ⟨_, rfl⟩
  obtain ⟨Q1, eQ1⟩ : ∃ z : QS, z = (Q.1, Q.2.1, Q.2.2.1, Q.2.2.2.1, Q.2.2.2.2) := ⟨_, rfl⟩
  rw [← eN1, ← eQ1] at hI hR1
  refine w_ViA (wc := (wM cI cJ cZ (am 0) (am 1) (am 2) (am 3) (am 4) (am 5) (am 6) (am 7) (am 8) (am 9) (am 10) (am 11) (am 12) (am 13) M.1 M.2.1 M.2.2.1 M.2.2.2.1 M.2.2.2.2.1 M.2.2.2.2.2.1 M.2.2.2.2.2.2.1 M.2.2.2.2.2.2.2.1 M.2.2.2.2.2.2.2.2.1 M.2.2.2.2.2.2.2.2.2.1 M.2.2.2.2.2.2.2.2.2.2.1 M.2.2.2.2.2.2.2.2.2.2.2.1 M.2.2.2.2.2.2.2.2.2.2.2.2.1 M.2.2.2.2.2.2.2.2.2.2.2.2.2.1 M.2.2.2.2.2.2.2.2.2.2.2.2.2.2.1 M.2.2.2.2.2.2.2.2.2.2.2.2.2.2.2.1 M.2.2.2.2.2.2.2.2.2.2.2.2.2.2.2.2.1 M.2.2.2.2.2.2.2.2.2.2.2.2.2.2.2.2.2)) (wr := ((wX cI cJ cZ (ax 0) (ax 1) (ax 2) (ax 3) (ax 4) (ax 5) (ax 6) (ax 7) (ax 8) (ax 9) (ax 10) (ax 11) (vH C.1) (vPk C.2.1) (vT C.2.2) N1.1 N1.2.1 N1.2.2.1 N1.2.2.2.1 N1.2.2.2.2.1 N1.2.2.2.2.2.1 N1.2.2.2.2.2.2.1 N1.2.2.2.2.2.2.2 Q1.1 Q1.2.1 Q1.2.2.1 Q1.2.2.2.1 Q1.2.2.2.2) ++ (eH cI (ax 1) C.1 ++ (eP cI cZ (ax 1) C.2.1 ++ eT cJ (ax 1) C.2.2)))) (rest := [.int ox.1]) hx hb hml hg hown hK hA hI (pm_sw _ _ _) (kX8_road l D cI cJ cZ (am 0) (am 1) (am 2) (am 3) (am 4) (am 5) (am 6) (am 7) (am 8) (am 9) (am 10) (am 11) (am 12) (am 13) M.1 M.2.1 M.2.2.1 M.2.2.2.1 M.2.2.2.2.1 M.2.2.2.2.2.1 M.2.2.2.2.2.2.1 M.2.2.2.2.2.2.2.1 M.2.2.2.2.2.2.2.2.1 M.2.2.2.2.2.2.2.2.2.1 M.2.2.2.2.2.2.2.2.2.2.1 M.2.2.2.2.2.2.2.2.2.2.2.1 M.2.2.2.2.2.2.2.2.2.2.2.2.1 M.2.2.2.2.2.2.2.2.2.2.2.2.2.1 M.2.2.2.2.2.2.2.2.2.2.2.2.2.2.1 M.2.2.2.2.2.2.2.2.2.2.2.2.2.2.2.1 M.2.2.2.2.2.2.2.2.2.2.2.2.2.2.2.2.1 M.2.2.2.2.2.2.2.2.2.2.2.2.2.2.2.2.2 (xs (i + 1).toNatClampNeg) (xs (i + 2).toNatClampNeg) om hom) kvX8_road wL_RL_22 ⟨Nat.le_of_ble_eq_true rfl, Nat.le_of_ble_eq_true rfl⟩ rfl rfl rfl rfl hl.1 (Nat.le_of_ble_eq_true rfl) dL_law_210 ⟨by show cells + 0 + 0 ≤ 600000; omega, by show slots + 0 + 0 ≤ 7302250; omega⟩ (fun r u H locs hp hI => ?_)
  replace hp : r = om.1 := hp
  rw [hp]
  clear hp r
  replace hI := hI.ofPerm (pm_sw _ _ _)
  obtain ⟨M1, eM1⟩ : ∃ z : MS, z = (M.1, om.2.1, M.2.2.1, M.2.2.2.1, M.2.2.2.2.1, om.2.2.1, om.2.2.2.1, om.2.2.2.2.1, om.2.2.2.2.2, M.2.2.2.2.2.2.2.2.2.1, M.2.2.2.2.2.2.2.2.2.2.1, M.2.2.2.2.2.2.2.2.2.2.2.1, M.2.2.2.2.2.2.2.2.2.2.2.2.1, M.2.2.2.2.2.2.2.2.2.2.2.2.2.1, M.2.2.2.2.2.2.2.2.2.2.2.2.2.2.1, M.2.2.2.2.2.2.2.2.2.2.2.2.2.2.2.1, M.2.2.2.2.2.2.2.2.2.2.2.2.2.2.2.2.1, M.2.2.2.2.2.2.2.2.2.2.2.2.2.2.2.2.2) := ⟨_, rfl⟩
  rw [← eM1] at hR1
  replace hI : WI D (fun q : Nat => s.heap.size ≤ q) s.heap (WL cI cJ cZ ax am N1 Q1 M1 (C.1, C.2.1, C.2.2)) H locs := by rw [eM1]; exact hI
  refine lv_icmp_eq (tgt := 876) hx hb dL_law_213 (by decide) (fun hc => ?_) (fun hc => ?_)
  · exact hN N1 Q1 M1 _ H locs ls _ _ hR1 hI hl (by show cells + 0 + 0 ≤ cells + 4; omega) (by show slots + 0 + 0 ≤ slots + 4200; omega)
  · exact absurd hrt hc
set_option maxHeartbeats 4000000 in
set_option maxRecDepth 100000 in
theorem lo_drop {p : Program} {e : Env} {s : State} {m : MethodId} {below : List Frame} {meth : Method} {c : Code} (l : Launch) {b L : Nat} {xs : Nat → Int32} (C0 : lw_At p s m meth c b L xs) (D : va_G) (cI cJ cZ : ClassId) (hK : KK D cI cJ cZ s) (ax am : Nat → Nat) {i : Int32} (hi1 : vp_in (i + 1) L) (hi2 : vp_in (i + 2) L) (hi3 : vp_in (i + 3) L) {cells slots : Nat} (hcl : cells + 4 ≤ 600000) (hsl : slots + 4200 ≤ 7302250) (hN : NextP p l e s m below meth c b D cI cJ cZ ax am i cells slots) {N : NS} {Q : QS} {M : MS} (C : CS) (hR : Rel N Q M) {H : Heap} {locs : List Loc} {ls : Array Slot} (hI : WI D (fun q : Nat => s.heap.size ≤ q) s.heap (WL cI cJ cZ ax am N Q M C) H locs) (hl : lv_has ls 4 [(0, .ref b), (1, .ref (ax 0)), (2, .ref (am 0)), (3, .int i)]) : W p l e room_1 s m #[Value.ref b] below meth c H locs cells slots (lw_Z below #[Value.ref b] s) (F0 m 218 ls []) := by
  obtain ⟨hx, hb, hr, hml, hown, hts, hX, hbl, hlocks, hgv⟩ := id C0
  have hA : ∀ q : Nat, s.heap.size ≤ q → (fun q : Nat => s.heap.size ≤ q) q := fun _ h => h
  have hbA : ¬ (fun q : Nat => s.heap.size ≤ q) b := Nat.not_le.mpr hbl
  have hg : ∀ w ∈ GW, w.before #[Value.ref b] s = true := fun w h => hts w (gw_tbl h)
  replace hown : s.vm.findClass RL = some m.cls := hown
  refine lv_aload_n hx hb dL_law_218 rfl (lv_at hl 1 rfl) ?_
  obtain ⟨ox, om, hox, hom, hrt, hR1⟩ := op_drop hR 
  refine w_ViA (wc := (wX cI cJ cZ (ax 0) (ax 1) (ax 2) (ax 3) (ax 4) (ax 5) (ax 6) (ax 7) (ax 8) (ax 9) (ax 10) (ax 11) (vH C.1) (vPk C.2.1) (vT C.2.2) N.1 N.2.1 N.2.2.1 N.2.2.2.1 N.2.2.2.2.1 N.2.2.2.2.2.1 N.2.2.2.2.2.2.1 N.2.2.2.2.2.2.2 Q.1 Q.2.1 Q.2.2.1 Q.2.2.2.1 Q.2.2.2.2)) (wr := ((wM cI cJ cZ (am 0) (am 1) (am 2) (am 3) (am 4) (am 5) (am 6) (am 7) (am 8) (am 9) (am 10) (am 11) (am 12) (am 13) M.1 M.2.1 M.2.2.1 M.2.2.2.1 M.2.2.2.2.1 M.2.2.2.2.2.1 M.2.2.2.2.2.2.1 M.2.2.2.2.2.2.2.1 M.2.2.2.2.2.2.2.2.1 M.2.2.2.2.2.2.2.2.2.1 M.2.2.2.2.2.2.2.2.2.2.1 M.2.2.2.2.2.2.2.2.2.2.2.1 M.2.2.2.2.2.2.2.2.2.2.2.2.1 M.2.2.2.2.2.2.2.2.2.2.2.2.2.1 M.2.2.2.2.2.2.2.2.2.2.2.2.2.2.1 M.2.2.2.2.2.2.2.2.2.2.2.2.2.2.2.1 M.2.2.2.2.2.2.2.2.2.2.2.2.2.2.2.2.1 M.2.2.2.2.2.2.2.2.2.2.2.2.2.2.2.2.2) ++ (eH cI (ax 1) C.1 ++ (eP cI cZ (ax 1) C.2.1 ++ eT cJ (ax 1) C.2.2)))) (rest := []) hx hb hml hg hown hK hA hI (List.Perm.refl _) (kX7_drop l D cI cJ cZ (ax 0) (ax 1) (ax 2) (ax 3) (ax 4) (ax 5) (ax 6) (ax 7) (ax 8) (ax 9) (ax 10) (ax 11) (vH C.1) (vPk C.2.1) (vT C.2.2) N.1 N.2.1 N.2.2.1 N.2.2.2.1 N.2.2.2.2.1 N.2.2.2.2.2.1 N.2.2.2.2.2.2.1 N.2.2.2.2.2.2.2 Q.1 Q.2.1 Q.2.2.1 Q.2.2.2.1 Q.2.2.2.2  ox hox) kvX7_drop wL_RL_23 ⟨Nat.le_of_ble_eq_true rfl, Nat.le_of_ble_eq_true rfl⟩ rfl rfl rfl rfl hl.1 (Nat.le_of_ble_eq_true rfl) dL_law_219 ⟨by show _ + 0 ≤ 600000; omega, by show _ + 0 ≤ 7302250; omega⟩ (fun r u H locs hp hI => ?_)
  replace hp : r = ox.1 := hp
  rw [hp]
  clear hp r
  replace hI : WI D (fun q : Nat => s.heap.size ≤ q) s.heap (WL cI cJ cZ ax am (N.1, ox.2.1, N.2.2.1, N.2.2.2.1, N.2.2.2.2.1, N.2.2.2.2.2.1, ox.2.2.1, ox.2.2.2) (Q.1, Q.2.1, Q.2.2.1, Q.2.2.2.1, Q.2.2.2.2) M (C.1, C.2.1, C.2.2)) H locs := hI
  refine lv_aload_n hx hb dL_law_222 rfl (lv_at hl 2 rfl) ?_
  obtain ⟨N1, eN1⟩ : ∃ z : NS, z = (N.1, ox.2.1, N.2.2.1, N.2.2.2.1, N.2.2.2.2.1, N.2.2.2.2.2.1, ox.2.2.1, ox.2.2.2) := ⟨_, rfl⟩
  obtain ⟨Q1, eQ1⟩ : ∃ z : QS, z = (Q.1, Q.2.1, Q.2.2.1, Q.2.2.2.1, Q.2.2.2.2) := ⟨_, rfl⟩
  rw [← eN1, ← eQ1] at hI hR1
  refine w_ViA (wc := (wM cI cJ cZ (am 0) (am 1) (am 2) (am 3) (am 4) (am 5) (am 6) (am 7) (am 8) (am 9) (am 10) (am 11) (am 12) (am 13) M.1 M.2.1 M.2.2.1 M.2.2.2.1 M.2.2.2.2.1 M.2.2.2.2.2.1 M.2.2.2.2.2.2.1 M.2.2.2.2.2.2.2.1 M.2.2.2.2.2.2.2.2.1 M.2.2.2.2.2.2.2.2.2.1 M.2.2.2.2.2.2.2.2.2.2.1 M.2.2.2.2.2.2.2.2.2.2.2.1 M.2.2.2.2.2.2.2.2.2.2.2.2.1 M.2.2.2.2.2.2.2.2.2.2.2.2.2.1 M.2.2.2.2.2.2.2.2.2.2.2.2.2.2.1 M.2.2.2.2.2.2.2.2.2.2.2.2.2.2.2.1 M.2.2.2.2.2.2.2.2.2.2.2.2.2.2.2.2.1 M.2.2.2.2.2.2.2.2.2.2.2.2.2.2.2.2.2)) (wr := ((wX cI cJ cZ (ax 0) (ax 1) (ax 2) (ax 3) (ax 4) (ax 5) (ax 6) (ax 7) (ax 8) (ax 9) (ax 10) (ax 11) (vH C.1) (vPk C.2.1) (vT C.2.2) N1.1 N1.2.1 N1.2.2.1 N1.2.2.2.1 N1.2.2.2.2.1 N1.2.2.2.2.2.1 N1.2.2.2.2.2.2.1 N1.2.2.2.2.2.2.2 Q1.1 Q1.2.1 Q1.2.2.1 Q1.2.2.2.1 Q1.2.2.2.2) ++ (eH cI (ax 1) C.1 ++ (eP cI cZ (ax 1) C.2.1 ++ eT cJ (ax 1) C.2.2)))) (rest := [.int ox.1]) hx hb hml hg hown hK hA hI (pm_sw _ _ _) (kX8_drop l D cI cJ cZ (am 0) (am 1) (am 2) (am 3) (am 4) (am 5) (am 6) (am 7) (am 8) (am 9) (am 10) (am 11) (am 12) (am 13) M.1 M.2.1 M.2.2.1 M.2.2.2.1 M.2.2.2.2.1 M.2.2.2.2.2.1 M.2.2.2.2.2.2.1 M.2.2.2.2.2.2.2.1 M.2.2.2.2.2.2.2.2.1 M.2.2.2.2.2.2.2.2.2.1 M.2.2.2.2.2.2.2.2.2.2.1 M.2.2.2.2.2.2.2.2.2.2.2.1 M.2.2.2.2.2.2.2.2.2.2.2.2.1 M.2.2.2.2.2.2.2.2.2.2.2.2.2.1 M.2.2.2.2.2.2.2.2.2.2.2.2.2.2.1 M.2.2.2.2.2.2.2.2.2.2.2.2.2.2.2.1 M.2.2.2.2.2.2.2.2.2.2.2.2.2.2.2.2.1 M.2.2.2.2.2.2.2.2.2.2.2.2.2.2.2.2.2  om hom) kvX8_drop wL_RL_26 ⟨Nat.le_of_ble_eq_true rfl, Nat.le_of_ble_eq_true rfl⟩ rfl rfl rfl rfl hl.1 (Nat.le_of_ble_eq_true rfl) dL_law_223 ⟨by show cells + 0 + 0 ≤ 600000; omega, by show slots + 0 + 0 ≤ 7302250; omega⟩ (fun r u H locs hp hI => ?_)
  replace hp : r = om.1 := hp
  rw [hp]
  clear hp r
  replace hI := hI.ofPerm (pm_sw _ _ _)
  obtain ⟨M1, eM1⟩ : ∃ z : MS, z = (M.1, om.2, M.2.2.1, M.2.2.2.1, M.2.2.2.2.1, M.2.2.2.2.2.1, M.2.2.2.2.2.2.1, M.2.2.2.2.2.2.2.1, M.2.2.2.2.2.2.2.2.1, M.2.2.2.2.2.2.2.2.2.1, M.2.2.2.2.2.2.2.2.2.2.1, M.2.2.2.2.2.2.2.2.2.2.2.1, M.2.2.2.2.2.2.2.2.2.2.2.2.1, M.2.2.2.2.2.2.2.2.2.2.2.2.2.1, M.2.2.2.2.2.2.2.2.2.2.2.2.2.2.1, M.2.2.2.2.2.2.2.2.2.2.2.2.2.2.2.1, M.2.2.2.2.2.2.2.2.2.2.2.2.2.2.2.2.1, M.2.2.2.2.2.2.2.2.2.2.2.2.2.2.2.2.2) := ⟨_, rfl⟩
  rw [← eM1] at hR1
  replace hI : WI D (fun q : Nat => s.heap.size ≤ q) s.heap (WL cI cJ cZ ax am N1 Q1 M1 (C.1, C.2.1, C.2.2)) H locs := by rw [eM1]; exact hI
  refine lv_icmp_eq (tgt := 876) hx hb dL_law_226 (by decide) (fun hc => ?_) (fun hc => ?_)
  · exact hN N1 Q1 M1 _ H locs ls _ _ hR1 hI hl (by show cells + 0 + 0 ≤ cells + 4; omega) (by show slots + 0 + 0 ≤ slots + 4200; omega)
  · exact absurd hrt hc
set_option maxHeartbeats 4000000 in
set_option maxRecDepth 100000 in
theorem lo_paint {p : Program} {e : Env} {s : State} {m : MethodId} {below : List Frame} {meth : Method} {c : Code} (l : Launch) {b L : Nat} {xs : Nat → Int32} (C0 : lw_At p s m meth c b L xs) (D : va_G) (cI cJ cZ : ClassId) (hK : KK D cI cJ cZ s) (ax am : Nat → Nat) {i : Int32} (hi1 : vp_in (i + 1) L) (hi2 : vp_in (i + 2) L) (hi3 : vp_in (i + 3) L) {cells slots : Nat} (hcl : cells + 4 ≤ 600000) (hsl : slots + 4200 ≤ 7302250) (hN : NextP p l e s m below meth c b D cI cJ cZ ax am i cells slots) {N : NS} {Q : QS} {M : MS} (C : CS) (hR : Rel N Q M) {H : Heap} {locs : List Loc} {ls : Array Slot} (hI : WI D (fun q : Nat => s.heap.size ≤ q) s.heap (WL cI cJ cZ ax am N Q M C) H locs) (hl : lv_has ls 4 [(0, .ref b), (1, .ref (ax 0)), (2, .ref (am 0)), (3, .int i)]) : W p l e room_1 s m #[Value.ref b] below meth c H locs cells slots (lw_Z below #[Value.ref b] s) (F0 m 231 ls []) := by
  obtain ⟨hx, hb, hr, hml, hown, hts, hX, hbl, hlocks, hgv⟩ := id C0
  have hA : ∀ q : Nat, s.heap.size ≤ q → (fun q : Nat => s.heap.size ≤ q) q := fun _ h => h
  have hbA : ¬ (fun q : Nat => s.heap.size ≤ q) b := Nat.not_le.mpr hbl
  have hg : ∀ w ∈ GW, w.before #[Value.ref b] s = true := fun w h => hts w (gw_tbl h)
  replace hown : s.vm.findClass RL = some m.cls := hown
  refine lv_aload_n hx hb dL_law_231 rfl (lv_at hl 1 rfl) ?_
  refine lv_aload_n hx hb dL_law_232 rfl (lv_at hl 0 rfl) ?_
  refine lv_iload_n hx hb dL_law_233 rfl (lv_at hl 3 rfl) ?_
  refine lv_iconst (v := 1) hx hb dL_law_234 (by decide) ?_
  refine lv_iadd hx hb dL_law_235 ?_
  refine va_sld hx hb hX hbl hbA hI.2.2 hi1 dL_law_236 ?_
  refine lv_aload_n hx hb dL_law_237 rfl (lv_at hl 0 rfl) ?_
  refine lv_iload_n hx hb dL_law_238 rfl (lv_at hl 3 rfl) ?_
  refine lv_iconst (v := 2) hx hb dL_law_239 (by decide) ?_
  refine lv_iadd hx hb dL_law_240 ?_
  refine va_sld hx hb hX hbl hbA hI.2.2 hi2 dL_law_241 ?_
  obtain ⟨ox, om, hox, hom, hrt, hR1⟩ := op_paint hR (xs (i + 1).toNatClampNeg) (xs (i + 2).toNatClampNeg)
  refine w_ViA (wc := (wX cI cJ cZ (ax 0) (ax 1) (ax 2) (ax 3) (ax 4) (ax 5) (ax 6) (ax 7) (ax 8) (ax 9) (ax 10) (ax 11) (vH C.1) (vPk C.2.1) (vT C.2.2) N.1 N.2.1 N.2.2.1 N.2.2.2.1 N.2.2.2.2.1 N.2.2.2.2.2.1 N.2.2.2.2.2.2.1 N.2.2.2.2.2.2.2 Q.1 Q.2.1 Q.2.2.1 Q.2.2.2.1 Q.2.2.2.2)) (wr := ((wM cI cJ cZ (am 0) (am 1) (am 2) (am 3) (am 4) (am 5) (am 6) (am 7) (am 8) (am 9) (am 10) (am 11) (am 12) (am 13) M.1 M.2.1 M.2.2.1 M.2.2.2.1 M.2.2.2.2.1 M.2.2.2.2.2.1 M.2.2.2.2.2.2.1 M.2.2.2.2.2.2.2.1 M.2.2.2.2.2.2.2.2.1 M.2.2.2.2.2.2.2.2.2.1 M.2.2.2.2.2.2.2.2.2.2.1 M.2.2.2.2.2.2.2.2.2.2.2.1 M.2.2.2.2.2.2.2.2.2.2.2.2.1 M.2.2.2.2.2.2.2.2.2.2.2.2.2.1 M.2.2.2.2.2.2.2.2.2.2.2.2.2.2.1 M.2.2.2.2.2.2.2.2.2.2.2.2.2.2.2.1 M.2.2.2.2.2.2.2.2.2.2.2.2.2.2.2.2.1 M.2.2.2.2.2.2.2.2.2.2.2.2.2.2.2.2.2) ++ (eH cI (ax 1) C.1 ++ (eP cI cZ (ax 1) C.2.1 ++ eT cJ (ax 1) C.2.2)))) (rest := []) hx hb hml hg hown hK hA hI (List.Perm.refl _) (kX7_paint l D cI cJ cZ (ax 0) (ax 1) (ax 2) (ax 3) (ax 4) (ax 5) (ax 6) (ax 7) (ax 8) (ax 9) (ax 10) (ax 11) (vH C.1) (vPk C.2.1) (vT C.2.2) N.1 N.2.1 N.2.2.1 N.2.2.2.1 N.2.2.2.2.1 N.2.2.2.2.2.1 N.2.2.2.2.2.2.1 N.2.2.2.2.2.2.2 Q.1 Q.2.1 Q.2.2.1 Q.2.2.2.1 Q.2.2.2.2 (xs (i + 1).toNatClampNeg) (xs (i + 2).toNatClampNeg) ox hox) kvX7_paint wL_RL_27 ⟨Nat.le_of_ble_eq_true rfl, Nat.le_of_ble_eq_true rfl⟩ rfl rfl rfl rfl hl.1 (Nat.le_of_ble_eq_true rfl) dL_law_242 ⟨by show _ + 0 ≤ 600000; omega, by show _ + 0 ≤ 7302250; omega⟩ (fun r u H locs hp hI => ?_)
  replace hp : r = ox.1 := hp
  rw [hp]
  clear hp r
  replace hI : WI D (fun q : Nat => s.heap.size ≤ q) s.heap (WL cI cJ cZ ax am (N.1, N.2.1, N.2.2.1, N.2.2.2.1, ox.2, N.2.2.2.2.2.1, N.2.2.2.2.2.2.1, N.2.2.2.2.2.2.2) (Q.1, Q.2.1, Q.2.2.1, Q.2.2.2.1, Q.2.2.2.2) M (C.1, C.2.1, C.2.2)) H locs := hI
  refine lv_aload_n hx hb dL_law_245 rfl (lv_at hl 2 rfl) ?_
  refine lv_aload_n hx hb dL_law_246 rfl (lv_at hl 0 rfl) ?_
  refine lv_iload_n hx hb dL_law_247 rfl (lv_at hl 3 rfl) ?_
  refine lv_iconst (v := 1) hx hb dL_law_248 (by decide) ?_
  refine lv_iadd hx hb dL_law_249 ?_
  refine va_sld hx hb hX hbl hbA hI.2.2 hi1 dL_law_250 ?_
  refine lv_aload_n hx hb dL_law_251 rfl (lv_at hl 0 rfl) ?_
  refine lv_iload_n hx hb dL_law_252 rfl (lv_at hl 3 rfl) ?_
  refine lv_iconst (v := 2) hx hb dL_law_253 (by decide) ?_
  refine lv_iadd hx hb dL_law_254 ?_
  refine va_sld hx hb hX hbl hbA hI.2.2 hi2 dL_law_255 ?_
  obtain ⟨N1, eN1⟩ : ∃ z : NS, z = (N.1, N.2.1, N.2.2.1, N.2.2.2.1, ox.2, N.2.2.2.2.2.1, N.2.2.2.2.2.2.1, N.2.2.2.2.2.2.2) := ⟨_, rfl⟩
  obtain ⟨Q1, eQ1⟩ : ∃ z : QS, z = (Q.1, Q.2.1, Q.2.2.1, Q.2.2.2.1, Q.2.2.2.2) := ⟨_, rfl⟩
  rw [← eN1, ← eQ1] at hI hR1
  refine w_ViA (wc := (wM cI cJ cZ (am 0) (am 1) (am 2) (am 3) (am 4) (am 5) (am 6) (am 7) (am 8) (am 9) (am 10) (am 11) (am 12) (am 13) M.1 M.2.1 M.2.2.1 M.2.2.2.1 M.2.2.2.2.1 M.2.2.2.2.2.1 M.2.2.2.2.2.2.1 M.2.2.2.2.2.2.2.1 M.2.2.2.2.2.2.2.2.1 M.2.2.2.2.2.2.2.2.2.1 M.2.2.2.2.2.2.2.2.2.2.1 M.2.2.2.2.2.2.2.2.2.2.2.1 M.2.2.2.2.2.2.2.2.2.2.2.2.1 M.2.2.2.2.2.2.2.2.2.2.2.2.2.1 M.2.2.2.2.2.2.2.2.2.2.2.2.2.2.1 M.2.2.2.2.2.2.2.2.2.2.2.2.2.2.2.1 M.2.2.2.2.2.2.2.2.2.2.2.2.2.2.2.2.1 M.2.2.2.2.2.2.2.2.2.2.2.2.2.2.2.2.2)) (wr := ((wX cI cJ cZ (ax 0) (ax 1) (ax 2) (ax 3) (ax 4) (ax 5) (ax 6) (ax 7) (ax 8) (ax 9) (ax 10) (ax 11) (vH C.1) (vPk C.2.1) (vT C.2.2) N1.1 N1.2.1 N1.2.2.1 N1.2.2.2.1 N1.2.2.2.2.1 N1.2.2.2.2.2.1 N1.2.2.2.2.2.2.1 N1.2.2.2.2.2.2.2 Q1.1 Q1.2.1 Q1.2.2.1 Q1.2.2.2.1 Q1.2.2.2.2) ++ (eH cI (ax 1) C.1 ++ (eP cI cZ (ax 1) C.2.1 ++ eT cJ (ax 1) C.2.2)))) (rest := [.int ox.1]) hx hb hml hg hown hK hA hI (pm_sw _ _ _) (kX8_paint l D cI cJ cZ (am 0) (am 1) (am 2) (am 3) (am 4) (am 5) (am 6) (am 7) (am 8) (am 9) (am 10) (am 11) (am 12) (am 13) M.1 M.2.1 M.2.2.1 M.2.2.2.1 M.2.2.2.2.1 M.2.2.2.2.2.1 M.2.2.2.2.2.2.1 M.2.2.2.2.2.2.2.1 M.2.2.2.2.2.2.2.2.1 M.2.2.2.2.2.2.2.2.2.1 M.2.2.2.2.2.2.2.2.2.2.1 M.2.2.2.2.2.2.2.2.2.2.2.1 M.2.2.2.2.2.2.2.2.2.2.2.2.1 M.2.2.2.2.2.2.2.2.2.2.2.2.2.1 M.2.2.2.2.2.2.2.2.2.2.2.2.2.2.1 M.2.2.2.2.2.2.2.2.2.2.2.2.2.2.2.1 M.2.2.2.2.2.2.2.2.2.2.2.2.2.2.2.2.1 M.2.2.2.2.2.2.2.2.2.2.2.2.2.2.2.2.2 (xs (i + 1).toNatClampNeg) (xs (i + 2).toNatClampNeg) om hom) kvX8_paint wL_RL_30 ⟨Nat.le_of_ble_eq_true rfl, Nat.le_of_ble_eq_true rfl⟩ rfl rfl rfl rfl hl.1 (Nat.le_of_ble_eq_true rfl) dL_law_256 ⟨by show cells + 0 + 0 ≤ 600000; omega, by show slots + 0 + 0 ≤ 7302250; omega⟩ (fun r u H locs hp hI => ?_)
  replace hp : r = om.1 := hp
  rw [hp]
  clear hp r
  replace hI := hI.ofPerm (pm_sw _ _ _)
  obtain ⟨M1, eM1⟩ : ∃ z : MS, z = (M.1, M.2.1, M.2.2.1, M.2.2.2.1, M.2.2.2.2.1, M.2.2.2.2.2.1, M.2.2.2.2.2.2.1, om.2, M.2.2.2.2.2.2.2.2.1, M.2.2.2.2.2.2.2.2.2.1, M.2.2.2.2.2.2.2.2.2.2.1, M.2.2.2.2.2.2.2.2.2.2.2.1, M.2.2.2.2.2.2.2.2.2.2.2.2.1, M.2.2.2.2.2.2.2.2.2.2.2.2.2.1, M.2.2.2.2.2.2.2.2.2.2.2.2.2.2.1, M.2.2.2.2.2.2.2.2.2.2.2.2.2.2.2.1, M.2.2.2.2.2.2.2.2.2.2.2.2.2.2.2.2.1, M.2.2.2.2.2.2.2.2.2.2.2.2.2.2.2.2.2) := ⟨_, rfl⟩
  rw [← eM1] at hR1
  replace hI : WI D (fun q : Nat => s.heap.size ≤ q) s.heap (WL cI cJ cZ ax am N1 Q1 M1 (C.1, C.2.1, C.2.2)) H locs := by rw [eM1]; exact hI
  refine lv_icmp_eq (tgt := 876) hx hb dL_law_259 (by decide) (fun hc => ?_) (fun hc => ?_)
  · exact hN N1 Q1 M1 _ H locs ls _ _ hR1 hI hl (by show cells + 0 + 0 ≤ cells + 4; omega) (by show slots + 0 + 0 ≤ slots + 4200; omega)
  · exact absurd hrt hc
set_option maxHeartbeats 4000000 in
set_option maxRecDepth 100000 in
theorem lo_wash {p : Program} {e : Env} {s : State} {m : MethodId} {below : List Frame} {meth : Method} {c : Code} (l : Launch) {b L : Nat} {xs : Nat → Int32} (C0 : lw_At p s m meth c b L xs) (D : va_G) (cI cJ cZ : ClassId) (hK : KK D cI cJ cZ s) (ax am : Nat → Nat) {i : Int32} (hi1 : vp_in (i + 1) L) (hi2 : vp_in (i + 2) L) (hi3 : vp_in (i + 3) L) {cells slots : Nat} (hcl : cells + 4 ≤ 600000) (hsl : slots + 4200 ≤ 7302250) (hN : NextP p l e s m below meth c b D cI cJ cZ ax am i cells slots) {N : NS} {Q : QS} {M : MS} (C : CS) (hR : Rel N Q M) {H : Heap} {locs : List Loc} {ls : Array Slot} (hI : WI D (fun q : Nat => s.heap.size ≤ q) s.heap (WL cI cJ cZ ax am N Q M C) H locs) (hl : lv_has ls 4 [(0, .ref b), (1, .ref (ax 0)), (2, .ref (am 0)), (3, .int i)]) : W p l e room_1 s m #[Value.ref b] below meth c H locs cells slots (lw_Z below #[Value.ref b] s) (F0 m 264 ls []) := by
  obtain ⟨hx, hb, hr, hml, hown, hts, hX, hbl, hlocks, hgv⟩ := id C0
  have hA : ∀ q : Nat, s.heap.size ≤ q → (fun q : Nat => s.heap.size ≤ q) q := fun _ h => h
  have hbA : ¬ (fun q : Nat => s.heap.size ≤ q) b := Nat.not_le.mpr hbl
  have hg : ∀ w ∈ GW, w.before #[Value.ref b] s = true := fun w h => hts w (gw_tbl h)
  replace hown : s.vm.findClass RL = some m.cls := hown
  refine lv_aload_n hx hb dL_law_264 rfl (lv_at hl 1 rfl) ?_
  obtain ⟨ox, om, hox, hom, hrt, hR1⟩ := op_wash hR 
  refine w_ViA (wc := (wX cI cJ cZ (ax 0) (ax 1) (ax 2) (ax 3) (ax 4) (ax 5) (ax 6) (ax 7) (ax 8) (ax 9) (ax 10) (ax 11) (vH C.1) (vPk C.2.1) (vT C.2.2) N.1 N.2.1 N.2.2.1 N.2.2.2.1 N.2.2.2.2.1 N.2.2.2.2.2.1 N.2.2.2.2.2.2.1 N.2.2.2.2.2.2.2 Q.1 Q.2.1 Q.2.2.1 Q.2.2.2.1 Q.2.2.2.2)) (wr := ((wM cI cJ cZ (am 0) (am 1) (am 2) (am 3) (am 4) (am 5) (am 6) (am 7) (am 8) (am 9) (am 10) (am 11) (am 12) (am 13) M.1 M.2.1 M.2.2.1 M.2.2.2.1 M.2.2.2.2.1 M.2.2.2.2.2.1 M.2.2.2.2.2.2.1 M.2.2.2.2.2.2.2.1 M.2.2.2.2.2.2.2.2.1 M.2.2.2.2.2.2.2.2.2.1 M.2.2.2.2.2.2.2.2.2.2.1 M.2.2.2.2.2.2.2.2.2.2.2.1 M.2.2.2.2.2.2.2.2.2.2.2.2.1 M.2.2.2.2.2.2.2.2.2.2.2.2.2.1 M.2.2.2.2.2.2.2.2.2.2.2.2.2.2.1 M.2.2.2.2.2.2.2.2.2.2.2.2.2.2.2.1 M.2.2.2.2.2.2.2.2.2.2.2.2.2.2.2.2.1 M.2.2.2.2.2.2.2.2.2.2.2.2.2.2.2.2.2) ++ (eH cI (ax 1) C.1 ++ (eP cI cZ (ax 1) C.2.1 ++ eT cJ (ax 1) C.2.2)))) (rest := []) hx hb hml hg hown hK hA hI (List.Perm.refl _) (kX7_wash l D cI cJ cZ (ax 0) (ax 1) (ax 2) (ax 3) (ax 4) (ax 5) (ax 6) (ax 7) (ax 8) (ax 9) (ax 10) (ax 11) (vH C.1) (vPk C.2.1) (vT C.2.2) N.1 N.2.1 N.2.2.1 N.2.2.2.1 N.2.2.2.2.1 N.2.2.2.2.2.1 N.2.2.2.2.2.2.1 N.2.2.2.2.2.2.2 Q.1 Q.2.1 Q.2.2.1 Q.2.2.2.1 Q.2.2.2.2  ox hox) kvX7_wash wL_RL_31 ⟨Nat.le_of_ble_eq_true rfl, Nat.le_of_ble_eq_true rfl⟩ rfl rfl rfl rfl hl.1 (Nat.le_of_ble_eq_true rfl) dL_law_265 ⟨by show _ + 0 ≤ 600000; omega, by show _ + 0 ≤ 7302250; omega⟩ (fun r u H locs hp hI => ?_)
  replace hp : r = ox.1 := hp
  rw [hp]
  clear hp r
  replace hI : WI D (fun q : Nat => s.heap.size ≤ q) s.heap (WL cI cJ cZ ax am (N.1, N.2.1, N.2.2.1, N.2.2.2.1, ox.2, N.2.2.2.2.2.1, N.2.2.2.2.2.2.1, N.2.2.2.2.2.2.2) (Q.1, Q.2.1, Q.2.2.1, Q.2.2.2.1, Q.2.2.2.2) M (C.1, C.2.1, C.2.2)) H locs := hI
  refine lv_aload_n hx hb dL_law_268 rfl (lv_at hl 2 rfl) ?_
  obtain ⟨N1, eN1⟩ : ∃ z : NS, z = (N.1, N.2.1, N.2.2.1, N.2.2.2.1, ox.2, N.2.2.2.2.2.1, N.2.2.2.2.2.2.1, N.2.2.2.2.2.2.2) := ⟨_, rfl⟩
  obtain ⟨Q1, eQ1⟩ : ∃ z : QS, z = (Q.1, Q.2.1, Q.2.2.1, Q.2.2.2.1, Q.2.2.2.2) := ⟨_, rfl⟩
  rw [← eN1, ← eQ1] at hI hR1
  refine w_ViA (wc := (wM cI cJ cZ (am 0) (am 1) (am 2) (am 3) (am 4) (am 5) (am 6) (am 7) (am 8) (am 9) (am 10) (am 11) (am 12) (am 13) M.1 M.2.1 M.2.2.1 M.2.2.2.1 M.2.2.2.2.1 M.2.2.2.2.2.1 M.2.2.2.2.2.2.1 M.2.2.2.2.2.2.2.1 M.2.2.2.2.2.2.2.2.1 M.2.2.2.2.2.2.2.2.2.1 M.2.2.2.2.2.2.2.2.2.2.1 M.2.2.2.2.2.2.2.2.2.2.2.1 M.2.2.2.2.2.2.2.2.2.2.2.2.1 M.2.2.2.2.2.2.2.2.2.2.2.2.2.1 M.2.2.2.2.2.2.2.2.2.2.2.2.2.2.1 M.2.2.2.2.2.2.2.2.2.2.2.2.2.2.2.1 M.2.2.2.2.2.2.2.2.2.2.2.2.2.2.2.2.1 M.2.2.2.2.2.2.2.2.2.2.2.2.2.2.2.2.2)) (wr := ((wX cI cJ cZ (ax 0) (ax 1) (ax 2) (ax 3) (ax 4) (ax 5) (ax 6) (ax 7) (ax 8) (ax 9) (ax 10) (ax 11) (vH C.1) (vPk C.2.1) (vT C.2.2) N1.1 N1.2.1 N1.2.2.1 N1.2.2.2.1 N1.2.2.2.2.1 N1.2.2.2.2.2.1 N1.2.2.2.2.2.2.1 N1.2.2.2.2.2.2.2 Q1.1 Q1.2.1 Q1.2.2.1 Q1.2.2.2.1 Q1.2.2.2.2) ++ (eH cI (ax 1) C.1 ++ (eP cI cZ (ax 1) C.2.1 ++ eT cJ (ax 1) C.2.2)))) (rest := [.int ox.1]) hx hb hml hg hown hK hA hI (pm_sw _ _ _) (kX8_wash l D cI cJ cZ (am 0) (am 1) (am 2) (am 3) (am 4) (am 5) (am 6) (am 7) (am 8) (am 9) (am 10) (am 11) (am 12) (am 13) M.1 M.2.1 M.2.2.1 M.2.2.2.1 M.2.2.2.2.1 M.2.2.2.2.2.1 M.2.2.2.2.2.2.1 M.2.2.2.2.2.2.2.1 M.2.2.2.2.2.2.2.2.1 M.2.2.2.2.2.2.2.2.2.1 M.2.2.2.2.2.2.2.2.2.2.1 M.2.2.2.2.2.2.2.2.2.2.2.1 M.2.2.2.2.2.2.2.2.2.2.2.2.1 M.2.2.2.2.2.2.2.2.2.2.2.2.2.1 M.2.2.2.2.2.2.2.2.2.2.2.2.2.2.1 M.2.2.2.2.2.2.2.2.2.2.2.2.2.2.2.1 M.2.2.2.2.2.2.2.2.2.2.2.2.2.2.2.2.1 M.2.2.2.2.2.2.2.2.2.2.2.2.2.2.2.2.2  om hom) kvX8_wash wL_RL_34 ⟨Nat.le_of_ble_eq_true rfl, Nat.le_of_ble_eq_true rfl⟩ rfl rfl rfl rfl hl.1 (Nat.le_of_ble_eq_true rfl) dL_law_269 ⟨by show cells + 0 + 0 ≤ 600000; omega, by show slots + 0 + 0 ≤ 7302250; omega⟩ (fun r u H locs hp hI => ?_)
  replace hp : r = om.1 := hp
  rw [hp]
  clear hp r
  replace hI := hI.ofPerm (pm_sw _ _ _)
  obtain ⟨M1, eM1⟩ : ∃ z : MS, z = (M.1, M.2.1, M.2.2.1, M.2.2.2.1, M.2.2.2.2.1, M.2.2.2.2.2.1, M.2.2.2.2.2.2.1, om.2, M.2.2.2.2.2.2.2.2.1, M.2.2.2.2.2.2.2.2.2.1, M.2.2.2.2.2.2.2.2.2.2.1, M.2.2.2.2.2.2.2.2.2.2.2.1, M.2.2.2.2.2.2.2.2.2.2.2.2.1, M.2.2.2.2.2.2.2.2.2.2.2.2.2.1, M.2.2.2.2.2.2.2.2.2.2.2.2.2.2.1, M.2.2.2.2.2.2.2.2.2.2.2.2.2.2.2.1, M.2.2.2.2.2.2.2.2.2.2.2.2.2.2.2.2.1, M.2.2.2.2.2.2.2.2.2.2.2.2.2.2.2.2.2) := ⟨_, rfl⟩
  rw [← eM1] at hR1
  replace hI : WI D (fun q : Nat => s.heap.size ≤ q) s.heap (WL cI cJ cZ ax am N1 Q1 M1 (C.1, C.2.1, C.2.2)) H locs := by rw [eM1]; exact hI
  refine lv_icmp_eq (tgt := 876) hx hb dL_law_272 (by decide) (fun hc => ?_) (fun hc => ?_)
  · exact hN N1 Q1 M1 _ H locs ls _ _ hR1 hI hl (by show cells + 0 + 0 ≤ cells + 4; omega) (by show slots + 0 + 0 ≤ slots + 4200; omega)
  · exact absurd hrt hc
set_option maxHeartbeats 4000000 in
set_option maxRecDepth 100000 in
theorem lo_of {p : Program} {e : Env} {s : State} {m : MethodId} {below : List Frame} {meth : Method} {c : Code} (l : Launch) {b L : Nat} {xs : Nat → Int32} (C0 : lw_At p s m meth c b L xs) (D : va_G) (cI cJ cZ : ClassId) (hK : KK D cI cJ cZ s) (ax am : Nat → Nat) {i : Int32} (hi1 : vp_in (i + 1) L) (hi2 : vp_in (i + 2) L) (hi3 : vp_in (i + 3) L) {cells slots : Nat} (hcl : cells + 4 ≤ 600000) (hsl : slots + 4200 ≤ 7302250) (hN : NextP p l e s m below meth c b D cI cJ cZ ax am i cells slots) {N : NS} {Q : QS} {M : MS} (C : CS) (hR : Rel N Q M) {H : Heap} {locs : List Loc} {ls : Array Slot} (hI : WI D (fun q : Nat => s.heap.size ≤ q) s.heap (WL cI cJ cZ ax am N Q M C) H locs) (hl : lv_has ls 4 [(0, .ref b), (1, .ref (ax 0)), (2, .ref (am 0)), (3, .int i)]) : W p l e room_1 s m #[Value.ref b] below meth c H locs cells slots (lw_Z below #[Value.ref b] s) (F0 m 277 ls []) := by
  obtain ⟨hx, hb, hr, hml, hown, hts, hX, hbl, hlocks, hgv⟩ := id C0
  have hA : ∀ q : Nat, s.heap.size ≤ q → (fun q : Nat => s.heap.size ≤ q) q := fun _ h => h
  have hbA : ¬ (fun q : Nat => s.heap.size ≤ q) b := Nat.not_le.mpr hbl
  have hg : ∀ w ∈ GW, w.before #[Value.ref b] s = true := fun w h => hts w (gw_tbl h)
  replace hown : s.vm.findClass RL = some m.cls := hown
  refine lv_aload_n hx hb dL_law_277 rfl (lv_at hl 1 rfl) ?_
  refine lv_aload_n hx hb dL_law_278 rfl (lv_at hl 0 rfl) ?_
  refine lv_iload_n hx hb dL_law_279 rfl (lv_at hl 3 rfl) ?_
  refine lv_iconst (v := 1) hx hb dL_law_280 (by decide) ?_
  refine lv_iadd hx hb dL_law_281 ?_
  refine va_sld hx hb hX hbl hbA hI.2.2 hi1 dL_law_282 ?_
  refine lv_aload_n hx hb dL_law_283 rfl (lv_at hl 0 rfl) ?_
  refine lv_iload_n hx hb dL_law_284 rfl (lv_at hl 3 rfl) ?_
  refine lv_iconst (v := 2) hx hb dL_law_285 (by decide) ?_
  refine lv_iadd hx hb dL_law_286 ?_
  refine va_sld hx hb hX hbl hbA hI.2.2 hi2 dL_law_287 ?_
  obtain ⟨ox, om, hox, hom, hrt, hR1⟩ := op_of hR (xs (i + 1).toNatClampNeg) (xs (i + 2).toNatClampNeg)
  refine w_ViA (wc := (wX cI cJ cZ (ax 0) (ax 1) (ax 2) (ax 3) (ax 4) (ax 5) (ax 6) (ax 7) (ax 8) (ax 9) (ax 10) (ax 11) (vH C.1) (vPk C.2.1) (vT C.2.2) N.1 N.2.1 N.2.2.1 N.2.2.2.1 N.2.2.2.2.1 N.2.2.2.2.2.1 N.2.2.2.2.2.2.1 N.2.2.2.2.2.2.2 Q.1 Q.2.1 Q.2.2.1 Q.2.2.2.1 Q.2.2.2.2)) (wr := ((wM cI cJ cZ (am 0) (am 1) (am 2) (am 3) (am 4) (am 5) (am 6) (am 7) (am 8) (am 9) (am 10) (am 11) (am 12) (am 13) M.1 M.2.1 M.2.2.1 M.2.2.2.1 M.2.2.2.2.1 M.2.2.2.2.2.1 M.2.2.2.2.2.2.1 M.2.2.2.2.2.2.2.1 M.2.2.2.2.2.2.2.2.1 M.2.2.2.2.2.2.2.2.2.1 M.2.2.2.2.2.2.2.2.2.2.1 M.2.2.2.2.2.2.2.2.2.2.2.1 M.2.2.2.2.2.2.2.2.2.2.2.2.1 M.2.2.2.2.2.2.2.2.2.2.2.2.2.1 M.2.2.2.2.2.2.2.2.2.2.2.2.2.2.1 M.2.2.2.2.2.2.2.2.2.2.2.2.2.2.2.1 M.2.2.2.2.2.2.2.2.2.2.2.2.2.2.2.2.1 M.2.2.2.2.2.2.2.2.2.2.2.2.2.2.2.2.2) ++ (eH cI (ax 1) C.1 ++ (eP cI cZ (ax 1) C.2.1 ++ eT cJ (ax 1) C.2.2)))) (rest := []) hx hb hml hg hown hK hA hI (List.Perm.refl _) (kX7_of l D cI cJ cZ (ax 0) (ax 1) (ax 2) (ax 3) (ax 4) (ax 5) (ax 6) (ax 7) (ax 8) (ax 9) (ax 10) (ax 11) (vH C.1) (vPk C.2.1) (vT C.2.2) N.1 N.2.1 N.2.2.1 N.2.2.2.1 N.2.2.2.2.1 N.2.2.2.2.2.1 N.2.2.2.2.2.2.1 N.2.2.2.2.2.2.2 Q.1 Q.2.1 Q.2.2.1 Q.2.2.2.1 Q.2.2.2.2 (xs (i + 1).toNatClampNeg) (xs (i + 2).toNatClampNeg) ox hox) kvX7_of wL_RL_35 ⟨Nat.le_of_ble_eq_true rfl, Nat.le_of_ble_eq_true rfl⟩ rfl rfl rfl rfl hl.1 (Nat.le_of_ble_eq_true rfl) dL_law_288 ⟨by show _ + 0 ≤ 600000; omega, by show _ + 0 ≤ 7302250; omega⟩ (fun r u H locs hp hI => ?_)
  replace hp : r = ox := hp
  rw [hp]
  clear hp r
  replace hI : WI D (fun q : Nat => s.heap.size ≤ q) s.heap (WL cI cJ cZ ax am (N.1, N.2.1, N.2.2.1, N.2.2.2.1, N.2.2.2.2.1, N.2.2.2.2.2.1, N.2.2.2.2.2.2.1, N.2.2.2.2.2.2.2) (Q.1, Q.2.1, Q.2.2.1, Q.2.2.2.1, Q.2.2.2.2) M (C.1, C.2.1, C.2.2)) H locs := hI
  refine lv_aload_n hx hb dL_law_291 rfl (lv_at hl 2 rfl) ?_
  refine lv_aload_n hx hb dL_law_292 rfl (lv_at hl 0 rfl) ?_
  refine lv_iload_n hx hb dL_law_293 rfl (lv_at hl 3 rfl) ?_
  refine lv_iconst (v := 1) hx hb dL_law_294 (by decide) ?_
  refine lv_iadd hx hb dL_law_295 ?_
  refine va_sld hx hb hX hbl hbA hI.2.2 hi1 dL_law_296 ?_
  refine lv_aload_n hx hb dL_law_297 rfl (lv_at hl 0 rfl) ?_
  refine lv_iload_n hx hb dL_law_298 rfl (lv_at hl 3 rfl) ?_
  refine lv_iconst (v := 2) hx hb dL_law_299 (by decide) ?_
  refine lv_iadd hx hb dL_law_300 ?_
  refine va_sld hx hb hX hbl hbA hI.2.2 hi2 dL_law_301 ?_
  obtain ⟨N1, eN1⟩ : ∃ z : NS, z = (N.1, N.2.1, N.2.2.1, N.2.2.2.1, N.2.2.2.2.1, N.2.2.2.2.2.1, N.2.2.2.2.2.2.1, N.2.2.2.2.2.2.2) := ⟨_, rfl⟩
  obtain ⟨Q1, eQ1⟩ : ∃ z : QS, z = (Q.1, Q.2.1, Q.2.2.1, Q.2.2.2.1, Q.2.2.2.2) := ⟨_, rfl⟩
  rw [← eN1, ← eQ1] at hI hR1
  refine w_ViA (wc := (wM cI cJ cZ (am 0) (am 1) (am 2) (am 3) (am 4) (am 5) (am 6) (am 7) (am 8) (am 9) (am 10) (am 11) (am 12) (am 13) M.1 M.2.1 M.2.2.1 M.2.2.2.1 M.2.2.2.2.1 M.2.2.2.2.2.1 M.2.2.2.2.2.2.1 M.2.2.2.2.2.2.2.1 M.2.2.2.2.2.2.2.2.1 M.2.2.2.2.2.2.2.2.2.1 M.2.2.2.2.2.2.2.2.2.2.1 M.2.2.2.2.2.2.2.2.2.2.2.1 M.2.2.2.2.2.2.2.2.2.2.2.2.1 M.2.2.2.2.2.2.2.2.2.2.2.2.2.1 M.2.2.2.2.2.2.2.2.2.2.2.2.2.2.1 M.2.2.2.2.2.2.2.2.2.2.2.2.2.2.2.1 M.2.2.2.2.2.2.2.2.2.2.2.2.2.2.2.2.1 M.2.2.2.2.2.2.2.2.2.2.2.2.2.2.2.2.2)) (wr := ((wX cI cJ cZ (ax 0) (ax 1) (ax 2) (ax 3) (ax 4) (ax 5) (ax 6) (ax 7) (ax 8) (ax 9) (ax 10) (ax 11) (vH C.1) (vPk C.2.1) (vT C.2.2) N1.1 N1.2.1 N1.2.2.1 N1.2.2.2.1 N1.2.2.2.2.1 N1.2.2.2.2.2.1 N1.2.2.2.2.2.2.1 N1.2.2.2.2.2.2.2 Q1.1 Q1.2.1 Q1.2.2.1 Q1.2.2.2.1 Q1.2.2.2.2) ++ (eH cI (ax 1) C.1 ++ (eP cI cZ (ax 1) C.2.1 ++ eT cJ (ax 1) C.2.2)))) (rest := [.int ox]) hx hb hml hg hown hK hA hI (pm_sw _ _ _) (kX8_of l D cI cJ cZ (am 0) (am 1) (am 2) (am 3) (am 4) (am 5) (am 6) (am 7) (am 8) (am 9) (am 10) (am 11) (am 12) (am 13) M.1 M.2.1 M.2.2.1 M.2.2.2.1 M.2.2.2.2.1 M.2.2.2.2.2.1 M.2.2.2.2.2.2.1 M.2.2.2.2.2.2.2.1 M.2.2.2.2.2.2.2.2.1 M.2.2.2.2.2.2.2.2.2.1 M.2.2.2.2.2.2.2.2.2.2.1 M.2.2.2.2.2.2.2.2.2.2.2.1 M.2.2.2.2.2.2.2.2.2.2.2.2.1 M.2.2.2.2.2.2.2.2.2.2.2.2.2.1 M.2.2.2.2.2.2.2.2.2.2.2.2.2.2.1 M.2.2.2.2.2.2.2.2.2.2.2.2.2.2.2.1 M.2.2.2.2.2.2.2.2.2.2.2.2.2.2.2.2.1 M.2.2.2.2.2.2.2.2.2.2.2.2.2.2.2.2.2 (xs (i + 1).toNatClampNeg) (xs (i + 2).toNatClampNeg) om hom) kvX8_of wL_RL_38 ⟨Nat.le_of_ble_eq_true rfl, Nat.le_of_ble_eq_true rfl⟩ rfl rfl rfl rfl hl.1 (Nat.le_of_ble_eq_true rfl) dL_law_302 ⟨by show cells + 0 + 0 ≤ 600000; omega, by show slots + 0 + 0 ≤ 7302250; omega⟩ (fun r u H locs hp hI => ?_)
  replace hp : r = om := hp
  rw [hp]
  clear hp r
  replace hI := hI.ofPerm (pm_sw _ _ _)
  obtain ⟨M1, eM1⟩ : ∃ z : MS, z = (M.1, M.2.1, M.2.2.1, M.2.2.2.1, M.2.2.2.2.1, M.2.2.2.2.2.1, M.2.2.2.2.2.2.1, M.2.2.2.2.2.2.2.1, M.2.2.2.2.2.2.2.2.1, M.2.2.2.2.2.2.2.2.2.1, M.2.2.2.2.2.2.2.2.2.2.1, M.2.2.2.2.2.2.2.2.2.2.2.1, M.2.2.2.2.2.2.2.2.2.2.2.2.1, M.2.2.2.2.2.2.2.2.2.2.2.2.2.1, M.2.2.2.2.2.2.2.2.2.2.2.2.2.2.1, M.2.2.2.2.2.2.2.2.2.2.2.2.2.2.2.1, M.2.2.2.2.2.2.2.2.2.2.2.2.2.2.2.2.1, M.2.2.2.2.2.2.2.2.2.2.2.2.2.2.2.2.2) := ⟨_, rfl⟩
  rw [← eM1] at hR1
  replace hI : WI D (fun q : Nat => s.heap.size ≤ q) s.heap (WL cI cJ cZ ax am N1 Q1 M1 (C.1, C.2.1, C.2.2)) H locs := by rw [eM1]; exact hI
  refine lv_icmp_eq (tgt := 876) hx hb dL_law_305 (by decide) (fun hc => ?_) (fun hc => ?_)
  · exact hN N1 Q1 M1 _ H locs ls _ _ hR1 hI hl (by show cells + 0 + 0 ≤ cells + 4; omega) (by show slots + 0 + 0 ≤ slots + 4200; omega)
  · exact absurd hrt hc
set_option maxHeartbeats 4000000 in
set_option maxRecDepth 100000 in
theorem lo_roads {p : Program} {e : Env} {s : State} {m : MethodId} {below : List Frame} {meth : Method} {c : Code} (l : Launch) {b L : Nat} {xs : Nat → Int32} (C0 : lw_At p s m meth c b L xs) (D : va_G) (cI cJ cZ : ClassId) (hK : KK D cI cJ cZ s) (ax am : Nat → Nat) {i : Int32} (hi1 : vp_in (i + 1) L) (hi2 : vp_in (i + 2) L) (hi3 : vp_in (i + 3) L) {cells slots : Nat} (hcl : cells + 4 ≤ 600000) (hsl : slots + 4200 ≤ 7302250) (hN : NextP p l e s m below meth c b D cI cJ cZ ax am i cells slots) {N : NS} {Q : QS} {M : MS} (C : CS) (hR : Rel N Q M) {H : Heap} {locs : List Loc} {ls : Array Slot} (hI : WI D (fun q : Nat => s.heap.size ≤ q) s.heap (WL cI cJ cZ ax am N Q M C) H locs) (hl : lv_has ls 4 [(0, .ref b), (1, .ref (ax 0)), (2, .ref (am 0)), (3, .int i)]) : W p l e room_1 s m #[Value.ref b] below meth c H locs cells slots (lw_Z below #[Value.ref b] s) (F0 m 310 ls []) := by
  obtain ⟨hx, hb, hr, hml, hown, hts, hX, hbl, hlocks, hgv⟩ := id C0
  have hA : ∀ q : Nat, s.heap.size ≤ q → (fun q : Nat => s.heap.size ≤ q) q := fun _ h => h
  have hbA : ¬ (fun q : Nat => s.heap.size ≤ q) b := Nat.not_le.mpr hbl
  have hg : ∀ w ∈ GW, w.before #[Value.ref b] s = true := fun w h => hts w (gw_tbl h)
  replace hown : s.vm.findClass RL = some m.cls := hown
  refine lv_aload_n hx hb dL_law_310 rfl (lv_at hl 1 rfl) ?_
  refine lv_aload_n hx hb dL_law_311 rfl (lv_at hl 0 rfl) ?_
  refine lv_iload_n hx hb dL_law_312 rfl (lv_at hl 3 rfl) ?_
  refine lv_iconst (v := 1) hx hb dL_law_313 (by decide) ?_
  refine lv_iadd hx hb dL_law_314 ?_
  refine va_sld hx hb hX hbl hbA hI.2.2 hi1 dL_law_315 ?_
  obtain ⟨ox, om, hox, hom, hrt, hR1⟩ := op_roads hR (xs (i + 1).toNatClampNeg)
  refine w_ViA (wc := (wX cI cJ cZ (ax 0) (ax 1) (ax 2) (ax 3) (ax 4) (ax 5) (ax 6) (ax 7) (ax 8) (ax 9) (ax 10) (ax 11) (vH C.1) (vPk C.2.1) (vT C.2.2) N.1 N.2.1 N.2.2.1 N.2.2.2.1 N.2.2.2.2.1 N.2.2.2.2.2.1 N.2.2.2.2.2.2.1 N.2.2.2.2.2.2.2 Q.1 Q.2.1 Q.2.2.1 Q.2.2.2.1 Q.2.2.2.2)) (wr := ((wM cI cJ cZ (am 0) (am 1) (am 2) (am 3) (am 4) (am 5) (am 6) (am 7) (am 8) (am 9) (am 10) (am 11) (am 12) (am 13) M.1 M.2.1 M.2.2.1 M.2.2.2.1 M.2.2.2.2.1 M.2.2.2.2.2.1 M.2.2.2.2.2.2.1 M.2.2.2.2.2.2.2.1 M.2.2.2.2.2.2.2.2.1 M.2.2.2.2.2.2.2.2.2.1 M.2.2.2.2.2.2.2.2.2.2.1 M.2.2.2.2.2.2.2.2.2.2.2.1 M.2.2.2.2.2.2.2.2.2.2.2.2.1 M.2.2.2.2.2.2.2.2.2.2.2.2.2.1 M.2.2.2.2.2.2.2.2.2.2.2.2.2.2.1 M.2.2.2.2.2.2.2.2.2.2.2.2.2.2.2.1 M.2.2.2.2.2.2.2.2.2.2.2.2.2.2.2.2.1 M.2.2.2.2.2.2.2.2.2.2.2.2.2.2.2.2.2) ++ (eH cI (ax 1) C.1 ++ (eP cI cZ (ax 1) C.2.1 ++ eT cJ (ax 1) C.2.2)))) (rest := []) hx hb hml hg hown hK hA hI (List.Perm.refl _) (kX7_roads l D cI cJ cZ (ax 0) (ax 1) (ax 2) (ax 3) (ax 4) (ax 5) (ax 6) (ax 7) (ax 8) (ax 9) (ax 10) (ax 11) (vH C.1) (vPk C.2.1) (vT C.2.2) N.1 N.2.1 N.2.2.1 N.2.2.2.1 N.2.2.2.2.1 N.2.2.2.2.2.1 N.2.2.2.2.2.2.1 N.2.2.2.2.2.2.2 Q.1 Q.2.1 Q.2.2.1 Q.2.2.2.1 Q.2.2.2.2 (xs (i + 1).toNatClampNeg) ox hox) kvX7_roads wL_RL_39 ⟨Nat.le_of_ble_eq_true rfl, Nat.le_of_ble_eq_true rfl⟩ rfl rfl rfl rfl hl.1 (Nat.le_of_ble_eq_true rfl) dL_law_316 ⟨by show _ + 0 ≤ 600000; omega, by show _ + 0 ≤ 7302250; omega⟩ (fun r u H locs hp hI => ?_)
  replace hp : r = ox := hp
  rw [hp]
  clear hp r
  replace hI : WI D (fun q : Nat => s.heap.size ≤ q) s.heap (WL cI cJ cZ ax am (N.1, N.2.1, N.2.2.1, N.2.2.2.1, N.2.2.2.2.1, N.2.2.2.2.2.1, N.2.2.2.2.2.2.1, N.2.2.2.2.2.2.2) (Q.1, Q.2.1, Q.2.2.1, Q.2.2.2.1, Q.2.2.2.2) M (C.1, C.2.1, C.2.2)) H locs := hI
  refine lv_aload_n hx hb dL_law_319 rfl (lv_at hl 2 rfl) ?_
  refine lv_aload_n hx hb dL_law_320 rfl (lv_at hl 0 rfl) ?_
  refine lv_iload_n hx hb dL_law_321 rfl (lv_at hl 3 rfl) ?_
  refine lv_iconst (v := 1) hx hb dL_law_322 (by decide) ?_
  refine lv_iadd hx hb dL_law_323 ?_
  refine va_sld hx hb hX hbl hbA hI.2.2 hi1 dL_law_324 ?_
  obtain ⟨N1, eN1⟩ : ∃ z : NS, z = (N.1, N.2.1, N.2.2.1, N.2.2.2.1, N.2.2.2.2.1, N.2.2.2.2.2.1, N.2.2.2.2.2.2.1, N.2.2.2.2.2.2.2) := ⟨_, rfl⟩
  obtain ⟨Q1, eQ1⟩ : ∃ z : QS, z = (Q.1, Q.2.1, Q.2.2.1, Q.2.2.2.1, Q.2.2.2.2) := ⟨_, rfl⟩
  rw [← eN1, ← eQ1] at hI hR1
  refine w_ViA (wc := (wM cI cJ cZ (am 0) (am 1) (am 2) (am 3) (am 4) (am 5) (am 6) (am 7) (am 8) (am 9) (am 10) (am 11) (am 12) (am 13) M.1 M.2.1 M.2.2.1 M.2.2.2.1 M.2.2.2.2.1 M.2.2.2.2.2.1 M.2.2.2.2.2.2.1 M.2.2.2.2.2.2.2.1 M.2.2.2.2.2.2.2.2.1 M.2.2.2.2.2.2.2.2.2.1 M.2.2.2.2.2.2.2.2.2.2.1 M.2.2.2.2.2.2.2.2.2.2.2.1 M.2.2.2.2.2.2.2.2.2.2.2.2.1 M.2.2.2.2.2.2.2.2.2.2.2.2.2.1 M.2.2.2.2.2.2.2.2.2.2.2.2.2.2.1 M.2.2.2.2.2.2.2.2.2.2.2.2.2.2.2.1 M.2.2.2.2.2.2.2.2.2.2.2.2.2.2.2.2.1 M.2.2.2.2.2.2.2.2.2.2.2.2.2.2.2.2.2)) (wr := ((wX cI cJ cZ (ax 0) (ax 1) (ax 2) (ax 3) (ax 4) (ax 5) (ax 6) (ax 7) (ax 8) (ax 9) (ax 10) (ax 11) (vH C.1) (vPk C.2.1) (vT C.2.2) N1.1 N1.2.1 N1.2.2.1 N1.2.2.2.1 N1.2.2.2.2.1 N1.2.2.2.2.2.1 N1.2.2.2.2.2.2.1 N1.2.2.2.2.2.2.2 Q1.1 Q1.2.1 Q1.2.2.1 Q1.2.2.2.1 Q1.2.2.2.2) ++ (eH cI (ax 1) C.1 ++ (eP cI cZ (ax 1) C.2.1 ++ eT cJ (ax 1) C.2.2)))) (rest := [.int ox]) hx hb hml hg hown hK hA hI (pm_sw _ _ _) (kX8_roads l D cI cJ cZ (am 0) (am 1) (am 2) (am 3) (am 4) (am 5) (am 6) (am 7) (am 8) (am 9) (am 10) (am 11) (am 12) (am 13) M.1 M.2.1 M.2.2.1 M.2.2.2.1 M.2.2.2.2.1 M.2.2.2.2.2.1 M.2.2.2.2.2.2.1 M.2.2.2.2.2.2.2.1 M.2.2.2.2.2.2.2.2.1 M.2.2.2.2.2.2.2.2.2.1 M.2.2.2.2.2.2.2.2.2.2.1 M.2.2.2.2.2.2.2.2.2.2.2.1 M.2.2.2.2.2.2.2.2.2.2.2.2.1 M.2.2.2.2.2.2.2.2.2.2.2.2.2.1 M.2.2.2.2.2.2.2.2.2.2.2.2.2.2.1 M.2.2.2.2.2.2.2.2.2.2.2.2.2.2.2.1 M.2.2.2.2.2.2.2.2.2.2.2.2.2.2.2.2.1 M.2.2.2.2.2.2.2.2.2.2.2.2.2.2.2.2.2 (xs (i + 1).toNatClampNeg) om hom) kvX8_roads wL_RL_43 ⟨Nat.le_of_ble_eq_true rfl, Nat.le_of_ble_eq_true rfl⟩ rfl rfl rfl rfl hl.1 (Nat.le_of_ble_eq_true rfl) dL_law_325 ⟨by show cells + 0 + 0 ≤ 600000; omega, by show slots + 0 + 0 ≤ 7302250; omega⟩ (fun r u H locs hp hI => ?_)
  replace hp : r = om := hp
  rw [hp]
  clear hp r
  replace hI := hI.ofPerm (pm_sw _ _ _)
  obtain ⟨M1, eM1⟩ : ∃ z : MS, z = (M.1, M.2.1, M.2.2.1, M.2.2.2.1, M.2.2.2.2.1, M.2.2.2.2.2.1, M.2.2.2.2.2.2.1, M.2.2.2.2.2.2.2.1, M.2.2.2.2.2.2.2.2.1, M.2.2.2.2.2.2.2.2.2.1, M.2.2.2.2.2.2.2.2.2.2.1, M.2.2.2.2.2.2.2.2.2.2.2.1, M.2.2.2.2.2.2.2.2.2.2.2.2.1, M.2.2.2.2.2.2.2.2.2.2.2.2.2.1, M.2.2.2.2.2.2.2.2.2.2.2.2.2.2.1, M.2.2.2.2.2.2.2.2.2.2.2.2.2.2.2.1, M.2.2.2.2.2.2.2.2.2.2.2.2.2.2.2.2.1, M.2.2.2.2.2.2.2.2.2.2.2.2.2.2.2.2.2) := ⟨_, rfl⟩
  rw [← eM1] at hR1
  replace hI : WI D (fun q : Nat => s.heap.size ≤ q) s.heap (WL cI cJ cZ ax am N1 Q1 M1 (C.1, C.2.1, C.2.2)) H locs := by rw [eM1]; exact hI
  refine lv_icmp_eq (tgt := 876) hx hb dL_law_328 (by decide) (fun hc => ?_) (fun hc => ?_)
  · exact hN N1 Q1 M1 _ H locs ls _ _ hR1 hI hl (by show cells + 0 + 0 ≤ cells + 4; omega) (by show slots + 0 + 0 ≤ slots + 4200; omega)
  · exact absurd hrt hc
set_option maxHeartbeats 4000000 in
set_option maxRecDepth 100000 in
theorem lo_free {p : Program} {e : Env} {s : State} {m : MethodId} {below : List Frame} {meth : Method} {c : Code} (l : Launch) {b L : Nat} {xs : Nat → Int32} (C0 : lw_At p s m meth c b L xs) (D : va_G) (cI cJ cZ : ClassId) (hK : KK D cI cJ cZ s) (ax am : Nat → Nat) {i : Int32} (hi1 : vp_in (i + 1) L) (hi2 : vp_in (i + 2) L) (hi3 : vp_in (i + 3) L) {cells slots : Nat} (hcl : cells + 4 ≤ 600000) (hsl : slots + 4200 ≤ 7302250) (hN : NextP p l e s m below meth c b D cI cJ cZ ax am i cells slots) {N : NS} {Q : QS} {M : MS} (C : CS) (hR : Rel N Q M) {H : Heap} {locs : List Loc} {ls : Array Slot} (hI : WI D (fun q : Nat => s.heap.size ≤ q) s.heap (WL cI cJ cZ ax am N Q M C) H locs) (hl : lv_has ls 4 [(0, .ref b), (1, .ref (ax 0)), (2, .ref (am 0)), (3, .int i)]) : W p l e room_1 s m #[Value.ref b] below meth c H locs cells slots (lw_Z below #[Value.ref b] s) (F0 m 333 ls []) := by
  obtain ⟨hx, hb, hr, hml, hown, hts, hX, hbl, hlocks, hgv⟩ := id C0
  have hA : ∀ q : Nat, s.heap.size ≤ q → (fun q : Nat => s.heap.size ≤ q) q := fun _ h => h
  have hbA : ¬ (fun q : Nat => s.heap.size ≤ q) b := Nat.not_le.mpr hbl
  have hg : ∀ w ∈ GW, w.before #[Value.ref b] s = true := fun w h => hts w (gw_tbl h)
  replace hown : s.vm.findClass RL = some m.cls := hown
  refine lv_aload_n hx hb dL_law_333 rfl (lv_at hl 1 rfl) ?_
  refine lv_aload_n hx hb dL_law_334 rfl (lv_at hl 0 rfl) ?_
  refine lv_iload_n hx hb dL_law_335 rfl (lv_at hl 3 rfl) ?_
  refine lv_iconst (v := 1) hx hb dL_law_336 (by decide) ?_
  refine lv_iadd hx hb dL_law_337 ?_
  refine va_sld hx hb hX hbl hbA hI.2.2 hi1 dL_law_338 ?_
  obtain ⟨ox, om, hox, hom, hrt, hR1⟩ := op_free hR (xs (i + 1).toNatClampNeg)
  refine w_ViA (wc := (wX cI cJ cZ (ax 0) (ax 1) (ax 2) (ax 3) (ax 4) (ax 5) (ax 6) (ax 7) (ax 8) (ax 9) (ax 10) (ax 11) (vH C.1) (vPk C.2.1) (vT C.2.2) N.1 N.2.1 N.2.2.1 N.2.2.2.1 N.2.2.2.2.1 N.2.2.2.2.2.1 N.2.2.2.2.2.2.1 N.2.2.2.2.2.2.2 Q.1 Q.2.1 Q.2.2.1 Q.2.2.2.1 Q.2.2.2.2)) (wr := ((wM cI cJ cZ (am 0) (am 1) (am 2) (am 3) (am 4) (am 5) (am 6) (am 7) (am 8) (am 9) (am 10) (am 11) (am 12) (am 13) M.1 M.2.1 M.2.2.1 M.2.2.2.1 M.2.2.2.2.1 M.2.2.2.2.2.1 M.2.2.2.2.2.2.1 M.2.2.2.2.2.2.2.1 M.2.2.2.2.2.2.2.2.1 M.2.2.2.2.2.2.2.2.2.1 M.2.2.2.2.2.2.2.2.2.2.1 M.2.2.2.2.2.2.2.2.2.2.2.1 M.2.2.2.2.2.2.2.2.2.2.2.2.1 M.2.2.2.2.2.2.2.2.2.2.2.2.2.1 M.2.2.2.2.2.2.2.2.2.2.2.2.2.2.1 M.2.2.2.2.2.2.2.2.2.2.2.2.2.2.2.1 M.2.2.2.2.2.2.2.2.2.2.2.2.2.2.2.2.1 M.2.2.2.2.2.2.2.2.2.2.2.2.2.2.2.2.2) ++ (eH cI (ax 1) C.1 ++ (eP cI cZ (ax 1) C.2.1 ++ eT cJ (ax 1) C.2.2)))) (rest := []) hx hb hml hg hown hK hA hI (List.Perm.refl _) (kX7_free l D cI cJ cZ (ax 0) (ax 1) (ax 2) (ax 3) (ax 4) (ax 5) (ax 6) (ax 7) (ax 8) (ax 9) (ax 10) (ax 11) (vH C.1) (vPk C.2.1) (vT C.2.2) N.1 N.2.1 N.2.2.1 N.2.2.2.1 N.2.2.2.2.1 N.2.2.2.2.2.1 N.2.2.2.2.2.2.1 N.2.2.2.2.2.2.2 Q.1 Q.2.1 Q.2.2.1 Q.2.2.2.1 Q.2.2.2.2 (xs (i + 1).toNatClampNeg) ox hox) kvX7_free wL_RL_44 ⟨Nat.le_of_ble_eq_true rfl, Nat.le_of_ble_eq_true rfl⟩ rfl rfl rfl rfl hl.1 (Nat.le_of_ble_eq_true rfl) dL_law_339 ⟨by show _ + 0 ≤ 600000; omega, by show _ + 0 ≤ 7302250; omega⟩ (fun r u H locs hp hI => ?_)
  replace hp : r = ox := hp
  rw [hp]
  clear hp r
  replace hI : WI D (fun q : Nat => s.heap.size ≤ q) s.heap (WL cI cJ cZ ax am (N.1, N.2.1, N.2.2.1, N.2.2.2.1, N.2.2.2.2.1, N.2.2.2.2.2.1, N.2.2.2.2.2.2.1, N.2.2.2.2.2.2.2) (Q.1, Q.2.1, Q.2.2.1, Q.2.2.2.1, Q.2.2.2.2) M (C.1, C.2.1, C.2.2)) H locs := hI
  refine lv_aload_n hx hb dL_law_342 rfl (lv_at hl 2 rfl) ?_
  refine lv_aload_n hx hb dL_law_343 rfl (lv_at hl 0 rfl) ?_
  refine lv_iload_n hx hb dL_law_344 rfl (lv_at hl 3 rfl) ?_
  refine lv_iconst (v := 1) hx hb dL_law_345 (by decide) ?_
  refine lv_iadd hx hb dL_law_346 ?_
  refine va_sld hx hb hX hbl hbA hI.2.2 hi1 dL_law_347 ?_
  obtain ⟨N1, eN1⟩ : ∃ z : NS, z = (N.1, N.2.1, N.2.2.1, N.2.2.2.1, N.2.2.2.2.1, N.2.2.2.2.2.1, N.2.2.2.2.2.2.1, N.2.2.2.2.2.2.2) := ⟨_, rfl⟩
  obtain ⟨Q1, eQ1⟩ : ∃ z : QS, z = (Q.1, Q.2.1, Q.2.2.1, Q.2.2.2.1, Q.2.2.2.2) := ⟨_, rfl⟩
  rw [← eN1, ← eQ1] at hI hR1
  refine w_ViA (wc := (wM cI cJ cZ (am 0) (am 1) (am 2) (am 3) (am 4) (am 5) (am 6) (am 7) (am 8) (am 9) (am 10) (am 11) (am 12) (am 13) M.1 M.2.1 M.2.2.1 M.2.2.2.1 M.2.2.2.2.1 M.2.2.2.2.2.1 M.2.2.2.2.2.2.1 M.2.2.2.2.2.2.2.1 M.2.2.2.2.2.2.2.2.1 M.2.2.2.2.2.2.2.2.2.1 M.2.2.2.2.2.2.2.2.2.2.1 M.2.2.2.2.2.2.2.2.2.2.2.1 M.2.2.2.2.2.2.2.2.2.2.2.2.1 M.2.2.2.2.2.2.2.2.2.2.2.2.2.1 M.2.2.2.2.2.2.2.2.2.2.2.2.2.2.1 M.2.2.2.2.2.2.2.2.2.2.2.2.2.2.2.1 M.2.2.2.2.2.2.2.2.2.2.2.2.2.2.2.2.1 M.2.2.2.2.2.2.2.2.2.2.2.2.2.2.2.2.2)) (wr := ((wX cI cJ cZ (ax 0) (ax 1) (ax 2) (ax 3) (ax 4) (ax 5) (ax 6) (ax 7) (ax 8) (ax 9) (ax 10) (ax 11) (vH C.1) (vPk C.2.1) (vT C.2.2) N1.1 N1.2.1 N1.2.2.1 N1.2.2.2.1 N1.2.2.2.2.1 N1.2.2.2.2.2.1 N1.2.2.2.2.2.2.1 N1.2.2.2.2.2.2.2 Q1.1 Q1.2.1 Q1.2.2.1 Q1.2.2.2.1 Q1.2.2.2.2) ++ (eH cI (ax 1) C.1 ++ (eP cI cZ (ax 1) C.2.1 ++ eT cJ (ax 1) C.2.2)))) (rest := [.int ox]) hx hb hml hg hown hK hA hI (pm_sw _ _ _) (kX8_free l D cI cJ cZ (am 0) (am 1) (am 2) (am 3) (am 4) (am 5) (am 6) (am 7) (am 8) (am 9) (am 10) (am 11) (am 12) (am 13) M.1 M.2.1 M.2.2.1 M.2.2.2.1 M.2.2.2.2.1 M.2.2.2.2.2.1 M.2.2.2.2.2.2.1 M.2.2.2.2.2.2.2.1 M.2.2.2.2.2.2.2.2.1 M.2.2.2.2.2.2.2.2.2.1 M.2.2.2.2.2.2.2.2.2.2.1 M.2.2.2.2.2.2.2.2.2.2.2.1 M.2.2.2.2.2.2.2.2.2.2.2.2.1 M.2.2.2.2.2.2.2.2.2.2.2.2.2.1 M.2.2.2.2.2.2.2.2.2.2.2.2.2.2.1 M.2.2.2.2.2.2.2.2.2.2.2.2.2.2.2.1 M.2.2.2.2.2.2.2.2.2.2.2.2.2.2.2.2.1 M.2.2.2.2.2.2.2.2.2.2.2.2.2.2.2.2.2 (xs (i + 1).toNatClampNeg) om hom) kvX8_free wL_RL_47 ⟨Nat.le_of_ble_eq_true rfl, Nat.le_of_ble_eq_true rfl⟩ rfl rfl rfl rfl hl.1 (Nat.le_of_ble_eq_true rfl) dL_law_348 ⟨by show cells + 0 + 0 ≤ 600000; omega, by show slots + 0 + 0 ≤ 7302250; omega⟩ (fun r u H locs hp hI => ?_)
  replace hp : r = om := hp
  rw [hp]
  clear hp r
  replace hI := hI.ofPerm (pm_sw _ _ _)
  obtain ⟨M1, eM1⟩ : ∃ z : MS, z = (M.1, M.2.1, M.2.2.1, M.2.2.2.1, M.2.2.2.2.1, M.2.2.2.2.2.1, M.2.2.2.2.2.2.1, M.2.2.2.2.2.2.2.1, M.2.2.2.2.2.2.2.2.1, M.2.2.2.2.2.2.2.2.2.1, M.2.2.2.2.2.2.2.2.2.2.1, M.2.2.2.2.2.2.2.2.2.2.2.1, M.2.2.2.2.2.2.2.2.2.2.2.2.1, M.2.2.2.2.2.2.2.2.2.2.2.2.2.1, M.2.2.2.2.2.2.2.2.2.2.2.2.2.2.1, M.2.2.2.2.2.2.2.2.2.2.2.2.2.2.2.1, M.2.2.2.2.2.2.2.2.2.2.2.2.2.2.2.2.1, M.2.2.2.2.2.2.2.2.2.2.2.2.2.2.2.2.2) := ⟨_, rfl⟩
  rw [← eM1] at hR1
  replace hI : WI D (fun q : Nat => s.heap.size ≤ q) s.heap (WL cI cJ cZ ax am N1 Q1 M1 (C.1, C.2.1, C.2.2)) H locs := by rw [eM1]; exact hI
  refine lv_icmp_eq (tgt := 876) hx hb dL_law_351 (by decide) (fun hc => ?_) (fun hc => ?_)
  · exact hN N1 Q1 M1 _ H locs ls _ _ hR1 hI hl (by show cells + 0 + 0 ≤ cells + 4; omega) (by show slots + 0 + 0 ≤ slots + 4200; omega)
  · exact absurd hrt hc
set_option maxHeartbeats 4000000 in
set_option maxRecDepth 100000 in
theorem lo_clash {p : Program} {e : Env} {s : State} {m : MethodId} {below : List Frame} {meth : Method} {c : Code} (l : Launch) {b L : Nat} {xs : Nat → Int32} (C0 : lw_At p s m meth c b L xs) (D : va_G) (cI cJ cZ : ClassId) (hK : KK D cI cJ cZ s) (ax am : Nat → Nat) {i : Int32} (hi1 : vp_in (i + 1) L) (hi2 : vp_in (i + 2) L) (hi3 : vp_in (i + 3) L) {cells slots : Nat} (hcl : cells + 4 ≤ 600000) (hsl : slots + 4200 ≤ 7302250) (hN : NextP p l e s m below meth c b D cI cJ cZ ax am i cells slots) {N : NS} {Q : QS} {M : MS} (C : CS) (hR : Rel N Q M) {H : Heap} {locs : List Loc} {ls : Array Slot} (hI : WI D (fun q : Nat => s.heap.size ≤ q) s.heap (WL cI cJ cZ ax am N Q M C) H locs) (hl : lv_has ls 4 [(0, .ref b), (1, .ref (ax 0)), (2, .ref (am 0)), (3, .int i)]) : W p l e room_1 s m #[Value.ref b] below meth c H locs cells slots (lw_Z below #[Value.ref b] s) (F0 m 356 ls []) := by
  obtain ⟨hx, hb, hr, hml, hown, hts, hX, hbl, hlocks, hgv⟩ := id C0
  have hA : ∀ q : Nat, s.heap.size ≤ q → (fun q : Nat => s.heap.size ≤ q) q := fun _ h => h
  have hbA : ¬ (fun q : Nat => s.heap.size ≤ q) b := Nat.not_le.mpr hbl
  have hg : ∀ w ∈ GW, w.before #[Value.ref b] s = true := fun w h => hts w (gw_tbl h)
  replace hown : s.vm.findClass RL = some m.cls := hown
  refine lv_aload_n hx hb dL_law_356 rfl (lv_at hl 1 rfl) ?_
  obtain ⟨ox, om, hox, hom, hrt, hR1⟩ := op_clash hR 
  refine w_ViA (wc := (wX cI cJ cZ (ax 0) (ax 1) (ax 2) (ax 3) (ax 4) (ax 5) (ax 6) (ax 7) (ax 8) (ax 9) (ax 10) (ax 11) (vH C.1) (vPk C.2.1) (vT C.2.2) N.1 N.2.1 N.2.2.1 N.2.2.2.1 N.2.2.2.2.1 N.2.2.2.2.2.1 N.2.2.2.2.2.2.1 N.2.2.2.2.2.2.2 Q.1 Q.2.1 Q.2.2.1 Q.2.2.2.1 Q.2.2.2.2)) (wr := ((wM cI cJ cZ (am 0) (am 1) (am 2) (am 3) (am 4) (am 5) (am 6) (am 7) (am 8) (am 9) (am 10) (am 11) (am 12) (am 13) M.1 M.2.1 M.2.2.1 M.2.2.2.1 M.2.2.2.2.1 M.2.2.2.2.2.1 M.2.2.2.2.2.2.1 M.2.2.2.2.2.2.2.1 M.2.2.2.2.2.2.2.2.1 M.2.2.2.2.2.2.2.2.2.1 M.2.2.2.2.2.2.2.2.2.2.1 M.2.2.2.2.2.2.2.2.2.2.2.1 M.2.2.2.2.2.2.2.2.2.2.2.2.1 M.2.2.2.2.2.2.2.2.2.2.2.2.2.1 M.2.2.2.2.2.2.2.2.2.2.2.2.2.2.1 M.2.2.2.2.2.2.2.2.2.2.2.2.2.2.2.1 M.2.2.2.2.2.2.2.2.2.2.2.2.2.2.2.2.1 M.2.2.2.2.2.2.2.2.2.2.2.2.2.2.2.2.2) ++ (eH cI (ax 1) C.1 ++ (eP cI cZ (ax 1) C.2.1 ++ eT cJ (ax 1) C.2.2)))) (rest := []) hx hb hml hg hown hK hA hI (List.Perm.refl _) (kX7_clash l D cI cJ cZ (ax 0) (ax 1) (ax 2) (ax 3) (ax 4) (ax 5) (ax 6) (ax 7) (ax 8) (ax 9) (ax 10) (ax 11) (vH C.1) (vPk C.2.1) (vT C.2.2) N.1 N.2.1 N.2.2.1 N.2.2.2.1 N.2.2.2.2.1 N.2.2.2.2.2.1 N.2.2.2.2.2.2.1 N.2.2.2.2.2.2.2 Q.1 Q.2.1 Q.2.2.1 Q.2.2.2.1 Q.2.2.2.2  ox hox) kvX7_clash wL_RL_48 ⟨Nat.le_of_ble_eq_true rfl, Nat.le_of_ble_eq_true rfl⟩ rfl rfl rfl rfl hl.1 (Nat.le_of_ble_eq_true rfl) dL_law_357 ⟨by show _ + 0 ≤ 600000; omega, by show _ + 0 ≤ 7302250; omega⟩ (fun r u H locs hp hI => ?_)
  replace hp : r = ox := hp
  rw [hp]
  clear hp r
  replace hI : WI D (fun q : Nat => s.heap.size ≤ q) s.heap (WL cI cJ cZ ax am (N.1, N.2.1, N.2.2.1, N.2.2.2.1, N.2.2.2.2.1, N.2.2.2.2.2.1, N.2.2.2.2.2.2.1, N.2.2.2.2.2.2.2) (Q.1, Q.2.1, Q.2.2.1, Q.2.2.2.1, Q.2.2.2.2) M (C.1, C.2.1, C.2.2)) H locs := hI
  refine lv_aload_n hx hb dL_law_360 rfl (lv_at hl 2 rfl) ?_
  obtain ⟨N1, eN1⟩ : ∃ z : NS, z = (N.1, N.2.1, N.2.2.1, N.2.2.2.1, N.2.2.2.2.1, N.2.2.2.2.2.1, N.2.2.2.2.2.2.1, N.2.2.2.2.2.2.2) := ⟨_, rfl⟩
  obtain ⟨Q1, eQ1⟩ : ∃ z : QS, z = (Q.1, Q.2.1, Q.2.2.1, Q.2.2.2.1, Q.2.2.2.2) := ⟨_, rfl⟩
  rw [← eN1, ← eQ1] at hI hR1
  refine w_ViA (wc := (wM cI cJ cZ (am 0) (am 1) (am 2) (am 3) (am 4) (am 5) (am 6) (am 7) (am 8) (am 9) (am 10) (am 11) (am 12) (am 13) M.1 M.2.1 M.2.2.1 M.2.2.2.1 M.2.2.2.2.1 M.2.2.2.2.2.1 M.2.2.2.2.2.2.1 M.2.2.2.2.2.2.2.1 M.2.2.2.2.2.2.2.2.1 M.2.2.2.2.2.2.2.2.2.1 M.2.2.2.2.2.2.2.2.2.2.1 M.2.2.2.2.2.2.2.2.2.2.2.1 M.2.2.2.2.2.2.2.2.2.2.2.2.1 M.2.2.2.2.2.2.2.2.2.2.2.2.2.1 M.2.2.2.2.2.2.2.2.2.2.2.2.2.2.1 M.2.2.2.2.2.2.2.2.2.2.2.2.2.2.2.1 M.2.2.2.2.2.2.2.2.2.2.2.2.2.2.2.2.1 M.2.2.2.2.2.2.2.2.2.2.2.2.2.2.2.2.2)) (wr := ((wX cI cJ cZ (ax 0) (ax 1) (ax 2) (ax 3) (ax 4) (ax 5) (ax 6) (ax 7) (ax 8) (ax 9) (ax 10) (ax 11) (vH C.1) (vPk C.2.1) (vT C.2.2) N1.1 N1.2.1 N1.2.2.1 N1.2.2.2.1 N1.2.2.2.2.1 N1.2.2.2.2.2.1 N1.2.2.2.2.2.2.1 N1.2.2.2.2.2.2.2 Q1.1 Q1.2.1 Q1.2.2.1 Q1.2.2.2.1 Q1.2.2.2.2) ++ (eH cI (ax 1) C.1 ++ (eP cI cZ (ax 1) C.2.1 ++ eT cJ (ax 1) C.2.2)))) (rest := [.int ox]) hx hb hml hg hown hK hA hI (pm_sw _ _ _) (kX8_clash l D cI cJ cZ (am 0) (am 1) (am 2) (am 3) (am 4) (am 5) (am 6) (am 7) (am 8) (am 9) (am 10) (am 11) (am 12) (am 13) M.1 M.2.1 M.2.2.1 M.2.2.2.1 M.2.2.2.2.1 M.2.2.2.2.2.1 M.2.2.2.2.2.2.1 M.2.2.2.2.2.2.2.1 M.2.2.2.2.2.2.2.2.1 M.2.2.2.2.2.2.2.2.2.1 M.2.2.2.2.2.2.2.2.2.2.1 M.2.2.2.2.2.2.2.2.2.2.2.1 M.2.2.2.2.2.2.2.2.2.2.2.2.1 M.2.2.2.2.2.2.2.2.2.2.2.2.2.1 M.2.2.2.2.2.2.2.2.2.2.2.2.2.2.1 M.2.2.2.2.2.2.2.2.2.2.2.2.2.2.2.1 M.2.2.2.2.2.2.2.2.2.2.2.2.2.2.2.2.1 M.2.2.2.2.2.2.2.2.2.2.2.2.2.2.2.2.2  om hom) kvX8_clash wL_RL_51 ⟨Nat.le_of_ble_eq_true rfl, Nat.le_of_ble_eq_true rfl⟩ rfl rfl rfl rfl hl.1 (Nat.le_of_ble_eq_true rfl) dL_law_361 ⟨by show cells + 0 + 0 ≤ 600000; omega, by show slots + 0 + 0 ≤ 7302250; omega⟩ (fun r u H locs hp hI => ?_)
  replace hp : r = om := hp
  rw [hp]
  clear hp r
  replace hI := hI.ofPerm (pm_sw _ _ _)
  obtain ⟨M1, eM1⟩ : ∃ z : MS, z = (M.1, M.2.1, M.2.2.1, M.2.2.2.1, M.2.2.2.2.1, M.2.2.2.2.2.1, M.2.2.2.2.2.2.1, M.2.2.2.2.2.2.2.1, M.2.2.2.2.2.2.2.2.1, M.2.2.2.2.2.2.2.2.2.1, M.2.2.2.2.2.2.2.2.2.2.1, M.2.2.2.2.2.2.2.2.2.2.2.1, M.2.2.2.2.2.2.2.2.2.2.2.2.1, M.2.2.2.2.2.2.2.2.2.2.2.2.2.1, M.2.2.2.2.2.2.2.2.2.2.2.2.2.2.1, M.2.2.2.2.2.2.2.2.2.2.2.2.2.2.2.1, M.2.2.2.2.2.2.2.2.2.2.2.2.2.2.2.2.1, M.2.2.2.2.2.2.2.2.2.2.2.2.2.2.2.2.2) := ⟨_, rfl⟩
  rw [← eM1] at hR1
  replace hI : WI D (fun q : Nat => s.heap.size ≤ q) s.heap (WL cI cJ cZ ax am N1 Q1 M1 (C.1, C.2.1, C.2.2)) H locs := by rw [eM1]; exact hI
  refine lv_icmp_eq (tgt := 876) hx hb dL_law_364 (by decide) (fun hc => ?_) (fun hc => ?_)
  · exact hN N1 Q1 M1 _ H locs ls _ _ hR1 hI hl (by show cells + 0 + 0 ≤ cells + 4; omega) (by show slots + 0 + 0 ≤ slots + 4200; omega)
  · exact absurd hrt hc
set_option maxHeartbeats 4000000 in
set_option maxRecDepth 100000 in
theorem lo_chain {p : Program} {e : Env} {s : State} {m : MethodId} {below : List Frame} {meth : Method} {c : Code} (l : Launch) {b L : Nat} {xs : Nat → Int32} (C0 : lw_At p s m meth c b L xs) (D : va_G) (cI cJ cZ : ClassId) (hK : KK D cI cJ cZ s) (ax am : Nat → Nat) {i : Int32} (hi1 : vp_in (i + 1) L) (hi2 : vp_in (i + 2) L) (hi3 : vp_in (i + 3) L) {cells slots : Nat} (hcl : cells + 4 ≤ 600000) (hsl : slots + 4200 ≤ 7302250) (hN : NextP p l e s m below meth c b D cI cJ cZ ax am i cells slots) {N : NS} {Q : QS} {M : MS} (C : CS) (hR : Rel N Q M) {H : Heap} {locs : List Loc} {ls : Array Slot} (hI : WI D (fun q : Nat => s.heap.size ≤ q) s.heap (WL cI cJ cZ ax am N Q M C) H locs) (hl : lv_has ls 4 [(0, .ref b), (1, .ref (ax 0)), (2, .ref (am 0)), (3, .int i)]) : W p l e room_1 s m #[Value.ref b] below meth c H locs cells slots (lw_Z below #[Value.ref b] s) (F0 m 369 ls []) := by
  obtain ⟨hx, hb, hr, hml, hown, hts, hX, hbl, hlocks, hgv⟩ := id C0
  have hA : ∀ q : Nat, s.heap.size ≤ q → (fun q : Nat => s.heap.size ≤ q) q := fun _ h => h
  have hbA : ¬ (fun q : Nat => s.heap.size ≤ q) b := Nat.not_le.mpr hbl
  have hg : ∀ w ∈ GW, w.before #[Value.ref b] s = true := fun w h => hts w (gw_tbl h)
  replace hown : s.vm.findClass RL = some m.cls := hown
  refine lv_aload_n hx hb dL_law_369 rfl (lv_at hl 1 rfl) ?_
  refine lv_aload_n hx hb dL_law_370 rfl (lv_at hl 0 rfl) ?_
  refine lv_iload_n hx hb dL_law_371 rfl (lv_at hl 3 rfl) ?_
  refine lv_iconst (v := 1) hx hb dL_law_372 (by decide) ?_
  refine lv_iadd hx hb dL_law_373 ?_
  refine va_sld hx hb hX hbl hbA hI.2.2 hi1 dL_law_374 ?_
  refine lv_aload_n hx hb dL_law_375 rfl (lv_at hl 0 rfl) ?_
  refine lv_iload_n hx hb dL_law_376 rfl (lv_at hl 3 rfl) ?_
  refine lv_iconst (v := 2) hx hb dL_law_377 (by decide) ?_
  refine lv_iadd hx hb dL_law_378 ?_
  refine va_sld hx hb hX hbl hbA hI.2.2 hi2 dL_law_379 ?_
  refine lv_aload_n hx hb dL_law_380 rfl (lv_at hl 0 rfl) ?_
  refine lv_iload_n hx hb dL_law_381 rfl (lv_at hl 3 rfl) ?_
  refine lv_iconst (v := 3) hx hb dL_law_382 (by decide) ?_
  refine lv_iadd hx hb dL_law_383 ?_
  refine va_sld hx hb hX hbl hbA hI.2.2 hi3 dL_law_384 ?_
  obtain ⟨ox, om, hox, hom, hrt, hR1⟩ := op_chain hR (xs (i + 1).toNatClampNeg) (xs (i + 2).toNatClampNeg) (xs (i + 3).toNatClampNeg)
  refine w_ViA (wc := (wX cI cJ cZ (ax 0) (ax 1) (ax 2) (ax 3) (ax 4) (ax 5) (ax 6) (ax 7) (ax 8) (ax 9) (ax 10) (ax 11) (vH C.1) (vPk C.2.1) (vT C.2.2) N.1 N.2.1 N.2.2.1 N.2.2.2.1 N.2.2.2.2.1 N.2.2.2.2.2.1 N.2.2.2.2.2.2.1 N.2.2.2.2.2.2.2 Q.1 Q.2.1 Q.2.2.1 Q.2.2.2.1 Q.2.2.2.2)) (wr := ((wM cI cJ cZ (am 0) (am 1) (am 2) (am 3) (am 4) (am 5) (am 6) (am 7) (am 8) (am 9) (am 10) (am 11) (am 12) (am 13) M.1 M.2.1 M.2.2.1 M.2.2.2.1 M.2.2.2.2.1 M.2.2.2.2.2.1 M.2.2.2.2.2.2.1 M.2.2.2.2.2.2.2.1 M.2.2.2.2.2.2.2.2.1 M.2.2.2.2.2.2.2.2.2.1 M.2.2.2.2.2.2.2.2.2.2.1 M.2.2.2.2.2.2.2.2.2.2.2.1 M.2.2.2.2.2.2.2.2.2.2.2.2.1 M.2.2.2.2.2.2.2.2.2.2.2.2.2.1 M.2.2.2.2.2.2.2.2.2.2.2.2.2.2.1 M.2.2.2.2.2.2.2.2.2.2.2.2.2.2.2.1 M.2.2.2.2.2.2.2.2.2.2.2.2.2.2.2.2.1 M.2.2.2.2.2.2.2.2.2.2.2.2.2.2.2.2.2) ++ (eH cI (ax 1) C.1 ++ (eP cI cZ (ax 1) C.2.1 ++ eT cJ (ax 1) C.2.2)))) (rest := []) hx hb hml hg hown hK hA hI (List.Perm.refl _) (kX7_chain l D cI cJ cZ (ax 0) (ax 1) (ax 2) (ax 3) (ax 4) (ax 5) (ax 6) (ax 7) (ax 8) (ax 9) (ax 10) (ax 11) (vH C.1) (vPk C.2.1) (vT C.2.2) N.1 N.2.1 N.2.2.1 N.2.2.2.1 N.2.2.2.2.1 N.2.2.2.2.2.1 N.2.2.2.2.2.2.1 N.2.2.2.2.2.2.2 Q.1 Q.2.1 Q.2.2.1 Q.2.2.2.1 Q.2.2.2.2 (xs (i + 1).toNatClampNeg) (xs (i + 2).toNatClampNeg) (xs (i + 3).toNatClampNeg) ox hox) kvX7_chain wL_RL_52 ⟨Nat.le_of_ble_eq_true rfl, Nat.le_of_ble_eq_true rfl⟩ rfl rfl rfl rfl hl.1 (Nat.le_of_ble_eq_true rfl) dL_law_385 ⟨by show _ + 0 ≤ 600000; omega, by show _ + 0 ≤ 7302250; omega⟩ (fun r u H locs hp hI => ?_)
  replace hp : r = ox := hp
  rw [hp]
  clear hp r
  replace hI : WI D (fun q : Nat => s.heap.size ≤ q) s.heap (WL cI cJ cZ ax am (N.1, N.2.1, N.2.2.1, N.2.2.2.1, N.2.2.2.2.1, N.2.2.2.2.2.1, N.2.2.2.2.2.2.1, N.2.2.2.2.2.2.2) (Q.1, Q.2.1, Q.2.2.1, Q.2.2.2.1, Q.2.2.2.2) M (C.1, C.2.1, C.2.2)) H locs := hI
  refine lv_aload_n hx hb dL_law_388 rfl (lv_at hl 2 rfl) ?_
  refine lv_aload_n hx hb dL_law_389 rfl (lv_at hl 0 rfl) ?_
  refine lv_iload_n hx hb dL_law_390 rfl (lv_at hl 3 rfl) ?_
  refine lv_iconst (v := 1) hx hb dL_law_391 (by decide) ?_
  refine lv_iadd hx hb dL_law_392 ?_
  refine va_sld hx hb hX hbl hbA hI.2.2 hi1 dL_law_393 ?_
  refine lv_aload_n hx hb dL_law_394 rfl (lv_at hl 0 rfl) ?_
  refine lv_iload_n hx hb dL_law_395 rfl (lv_at hl 3 rfl) ?_
  refine lv_iconst (v := 2) hx hb dL_law_396 (by decide) ?_
  refine lv_iadd hx hb dL_law_397 ?_
  refine va_sld hx hb hX hbl hbA hI.2.2 hi2 dL_law_398 ?_
  refine lv_aload_n hx hb dL_law_399 rfl (lv_at hl 0 rfl) ?_
  refine lv_iload_n hx hb dL_law_400 rfl (lv_at hl 3 rfl) ?_
  refine lv_iconst (v := 3) hx hb dL_law_401 (by decide) ?_
  refine lv_iadd hx hb dL_law_402 ?_
  refine va_sld hx hb hX hbl hbA hI.2.2 hi3 dL_law_403 ?_
  obtain ⟨N1, eN1⟩ : ∃ z : NS, z = (N.1, N.2.1, N.2.2.1, N.2.2.2.1, N.2.2.2.2.1, N.2.2.2.2.2.1, N.2.2.2.2.2.2.1, N.2.2.2.2.2.2.2) := ⟨_, rfl⟩
  obtain ⟨Q1, eQ1⟩ : ∃ z : QS, z = (Q.1, Q.2.1, Q.2.2.1, Q.2.2.2.1, Q.2.2.2.2) := ⟨_, rfl⟩
  rw [← eN1, ← eQ1] at hI hR1
  refine w_ViA (wc := (wM cI cJ cZ (am 0) (am 1) (am 2) (am 3) (am 4) (am 5) (am 6) (am 7) (am 8) (am 9) (am 10) (am 11) (am 12) (am 13) M.1 M.2.1 M.2.2.1 M.2.2.2.1 M.2.2.2.2.1 M.2.2.2.2.2.1 M.2.2.2.2.2.2.1 M.2.2.2.2.2.2.2.1 M.2.2.2.2.2.2.2.2.1 M.2.2.2.2.2.2.2.2.2.1 M.2.2.2.2.2.2.2.2.2.2.1 M.2.2.2.2.2.2.2.2.2.2.2.1 M.2.2.2.2.2.2.2.2.2.2.2.2.1 M.2.2.2.2.2.2.2.2.2.2.2.2.2.1 M.2.2.2.2.2.2.2.2.2.2.2.2.2.2.1 M.2.2.2.2.2.2.2.2.2.2.2.2.2.2.2.1 M.2.2.2.2.2.2.2.2.2.2.2.2.2.2.2.2.1 M.2.2.2.2.2.2.2.2.2.2.2.2.2.2.2.2.2)) (wr := ((wX cI cJ cZ (ax 0) (ax 1) (ax 2) (ax 3) (ax 4) (ax 5) (ax 6) (ax 7) (ax 8) (ax 9) (ax 10) (ax 11) (vH C.1) (vPk C.2.1) (vT C.2.2) N1.1 N1.2.1 N1.2.2.1 N1.2.2.2.1 N1.2.2.2.2.1 N1.2.2.2.2.2.1 N1.2.2.2.2.2.2.1 N1.2.2.2.2.2.2.2 Q1.1 Q1.2.1 Q1.2.2.1 Q1.2.2.2.1 Q1.2.2.2.2) ++ (eH cI (ax 1) C.1 ++ (eP cI cZ (ax 1) C.2.1 ++ eT cJ (ax 1) C.2.2)))) (rest := [.int ox]) hx hb hml hg hown hK hA hI (pm_sw _ _ _) (kX8_chain l D cI cJ cZ (am 0) (am 1) (am 2) (am 3) (am 4) (am 5) (am 6) (am 7) (am 8) (am 9) (am 10) (am 11) (am 12) (am 13) M.1 M.2.1 M.2.2.1 M.2.2.2.1 M.2.2.2.2.1 M.2.2.2.2.2.1 M.2.2.2.2.2.2.1 M.2.2.2.2.2.2.2.1 M.2.2.2.2.2.2.2.2.1 M.2.2.2.2.2.2.2.2.2.1 M.2.2.2.2.2.2.2.2.2.2.1 M.2.2.2.2.2.2.2.2.2.2.2.1 M.2.2.2.2.2.2.2.2.2.2.2.2.1 M.2.2.2.2.2.2.2.2.2.2.2.2.2.1 M.2.2.2.2.2.2.2.2.2.2.2.2.2.2.1 M.2.2.2.2.2.2.2.2.2.2.2.2.2.2.2.1 M.2.2.2.2.2.2.2.2.2.2.2.2.2.2.2.2.1 M.2.2.2.2.2.2.2.2.2.2.2.2.2.2.2.2.2 (xs (i + 1).toNatClampNeg) (xs (i + 2).toNatClampNeg) (xs (i + 3).toNatClampNeg) om hom) kvX8_chain wL_RL_56 ⟨Nat.le_of_ble_eq_true rfl, Nat.le_of_ble_eq_true rfl⟩ rfl rfl rfl rfl hl.1 (Nat.le_of_ble_eq_true rfl) dL_law_404 ⟨by show cells + 0 + 0 ≤ 600000; omega, by show slots + 0 + 0 ≤ 7302250; omega⟩ (fun r u H locs hp hI => ?_)
  replace hp : r = om := hp
  rw [hp]
  clear hp r
  replace hI := hI.ofPerm (pm_sw _ _ _)
  obtain ⟨M1, eM1⟩ : ∃ z : MS, z = (M.1, M.2.1, M.2.2.1, M.2.2.2.1, M.2.2.2.2.1, M.2.2.2.2.2.1, M.2.2.2.2.2.2.1, M.2.2.2.2.2.2.2.1, M.2.2.2.2.2.2.2.2.1, M.2.2.2.2.2.2.2.2.2.1, M.2.2.2.2.2.2.2.2.2.2.1, M.2.2.2.2.2.2.2.2.2.2.2.1, M.2.2.2.2.2.2.2.2.2.2.2.2.1, M.2.2.2.2.2.2.2.2.2.2.2.2.2.1, M.2.2.2.2.2.2.2.2.2.2.2.2.2.2.1, M.2.2.2.2.2.2.2.2.2.2.2.2.2.2.2.1, M.2.2.2.2.2.2.2.2.2.2.2.2.2.2.2.2.1, M.2.2.2.2.2.2.2.2.2.2.2.2.2.2.2.2.2) := ⟨_, rfl⟩
  rw [← eM1] at hR1
  replace hI : WI D (fun q : Nat => s.heap.size ≤ q) s.heap (WL cI cJ cZ ax am N1 Q1 M1 (C.1, C.2.1, C.2.2)) H locs := by rw [eM1]; exact hI
  refine lv_icmp_eq (tgt := 876) hx hb dL_law_407 (by decide) (fun hc => ?_) (fun hc => ?_)
  · exact hN N1 Q1 M1 _ H locs ls _ _ hR1 hI hl (by show cells + 0 + 0 ≤ cells + 4; omega) (by show slots + 0 + 0 ≤ slots + 4200; omega)
  · exact absurd hrt hc
set_option maxHeartbeats 4000000 in
set_option maxRecDepth 100000 in
theorem lo_swap {p : Program} {e : Env} {s : State} {m : MethodId} {below : List Frame} {meth : Method} {c : Code} (l : Launch) {b L : Nat} {xs : Nat → Int32} (C0 : lw_At p s m meth c b L xs) (D : va_G) (cI cJ cZ : ClassId) (hK : KK D cI cJ cZ s) (ax am : Nat → Nat) {i : Int32} (hi1 : vp_in (i + 1) L) (hi2 : vp_in (i + 2) L) (hi3 : vp_in (i + 3) L) {cells slots : Nat} (hcl : cells + 4 ≤ 600000) (hsl : slots + 4200 ≤ 7302250) (hN : NextP p l e s m below meth c b D cI cJ cZ ax am i cells slots) {N : NS} {Q : QS} {M : MS} (C : CS) (hR : Rel N Q M) {H : Heap} {locs : List Loc} {ls : Array Slot} (hI : WI D (fun q : Nat => s.heap.size ≤ q) s.heap (WL cI cJ cZ ax am N Q M C) H locs) (hl : lv_has ls 4 [(0, .ref b), (1, .ref (ax 0)), (2, .ref (am 0)), (3, .int i)]) : W p l e room_1 s m #[Value.ref b] below meth c H locs cells slots (lw_Z below #[Value.ref b] s) (F0 m 412 ls []) := by
  obtain ⟨hx, hb, hr, hml, hown, hts, hX, hbl, hlocks, hgv⟩ := id C0
  have hA : ∀ q : Nat, s.heap.size ≤ q → (fun q : Nat => s.heap.size ≤ q) q := fun _ h => h
  have hbA : ¬ (fun q : Nat => s.heap.size ≤ q) b := Nat.not_le.mpr hbl
  have hg : ∀ w ∈ GW, w.before #[Value.ref b] s = true := fun w h => hts w (gw_tbl h)
  replace hown : s.vm.findClass RL = some m.cls := hown
  refine lv_aload_n hx hb dL_law_412 rfl (lv_at hl 1 rfl) ?_
  refine lv_aload_n hx hb dL_law_413 rfl (lv_at hl 0 rfl) ?_
  refine lv_iload_n hx hb dL_law_414 rfl (lv_at hl 3 rfl) ?_
  refine lv_iconst (v := 1) hx hb dL_law_415 (by decide) ?_
  refine lv_iadd hx hb dL_law_416 ?_
  refine va_sld hx hb hX hbl hbA hI.2.2 hi1 dL_law_417 ?_
  refine lv_aload_n hx hb dL_law_418 rfl (lv_at hl 0 rfl) ?_
  refine lv_iload_n hx hb dL_law_419 rfl (lv_at hl 3 rfl) ?_
  refine lv_iconst (v := 2) hx hb dL_law_420 (by decide) ?_
  refine lv_iadd hx hb dL_law_421 ?_
  refine va_sld hx hb hX hbl hbA hI.2.2 hi2 dL_law_422 ?_
  refine lv_aload_n hx hb dL_law_423 rfl (lv_at hl 0 rfl) ?_
  refine lv_iload_n hx hb dL_law_424 rfl (lv_at hl 3 rfl) ?_
  refine lv_iconst (v := 3) hx hb dL_law_425 (by decide) ?_
  refine lv_iadd hx hb dL_law_426 ?_
  refine va_sld hx hb hX hbl hbA hI.2.2 hi3 dL_law_427 ?_
  obtain ⟨ox, om, hox, hom, hrt, hR1⟩ := op_swap hR (xs (i + 1).toNatClampNeg) (xs (i + 2).toNatClampNeg) (xs (i + 3).toNatClampNeg)
  refine w_ViA (wc := (wX cI cJ cZ (ax 0) (ax 1) (ax 2) (ax 3) (ax 4) (ax 5) (ax 6) (ax 7) (ax 8) (ax 9) (ax 10) (ax 11) (vH C.1) (vPk C.2.1) (vT C.2.2) N.1 N.2.1 N.2.2.1 N.2.2.2.1 N.2.2.2.2.1 N.2.2.2.2.2.1 N.2.2.2.2.2.2.1 N.2.2.2.2.2.2.2 Q.1 Q.2.1 Q.2.2.1 Q.2.2.2.1 Q.2.2.2.2)) (wr := ((wM cI cJ cZ (am 0) (am 1) (am 2) (am 3) (am 4) (am 5) (am 6) (am 7) (am 8) (am 9) (am 10) (am 11) (am 12) (am 13) M.1 M.2.1 M.2.2.1 M.2.2.2.1 M.2.2.2.2.1 M.2.2.2.2.2.1 M.2.2.2.2.2.2.1 M.2.2.2.2.2.2.2.1 M.2.2.2.2.2.2.2.2.1 M.2.2.2.2.2.2.2.2.2.1 M.2.2.2.2.2.2.2.2.2.2.1 M.2.2.2.2.2.2.2.2.2.2.2.1 M.2.2.2.2.2.2.2.2.2.2.2.2.1 M.2.2.2.2.2.2.2.2.2.2.2.2.2.1 M.2.2.2.2.2.2.2.2.2.2.2.2.2.2.1 M.2.2.2.2.2.2.2.2.2.2.2.2.2.2.2.1 M.2.2.2.2.2.2.2.2.2.2.2.2.2.2.2.2.1 M.2.2.2.2.2.2.2.2.2.2.2.2.2.2.2.2.2) ++ (eH cI (ax 1) C.1 ++ (eP cI cZ (ax 1) C.2.1 ++ eT cJ (ax 1) C.2.2)))) (rest := []) hx hb hml hg hown hK hA hI (List.Perm.refl _) (kX7_swap l D cI cJ cZ (ax 0) (ax 1) (ax 2) (ax 3) (ax 4) (ax 5) (ax 6) (ax 7) (ax 8) (ax 9) (ax 10) (ax 11) (vH C.1) (vPk C.2.1) (vT C.2.2) N.1 N.2.1 N.2.2.1 N.2.2.2.1 N.2.2.2.2.1 N.2.2.2.2.2.1 N.2.2.2.2.2.2.1 N.2.2.2.2.2.2.2 Q.1 Q.2.1 Q.2.2.1 Q.2.2.2.1 Q.2.2.2.2 (xs (i + 1).toNatClampNeg) (xs (i + 2).toNatClampNeg) (xs (i + 3).toNatClampNeg) ox hox) kvX7_swap wL_RL_57 ⟨Nat.le_of_ble_eq_true rfl, Nat.le_of_ble_eq_true rfl⟩ rfl rfl rfl rfl hl.1 (Nat.le_of_ble_eq_true rfl) dL_law_428 ⟨by show _ + 0 ≤ 600000; omega, by show _ + 0 ≤ 7302250; omega⟩ (fun r u H locs hp hI => ?_)
  replace hp : r = ox.1 := hp
  rw [hp]
  clear hp r
  replace hI : WI D (fun q : Nat => s.heap.size ≤ q) s.heap (WL cI cJ cZ ax am (N.1, N.2.1, N.2.2.1, N.2.2.2.1, ox.2, N.2.2.2.2.2.1, N.2.2.2.2.2.2.1, N.2.2.2.2.2.2.2) (Q.1, Q.2.1, Q.2.2.1, Q.2.2.2.1, Q.2.2.2.2) M (C.1, C.2.1, C.2.2)) H locs := hI
  refine lv_aload_n hx hb dL_law_431 rfl (lv_at hl 2 rfl) ?_
  refine lv_aload_n hx hb dL_law_432 rfl (lv_at hl 0 rfl) ?_
  refine lv_iload_n hx hb dL_law_433 rfl (lv_at hl 3 rfl) ?_
  refine lv_iconst (v := 1) hx hb dL_law_434 (by decide) ?_
  refine lv_iadd hx hb dL_law_435 ?_
  refine va_sld hx hb hX hbl hbA hI.2.2 hi1 dL_law_436 ?_
  refine lv_aload_n hx hb dL_law_437 rfl (lv_at hl 0 rfl) ?_
  refine lv_iload_n hx hb dL_law_438 rfl (lv_at hl 3 rfl) ?_
  refine lv_iconst (v := 2) hx hb dL_law_439 (by decide) ?_
  refine lv_iadd hx hb dL_law_440 ?_
  refine va_sld hx hb hX hbl hbA hI.2.2 hi2 dL_law_441 ?_
  refine lv_aload_n hx hb dL_law_442 rfl (lv_at hl 0 rfl) ?_
  refine lv_iload_n hx hb dL_law_443 rfl (lv_at hl 3 rfl) ?_
  refine lv_iconst (v := 3) hx hb dL_law_444 (by decide) ?_
  refine lv_iadd hx hb dL_law_445 ?_
  refine va_sld hx hb hX hbl hbA hI.2.2 hi3 dL_law_446 ?_
  obtain ⟨N1, eN1⟩ : ∃ z : NS, z = (N.1, N.2.1, N.2.2.1, N.2.2.2.1, ox.2, N.2.2.2.2.2.1, N.2.2.2.2.2.2.1, N.2.2.2.2.2.2.2) := ⟨_, rfl⟩
  obtain ⟨Q1, eQ1⟩ : ∃ z : QS, z = (Q.1, Q.2.1, Q.2.2.1, Q.2.2.2.1, Q.2.2.2.2) := ⟨_, rfl⟩
  rw [← eN1, ← eQ1] at hI hR1
  refine w_ViA (wc := (wM cI cJ cZ (am 0) (am 1) (am 2) (am 3) (am 4) (am 5) (am 6) (am 7) (am 8) (am 9) (am 10) (am 11) (am 12) (am 13) M.1 M.2.1 M.2.2.1 M.2.2.2.1 M.2.2.2.2.1 M.2.2.2.2.2.1 M.2.2.2.2.2.2.1 M.2.2.2.2.2.2.2.1 M.2.2.2.2.2.2.2.2.1 M.2.2.2.2.2.2.2.2.2.1 M.2.2.2.2.2.2.2.2.2.2.1 M.2.2.2.2.2.2.2.2.2.2.2.1 M.2.2.2.2.2.2.2.2.2.2.2.2.1 M.2.2.2.2.2.2.2.2.2.2.2.2.2.1 M.2.2.2.2.2.2.2.2.2.2.2.2.2.2.1 M.2.2.2.2.2.2.2.2.2.2.2.2.2.2.2.1 M.2.2.2.2.2.2.2.2.2.2.2.2.2.2.2.2.1 M.2.2.2.2.2.2.2.2.2.2.2.2.2.2.2.2.2)) (wr := ((wX cI cJ cZ (ax 0) (ax 1) (ax 2) (ax 3) (ax 4) (ax 5) (ax 6) (ax 7) (ax 8) (ax 9) (ax 10) (ax 11) (vH C.1) (vPk C.2.1) (vT C.2.2) N1.1 N1.2.1 N1.2.2.1 N1.2.2.2.1 N1.2.2.2.2.1 N1.2.2.2.2.2.1 N1.2.2.2.2.2.2.1 N1.2.2.2.2.2.2.2 Q1.1 Q1.2.1 Q1.2.2.1 Q1.2.2.2.1 Q1.2.2.2.2) ++ (eH cI (ax 1) C.1 ++ (eP cI cZ (ax 1) C.2.1 ++ eT cJ (ax 1) C.2.2)))) (rest := [.int ox.1]) hx hb hml hg hown hK hA hI (pm_sw _ _ _) (kX8_swap l D cI cJ cZ (am 0) (am 1) (am 2) (am 3) (am 4) (am 5) (am 6) (am 7) (am 8) (am 9) (am 10) (am 11) (am 12) (am 13) M.1 M.2.1 M.2.2.1 M.2.2.2.1 M.2.2.2.2.1 M.2.2.2.2.2.1 M.2.2.2.2.2.2.1 M.2.2.2.2.2.2.2.1 M.2.2.2.2.2.2.2.2.1 M.2.2.2.2.2.2.2.2.2.1 M.2.2.2.2.2.2.2.2.2.2.1 M.2.2.2.2.2.2.2.2.2.2.2.1 M.2.2.2.2.2.2.2.2.2.2.2.2.1 M.2.2.2.2.2.2.2.2.2.2.2.2.2.1 M.2.2.2.2.2.2.2.2.2.2.2.2.2.2.1 M.2.2.2.2.2.2.2.2.2.2.2.2.2.2.2.1 M.2.2.2.2.2.2.2.2.2.2.2.2.2.2.2.2.1 M.2.2.2.2.2.2.2.2.2.2.2.2.2.2.2.2.2 (xs (i + 1).toNatClampNeg) (xs (i + 2).toNatClampNeg) (xs (i + 3).toNatClampNeg) om hom) kvX8_swap wL_RL_60 ⟨Nat.le_of_ble_eq_true rfl, Nat.le_of_ble_eq_true rfl⟩ rfl rfl rfl rfl hl.1 (Nat.le_of_ble_eq_true rfl) dL_law_447 ⟨by show cells + 0 + 0 ≤ 600000; omega, by show slots + 0 + 0 ≤ 7302250; omega⟩ (fun r u H locs hp hI => ?_)
  replace hp : r = om.1 := hp
  rw [hp]
  clear hp r
  replace hI := hI.ofPerm (pm_sw _ _ _)
  obtain ⟨M1, eM1⟩ : ∃ z : MS, z = (M.1, M.2.1, M.2.2.1, M.2.2.2.1, M.2.2.2.2.1, M.2.2.2.2.2.1, M.2.2.2.2.2.2.1, om.2, M.2.2.2.2.2.2.2.2.1, M.2.2.2.2.2.2.2.2.2.1, M.2.2.2.2.2.2.2.2.2.2.1, M.2.2.2.2.2.2.2.2.2.2.2.1, M.2.2.2.2.2.2.2.2.2.2.2.2.1, M.2.2.2.2.2.2.2.2.2.2.2.2.2.1, M.2.2.2.2.2.2.2.2.2.2.2.2.2.2.1, M.2.2.2.2.2.2.2.2.2.2.2.2.2.2.2.1, M.2.2.2.2.2.2.2.2.2.2.2.2.2.2.2.2.1, M.2.2.2.2.2.2.2.2.2.2.2.2.2.2.2.2.2) := ⟨_, rfl⟩
  rw [← eM1] at hR1
  replace hI : WI D (fun q : Nat => s.heap.size ≤ q) s.heap (WL cI cJ cZ ax am N1 Q1 M1 (C.1, C.2.1, C.2.2)) H locs := by rw [eM1]; exact hI
  refine lv_icmp_eq (tgt := 876) hx hb dL_law_450 (by decide) (fun hc => ?_) (fun hc => ?_)
  · exact hN N1 Q1 M1 _ H locs ls _ _ hR1 hI hl (by show cells + 0 + 0 ≤ cells + 4; omega) (by show slots + 0 + 0 ≤ slots + 4200; omega)
  · exact absurd hrt hc
