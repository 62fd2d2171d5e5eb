/-! ===== even: the search, the swaps, the call ===== -/
section EVEN2
variable {n p : Nat} {fs sc : Nat → Nat} {F S : Nat → Int32} {c : Nat → Int32} {x y : Int32}
theorem and_mk {C : Nat} (P : Nat → Bool) (hC : C < 2 ^ n) : C &&& mk P n = mk (fun i => C.testBit i && P i) n :=
  bits_eq (k := n) (and_lt_l hC) (mk_lt _ n) (fun i hi => by rw [Nat.testBit_and, mk_bit, mk_bit]; simp [hi])
theorem sd_mk {C : Nat} (P : Nat → Bool) (hC : C < 2 ^ n) : sd C (mk P n) = mk (fun i => C.testBit i && !P i) n :=
  bits_eq (k := n) (sd_lt hC) (mk_lt _ n) (fun i hi => by rw [sd_bit, mk_bit, mk_bit]; simp [hi])
/-- the chains are the parts of one division -/
theorem least_same {r j C : Nat} (hn : n ≤ 24) (hr : r < n) (hU : xyP c x y r = true) (hC : Least fs sc c n x y (2 ^ r) C) (hj : C.testBit j = true) : Least fs sc c n x y (2 ^ j) C := by
  have hCU := chain_in hn hr hU hC
  obtain ⟨j1, j2⟩ := hCU j hj
  have sub1 : ∀ {a K : Nat}, K.testBit a = true → Sub (2 ^ a) K := fun {a K} h i hi => by
    rw [Nat.testBit_two_pow] at hi
    rw [← of_decide_eq_true hi]; exact h
  have hrC : C.testBit r = true := hC.2.1 r (by rw [Nat.testBit_two_pow]; simp)
  refine ⟨hC.1, sub1 hj, hC.2.2.1, fun K h1 h2 => ?_⟩
  have hjK : K.testBit j = true := h1 j (by rw [Nat.testBit_two_pow]; simp)
  cases hh : K.testBit r
  · -- then what of C is outside K is closed, and j is not in it
    have := hC.2.2.2 (sd C K) (sub1 (by rw [sd_bit, hrC, hh]; rfl)) (fun s q hs hq g1 g2 g3 => by
      rw [sd_bit] at g1 ⊢
      simp only [Bool.and_eq_true, Bool.not_eq_true'] at g1 ⊢
      refine ⟨hC.2.2.1 s q hs hq g1.1 g2 g3, ?_⟩
      cases hk : K.testBit q
      · rfl
      · have := h2 q s hq hs hk (hCU s g1.1).2 (by rw [adj_symm]; exact g3)
        rw [g1.2] at this
        exact Bool.noConfusion this) j hj
    rw [sd_bit, hjK] at this
    simp at this
  · exact hC.2.2.2 K (sub1 hh) h2
def lightC (c : Nat → Int32) (n : Nat) (x y : Int32) (C : Nat) : Prop := fb_ct (fun i => C.testBit i && decide (c i = x)) n ≤ fb_ct (fun i => C.testBit i && decide (c i = y)) n
theorem not_x (hn : n ≤ 24) (hxy : x ≠ y) {C : Nat} (hCU : ∀ i, C.testBit i = true → i < n ∧ xyP c x y i = true) : fb_ct (fun i => C.testBit i && !decide (c i = x)) n = fb_ct (fun i => C.testBit i && decide (c i = y)) n := fb_ct_cong (fun k _ => by
    cases hh : C.testBit k
    · rfl
    · have := (hCU k hh).2
      unfold xyP at this
      simp only [Bool.or_eq_true, decide_eq_true_eq] at this
      rcases this with q | q
      · simp [q, hxy]
      · simp [q, Ne.symm hxy])
theorem bnd_at {α β : Type} (a : α) (k : α → Option β) : bnd a k = k a := rfl
theorem ct_and (hn : n ≤ 24) {C : Nat} (hC : C < 2 ^ n) (P : Nat → Bool) : FJ6_bitCount_0f7a4 (nI C &&& nI (mk P n)) = some (nI (fb_ct (fun i => C.testBit i && P i) n)) := by
  have h : C &&& mk P n < 2 ^ 32 := Nat.lt_of_lt_of_le (and_lt_l hC) (Nat.pow_le_pow_right (by decide) (by omega))
  rw [fa_and, bc_nI h, and_mk _ hC, pcn_mk _ (by omega)]
theorem ct_sd (hn : n ≤ 24) {C : Nat} (hC : C < 2 ^ n) (P : Nat → Bool) : FJ6_bitCount_0f7a4 (nI C &&& (nI (mk P n) ^^^ (-1 : Int32))) = some (nI (fb_ct (fun i => C.testBit i && !P i) n)) := by
  have h : sd C (mk P n) < 2 ^ 32 := Nat.lt_of_lt_of_le (sd_lt hC) (Nat.pow_le_pow_right (by decide) (by omega))
  rw [andnot_nI, bc_nI h, sd_mk _ hC, pcn_mk _ (by omega)]
theorem x_heavy {Bs : Nat → Int32} (hn : n ≤ 24) (hB : BsOK n fs sc Bs) (hxy : x ≠ y) (hk : fb_ct (fun r => decide (c r = y)) n < fb_ct (fun r => decide (c r = x)) n) : ∃ r C, r < n ∧ xyP c x y r = true ∧ Least fs sc c n x y (2 ^ r) C ∧ ¬ lightC c n x y C ∧ FX0_firstHeavyChain (nI n) c Bs x y = some (nI C) ∧ ∀ j, j < r → xyP c x y j = true → ∃ D, Least fs sc c n x y (2 ^ j) D ∧ lightC c n x y D := by
  have main : ∃ o, loopO (X0_firstHeavyChain_L24 (nI n) c Bs x y (nI (mk (fun r => decide (c r = x)) n))) (nI (mk (xyP c x y) n), nI 0) = some o ∧ ∃ r C, o = nI C ∧ r < n ∧ xyP c x y r = true ∧ Least fs sc c n x y (2 ^ r) C ∧ ¬ lightC c n x y C ∧ ∀ j, j < r → xyP c x y j = true → ∃ D, Least fs sc c n x y (2 ^ j) D ∧ lightC c n x y D := by
    refine for_inv (fun (W : Nat) i => (nI W, nI i)) n (fun i W => W < 2 ^ n ∧ (∀ j, W.testBit j = true → xyP c x y j = true) ∧ Closed fs sc c n x y W ∧ (∀ j, j < i → W.testBit j = false) ∧ ¬ lightC c n x y W ∧ ∀ j, j < n → xyP c x y j = true → W.testBit j = false → ∃ D, Least fs sc c n x y (2 ^ j) D ∧ lightC c n x y D) _ (fun i W hi hI => ?_) (fun W hI => ?_) (i := 0) (Nat.zero_le _) ?_
    · obtain ⟨w1, w2, w3, w4, w5, w6⟩ := hI
      have w31 : W < 2 ^ 31 := Nat.lt_of_lt_of_le w1 (Nat.pow_le_pow_right (by decide) (by omega))
      cases hW : W.testBit i
      · left
        refine ⟨W, ?_, w1, w2, w3, fun j hj => ?_, w5, w6⟩
        · simp (disch := omega) only [X0_firstHeavyChain_L24, nI_leI, Nat.not_le.mpr hi, ↓reduceIte, isIn_nI w31, hW, Option.bind_some, Bool.false_eq_true, bnd, nI_1]
        · by_cases e : j = i
          · rw [e]; exact hW
          · exact w4 j (by omega)
      · obtain ⟨C, hC, k1⟩ := x_chainOf (c := c) (x := x) (y := y) hn hB hi
        have hU := w2 i hW
        have hCU := chain_in hn hi hU hC
        have hC24 := hC.1
        have hCW : Sub C W := hC.2.2.2 W (fun j hj => by
          rw [Nat.testBit_two_pow] at hj
          rw [← of_decide_eq_true hj]; exact hW) w3
        have hiC : C.testBit i = true := hC.2.1 i (by rw [Nat.testBit_two_pow]; simp)
        have q1 : FJ6_bitCount_0f7a4 (nI C &&& nI (mk (fun r => decide (c r = x)) n)) = some (nI (fb_ct (fun i => C.testBit i && decide (c i = x)) n)) := by
          exact ct_and hn hC24 _
        have q2 : FJ6_bitCount_0f7a4 (nI C &&& (nI (mk (fun r => decide (c r = x)) n) ^^^ (-1 : Int32))) = some (nI (fb_ct (fun i => C.testBit i && decide (c i = y)) n)) := by
          rw [ct_sd hn hC24, not_x hn hxy hCU]
        have b1 : fb_ct (fun i => C.testBit i && decide (c i = x)) n ≤ n := fb_ct_le _ _
        have b2 : fb_ct (fun i => C.testBit i && decide (c i = y)) n ≤ n := fb_ct_le _ _
        have hlt : lightC c n x y C ↔ fb_ct (fun i => C.testBit i && decide (c i = x)) n ≤ fb_ct (fun i => C.testBit i && decide (c i = y)) n := Iff.rfl
        generalize fb_ct (fun i => C.testBit i && decide (c i = x)) n = za at q1 b1 hlt
        generalize fb_ct (fun i => C.testBit i && decide (c i = y)) n = zb at q2 b2 hlt
        generalize nI (mk (fun r => decide (c r = x)) n) = zm at q1 q2 ⊢
        have hin : FX7_isIn (nI W) (nI i) = some 1 := by rw [isIn_nI w31 (by omega), hW]; rfl
        have hstep : X0_firstHeavyChain_L24 (nI n) c Bs x y zm (nI W, nI i) = if nI za ≤ nI zb then some (.inl (nI W &&& (nI C ^^^ (-1 : Int32)), nI (i + 1))) else some (.inr (nI C)) := by
          unfold X0_firstHeavyChain_L24
          rw [if_neg (fun z => Nat.not_le.mpr hi ((nI_leI (by omega) (by omega)).mp z))]
          rw [show (nI W, nI i).1 = nI W from rfl, show (nI W, nI i).2 = nI i from rfl, hin, Option.bind_some, if_neg (by decide : ¬ (1 : Int32) = 0), k1, Option.bind_some, q1, Option.bind_some, q2, Option.bind_some]
          simp only [bnd_at, nI_1]
        by_cases hl : lightC c n x y C
        · left
          refine ⟨sd W C, ?_, sd_lt w1, fun j hj => ?_, fun s q hs hq g1 g2 g3 => ?_, fun j hj => ?_, fun hbad => ?_, fun j hj g1 g2 => ?_⟩
          · have hl' := hlt.mp hl
            rw [hstep, if_pos ((nI_leI (by omega) (by omega)).mpr hl'), andnot_nI]
          · rw [sd_bit] at hj
            simp only [Bool.and_eq_true] at hj
            exact w2 j hj.1
          · rw [sd_bit] at g1 ⊢
            simp only [Bool.and_eq_true, Bool.not_eq_true'] at g1 ⊢
            refine ⟨w3 s q hs hq g1.1 g2 g3, ?_⟩
            cases hk : C.testBit q
            · rfl
            · have := hC.2.2.1 q s hq hs hk (w2 s g1.1) (by rw [adj_symm]; exact g3)
              rw [g1.2] at this
              exact Bool.noConfusion this
          · rw [sd_bit]
            by_cases e : j = i
            · rw [e, hiC]; simp
            · rw [w4 j (by omega)]; rfl
          · refine w5 ?_
            unfold lightC at *
            have e : ∀ z : Int32, fb_ct (fun i => W.testBit i && decide (c i = z)) n = fb_ct (fun i => C.testBit i && decide (c i = z)) n + fb_ct (fun i => (sd W C).testBit i && decide (c i = z)) n := fun z => by
              rw [ct_split (fun i => W.testBit i && decide (c i = z)) (fun i => C.testBit i) n]
              congr 1
              · refine fb_ct_cong (fun k _ => ?_)
                cases hh : C.testBit k
                · rfl
                · rw [hCW k hh]; rfl
              · refine fb_ct_cong (fun k _ => ?_)
                rw [sd_bit]
                cases C.testBit k <;> simp
            rw [e, e]
            omega
          · cases hk : W.testBit j
            · exact w6 j hj g1 hk
            · rw [sd_bit, hk] at g2
              simp only [Bool.true_and, Bool.not_eq_false'] at g2
              exact ⟨C, least_same hn hi hU hC g2, hl⟩
        · right
          refine ⟨nI C, ?_, i, C, rfl, hi, hU, hC, hl, fun j hj g => w6 j (by omega) g (w4 j hj)⟩
          have hl' := mt hlt.mpr hl
          rw [hstep, if_neg (fun z => hl' ((nI_leI (by omega) (by omega)).mp z))]
    · exfalso
      obtain ⟨w1, w2, w3, w4, w5, w6⟩ := hI
      refine w5 ?_
      unfold lightC
      have : fb_ct (fun i => W.testBit i && decide (c i = x)) n = 0 := fb_ct_zero.mpr (fun k hk => by rw [w4 k hk]; rfl)
      omega
    · refine ⟨mk_lt _ _, fun j hj => ?_, fun s q hs hq g1 g2 g3 => ?_, fun j hj => by omega, ?_, fun j hj g1 g2 => ?_⟩
      · rw [mk_bit] at hj
        simp only [Bool.and_eq_true] at hj
        exact hj.2
      · rw [mk_bit]; simp [hq, g2]
      · unfold lightC
        have e : ∀ z, (z = x ∨ z = y) → fb_ct (fun i => (mk (xyP c x y) n).testBit i && decide (c i = z)) n = fb_ct (fun r => decide (c r = z)) n := fun z hz => fb_ct_cong (fun k hk => by
          rw [mk_bit]
          by_cases q : c k = z
          · have : xyP c x y k = true := by
              unfold xyP
              rcases hz with rfl | rfl <;> simp [q]
            simp [hk, this]
          · simp [q])
        rw [e x (Or.inl rfl), e y (Or.inr rfl)]
        omega
      · rw [mk_bit] at g2
        simp [hj, g1] at g2
  obtain ⟨o, h1, r, C, rfl, h2, h3, h4, h5, h6⟩ := main
  refine ⟨r, C, h2, h3, h4, h5, ?_, h6⟩
  unfold FX0_firstHeavyChain
  rw [x_roadsNumbered hn, x_roadsNumbered hn]
  simp only [Option.bind_some, fa_or, xy_mask, bnd]
  rw [show (0 : Int32) = nI 0 from rfl]
  exact h1
theorem dI_up (a b : Nat) : nI a - nI b + 1 = nI (a + 1) - nI b := by
  rw [show nI (a + 1) = nI a + 1 from (nI_1 a).symm]
  grind
theorem dI_dn (a b : Nat) : nI a - nI b + -1 = nI a - nI (b + 1) := by
  rw [show nI (b + 1) = nI b + 1 from (nI_1 b).symm]
  grind
theorem dI_le {a b : Nat} (ha : a < 2 ^ 30) (hb : b < 2 ^ 30) : nI a - nI b ≤ (0 : Int32) ↔ a ≤ b := by
  have e1 := nI_toInt (n := a) (by omega)
  have e2 := nI_toInt (n := b) (by omega)
  rw [fa_le, fb_subI (by rw [e1, e2]; omega) (by rw [e1, e2]; omega), e1, e2, show (0 : Int32).toInt = 0 by decide]
  omega
theorem m_weigh {l1 l2 l5 : Int32} (hn : n ≤ 24) (hxy : x ≠ y) {C : Nat} (hC : C < 2 ^ n) (hCU : ∀ i, C.testBit i = true → i < n ∧ xyP c x y i = true) : loopO (X8_even_L188 (nI n) F S c l1 l2 x y l5 (nI C)) (0, 0) = X8_even_J235 (nI n) F S c l1 l2 x y l5 (nI C) (nI (fb_ct (fun i => C.testBit i && decide (c i = x)) n) - nI (fb_ct (fun i => C.testBit i && decide (c i = y)) n)) := by
  have hp24 : (2 : Nat) ^ n ≤ 2 ^ 24 := Nat.pow_le_pow_right (by decide) hn
  have h0 : ((0 : Int32), (0 : Int32)) = (nI (fb_ct (fun i => C.testBit i && decide (c i = x)) 0) - nI (fb_ct (fun i => C.testBit i && !decide (c i = x)) 0), nI 0) := by simp only [fb_ct]; rfl
  rw [h0]
  refine (for_go (fun i => (nI (fb_ct (fun i => C.testBit i && decide (c i = x)) i) - nI (fb_ct (fun i => C.testBit i && !decide (c i = x)) i), nI i)) n (fun i hi => ?_)).trans ?_
  · have ht : ((nI C >>> (nI i &&& 31)) &&& 1 = 1) ↔ C.testBit i = true := by
      rw [tb_nI (by omega) (by omega)]
      cases C.testBit i <;> simp
    rw [fb_ct_succ, fb_ct_succ]
    simp (disch := omega) only [X8_even_L188, nI_leI, Nat.not_le.mpr hi, ↓reduceIte, ht, rd_nI, bnd, nI_1]
    cases hb : C.testBit i
    · simp
    · by_cases q : c i = x
      · simp [q, dI_up]
      · simp [q, dI_dn]
  · refine lp_map ?_
    simp only [X8_even_L188, Int32.le_refl, ↓reduceIte]
    rw [not_x hn hxy hCU]
theorem m_heavy {l1 l2 : Int32} (hE : EndsOK n p fs sc F S) (hxy : x ≠ y) {r C : Nat} (hr : r < n) (hU : xyP c x y r = true) (hC : Least fs sc c n x y (2 ^ r) C) (hv : ¬ lightC c n x y C) (hl : ∀ j, j < r → xyP c x y j = true → ∃ D, Least fs sc c n x y (2 ^ j) D ∧ lightC c n x y D) : loopO (X8_even_L143 (nI n) F S l1 l2 x y) (c, 0, 0) = some (.inl (sxc C x y c n, l2 + 1)) := by
  have hn := hE.1
  have hp24 : (2 : Nat) ^ n ≤ 2 ^ 24 := Nat.pow_le_pow_right (by decide) hn
  have hxyP : ∀ i, xyP c x y i = true ↔ (c i = x ∨ c i = y) := fun i => by unfold xyP; simp
  have hJ : ∀ i, i < n → xyP c x y i = true → X8_even_L143 (nI n) F S l1 l2 x y (c, nI i, 0) = X8_even_J171 (nI n) F S c l1 l2 x y (nI i) := fun i hi h => by
    simp (disch := omega) only [X8_even_L143, ↓reduceIte, rd_nI]
    rcases (hxyP i).mp h with q | q
    · simp only [q, ↓reduceIte]
    · simp only [q, ↓reduceIte, ite_self]
  have hW : ∀ i D, i < n → xyP c x y i = true → Least fs sc c n x y (2 ^ i) D → X8_even_L143 (nI n) F S l1 l2 x y (c, nI i, 0) = X8_even_J235 (nI n) F S c l1 l2 x y (nI i) (nI D) (nI (fb_ct (fun i => D.testBit i && decide (c i = x)) n) - nI (fb_ct (fun i => D.testBit i && decide (c i = y)) n)) := fun i D hi h hD => by
    rw [hJ i hi h]
    obtain ⟨D', hD', k2⟩ := m_chainOf (c := c) (x := x) (y := y) hE hi
    obtain rfl := least_one hD hD'
    unfold X8_even_J171
    rw [k2]
    exact m_weigh hn hxy hD.1 (chain_in hn hi h hD)
  have g1 : loopO (X8_even_L143 (nI n) F S l1 l2 x y) (c, nI 0, 0) = loopO (X8_even_L143 (nI n) F S l1 l2 x y) (c, nI r, 0) := by
    refine for_go (fun i => (c, nI i, 0)) r (fun i hi => ?_)
    cases h : xyP c x y i
    · have h1 : ¬ c i = x := fun q => by rw [(hxyP i).mpr (Or.inl q)] at h; exact Bool.noConfusion h
      have h2 : ¬ c i = y := fun q => by rw [(hxyP i).mpr (Or.inr q)] at h; exact Bool.noConfusion h
      simp (disch := omega) only [X8_even_L143, ↓reduceIte, rd_nI, h1, h2, bnd, nI_1]
    · obtain ⟨D, hD, hL⟩ := hl i hi h
      rw [hW i D (by omega) h hD]
      unfold lightC at hL
      have b1 : fb_ct (fun i => D.testBit i && decide (c i = x)) n ≤ n := fb_ct_le _ _
      have b2 : fb_ct (fun i => D.testBit i && decide (c i = y)) n ≤ n := fb_ct_le _ _
      simp (disch := omega) only [X8_even_J235, dI_le, hL, ↓reduceIte, X8_even_J245, bnd, nI_1]
  rw [show ((c, (0 : Int32), (0 : Int32)) : (Nat → Int32) × Int32 × Int32) = (c, nI 0, 0) from rfl, g1]
  have b1 : fb_ct (fun i => C.testBit i && decide (c i = x)) n ≤ n := fb_ct_le _ _
  have b2 : fb_ct (fun i => C.testBit i && decide (c i = y)) n ≤ n := fb_ct_le _ _
  have hC24 := hC.1
  have g2 : X8_even_L143 (nI n) F S l1 l2 x y (c, nI r, 0) = some (.inl (sxc C x y c n, nI (r + 1), 1)) := by
    rw [hW r C hr hU hC]
    unfold lightC at hv
    simp (disch := omega) only [X8_even_J235, dI_le, hv, ↓reduceIte, X8_even_J245, o10, m_swapped hn, Option.bind_some, bnd, nI_1]
  rw [lp_go g2]
  refine lp_end ?_
  simp only [X8_even_L143, o10, ↓reduceIte, bnd]
end EVEN2
