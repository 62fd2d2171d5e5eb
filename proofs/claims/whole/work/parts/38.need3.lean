/-! ===== full, need, heap: the calls ===== -/
section NEED3
variable {n p : Nat} {fs sc : Nat → Nat} {F S : Nat → Int32}
def bdn (fs sc : Nat → Nat) (n K : Nat) : Nat → Nat
  | 0 => K
  | i + 1 => if pcn i ≤ 2 then bdn fs sc n K i else if ndn fs sc n i ≤ bdn fs sc n K i then bdn fs sc n K i else ndn fs sc n i
theorem bdn_ge (K : Nat) : ∀ i, K ≤ bdn fs sc n K i
  | 0 => Nat.le_refl _
  | i + 1 => by
    have := bdn_ge K i
    rw [bdn]
    split
    · exact this
    · split <;> omega
theorem bdn_up (K : Nat) : ∀ i j, j < i → 3 ≤ pcn j → ndn fs sc n j ≤ bdn fs sc n K i
  | i + 1, j, h, h3 => by
    rw [bdn]
    by_cases e : j = i
    · rw [e] at h3 ⊢
      rw [if_neg (by omega)]
      split <;> omega
    · have := bdn_up K i j (by omega) h3
      split
      · exact this
      · split <;> omega
theorem bdn_is (K : Nat) : ∀ i, bdn fs sc n K i = K ∨ ∃ j, j < i ∧ 3 ≤ pcn j ∧ bdn fs sc n K i = ndn fs sc n j
  | 0 => Or.inl rfl
  | i + 1 => by
    have ih : bdn fs sc n K i = K ∨ ∃ j, j < i + 1 ∧ 3 ≤ pcn j ∧ bdn fs sc n K i = ndn fs sc n j := by
      rcases bdn_is K i with q | ⟨j, j1, j2⟩
      · exact Or.inl q
      · exact Or.inr ⟨j, by omega, j2⟩
    rw [bdn]
    split
    · exact ih
    · split
      · exact ih
      · exact Or.inr ⟨i, by omega, by omega, rfl⟩
theorem m_bound (hE : EndsOK n p fs sc F S) : FX8_bound (nI p) (nI n) F S = some (nI (bdn fs sc n (fulln fs sc n p) (2 ^ p))) := by
  have hn := hE.1
  have hp := hE.2.1
  have h12 : (2 : Nat) ^ p ≤ 4096 := Nat.pow_le_pow_right (n := 2) (by decide) hp
  have hfl := fulln_le fs sc n p
  have hb : ∀ i, i ≤ 4096 → bdn fs sc n (fulln fs sc n p) i ≤ 60 := fun i hi => by
    rcases bdn_is (fs := fs) (sc := sc) (n := n) (fulln fs sc n p) i with q | ⟨j, j1, j2, j3⟩
    · omega
    · rw [j3]
      exact ndn_le j2 hn (by have := pc_small (Z := j) (by omega); omega)
  unfold FX8_bound
  rw [m_full hE, Option.bind_some]
  refine for_fun (fun i => (nI (bdn fs sc n (fulln fs sc n p) i), nI i)) 0 (2 ^ p) (Nat.zero_le _) (fun i _ hi => ?_) ?_
  · have hpc := pc_small (Z := i) (by omega)
    have hZ : i < 2 ^ 24 := by omega
    have h1 := hb i (by omega)
    rw [bdn]
    by_cases h3 : pcn i ≤ 2
    · simp (disch := omega) only [X8_bound_L7, sh_nI, nI_leI, Nat.not_le.mpr hi, ↓reduceIte, m_ones hZ, Option.bind_some, leR2, h3, bnd_at, nI_1]
    · have h2 := ndn_le (fs := fs) (sc := sc) (n := n) (Z := i) (by omega) hn (by omega)
      simp (disch := omega) only [X8_bound_L7, sh_nI, nI_leI, Nat.not_le.mpr hi, ↓reduceIte, m_ones hZ, Option.bind_some, leR2, h3, m_needOf hE hZ (show 3 ≤ pcn i by omega), bnd_at, nI_1]
      split <;> rfl
  · simp (disch := omega) only [X8_bound_L7, sh_nI, Int32.le_refl, ↓reduceIte]
theorem neg_bit {a : Int32} (h : a < 0) : bt a 31 = true := by
  unfold bt
  have h1 : a.toBitVec.msb = true := by
    rw [BitVec.msb_eq_toInt]
    rw [fa_lt, show (0 : Int32).toInt = 0 by decide] at h
    exact decide_eq_true h
  rw [BitVec.msb_eq_getLsbD_last] at h1
  exact h1
theorem in_posts (hp : p ≤ 12) (a : Int32) : (a &&& (nI (2 ^ p - 1) ^^^ (-1 : Int32)) = 0) ↔ (¬ a < 0 ∧ ¬ nI (2 ^ p) ≤ a) := by
  have h12 : (2 : Nat) ^ p ≤ 4096 := Nat.pow_le_pow_right (n := 2) (by decide) hp
  have hp1 : 0 < 2 ^ p := Nat.two_pow_pos p
  by_cases h : a < 0
  · refine ⟨fun e => ?_, fun e => absurd h e.1⟩
    have := congrArg (fun z => bt z 31) e
    simp only [b_and, b_xor, neg_bit h, b_m1 31 (by decide), bt_nI (show 31 < 32 by decide), b_0] at this
    rw [Nat.testBit_lt_two_pow (Nat.lt_of_lt_of_le (show 2 ^ p - 1 < 2 ^ p by omega) (Nat.pow_le_pow_right (by decide) (by omega)))] at this
    simp at this
  · obtain ⟨A, hA, rfl⟩ := nI_of h
    have hs : sd A (2 ^ p - 1) < 2 ^ 31 := sd_lt hA
    rw [andnot_nI, eqR0 hs, nI_leI (by omega) hA]
    constructor
    · intro e
      refine ⟨h, ?_⟩
      rw [Nat.not_le]
      refine Nat.lt_pow_two_of_testBit A (fun i hi => ?_)
      have := congrArg (fun z => z.testBit i) e
      simp only [sd_bit, Nat.zero_testBit, Nat.testBit_two_pow_sub_one, Nat.not_lt.mpr hi, decide_false, Bool.not_false, Bool.and_true] at this
      exact this
    · rintro ⟨-, h2⟩
      apply Nat.eq_of_testBit_eq
      intro i
      rw [sd_bit, Nat.zero_testBit, Nat.testBit_two_pow_sub_one]
      by_cases hi : i < p
      · simp [hi]
      · rw [Nat.testBit_lt_two_pow (Nat.lt_of_lt_of_le (Nat.lt_of_not_le h2) (Nat.pow_le_pow_right (by decide) (by omega)))]
        rfl
end NEED3
theorem nop_need {pc rc : Int32} {F S c al At Bs : Nat → Int32} {mp mr : Int32} {mF mS mc ml : Nat → Int32} (h : NetR pc rc F S c al At Bs mp mr mF mS mc ml) (a1 : Int32) : ∃ ox om, FX7_need pc rc F S a1 = some ox ∧ FX8_need mp mr mF mS a1 = some om ∧ ox = om := by
  obtain ⟨⟨rfl, rfl, rfl, rfl, rfl, rfl⟩, p, n, fs, sc, rfl, rfl, hE, hA, hB, hN, hL⟩ := id h
  have hp := hE.2.1
  have hn := hE.1
  have h12 : (2 : Nat) ^ p ≤ 4096 := Nat.pow_le_pow_right (n := 2) (by decide) hp
  unfold FX7_need FX8_need FX3_allPosts
  rw [ones_nI (by omega), sh_nI (by omega), Option.bind_some]
  have hi := in_posts hp a1
  by_cases h1 : a1 < 0
  · have : ¬ (a1 &&& (nI (2 ^ p - 1) ^^^ (-1 : Int32)) = 0) := fun e => (hi.mp e).1 h1
    rw [if_neg this, if_pos h1]
    exact ⟨_, _, rfl, rfl, rfl⟩
  · by_cases h2 : nI (2 ^ p) ≤ a1
    · have : ¬ (a1 &&& (nI (2 ^ p - 1) ^^^ (-1 : Int32)) = 0) := fun e => (hi.mp e).2 h2
      rw [if_neg this, if_neg h1, if_pos h2]
      exact ⟨_, _, rfl, rfl, rfl⟩
    · rw [if_pos (hi.mpr ⟨h1, h2⟩), if_neg h1, if_neg h2]
      obtain ⟨Z, hZ, rfl⟩ := nI_of h1
      have hZ2 : Z < 4096 := by
        rw [nI_leI (by omega) hZ] at h2
        omega
      have hpc := pc_small hZ2
      rw [bc_nI (by omega), m_ones (by omega), Option.bind_some, Option.bind_some]
      by_cases h3 : 3 ≤ pcn Z
      · rw [if_pos ((leL3 (by omega)).mpr h3), if_pos ((leL3 (by omega)).mpr h3), x_roadsInside hE hZ, Option.bind_some, Option.bind_some, x_needFor hn h3 (by omega), m_needOf hE (by omega) h3]
        exact ⟨_, _, rfl, rfl, rfl⟩
      · rw [if_neg (fun q => h3 ((leL3 (by omega)).mp q)), if_neg (fun q => h3 ((leL3 (by omega)).mp q))]
        exact ⟨_, _, rfl, rfl, rfl⟩
theorem nop_heap {pc rc : Int32} {F S c al At Bs : Nat → Int32} {mp mr : Int32} {mF mS mc ml : Nat → Int32} (h : NetR pc rc F S c al At Bs mp mr mF mS mc ml) (H : Nat → Int32) : ∃ ox om, FX7_heap H pc rc F S c al At Bs = some ox ∧ FX8_heap mp mr mF mS = some om ∧ ox.1 = om := by
  obtain ⟨⟨rfl, rfl, rfl, rfl, rfl, rfl⟩, p, n, fs, sc, rfl, rfl, hE, hA, hB, hN, hL⟩ := id h
  obtain ⟨v, H', k1, k2, -⟩ := x_neediest (H := H) hE hA
  obtain ⟨w, k3, k4⟩ := m_heap hE
  unfold FX7_heap
  rw [k1, k3]
  exact ⟨_, _, rfl, rfl, best_one k2 k4⟩
theorem nop_full {pc rc : Int32} {F S c al At Bs : Nat → Int32} {mp mr : Int32} {mF mS mc ml : Nat → Int32} (h : NetR pc rc F S c al At Bs mp mr mF mS mc ml) (H : Nat → Int32) (a1 : Int32) : ∃ ox om, FX7_full H pc rc F S c al At Bs a1 = some ox ∧ FX8_full mp mr mF mS mc a1 = some om ∧ ox.1 = om := by
  obtain ⟨⟨rfl, rfl, rfl, rfl, rfl, rfl⟩, p, n, fs, sc, rfl, rfl, hE, hA, hB, hN, hL⟩ := id h
  have hp := hE.2.1
  have hn := hE.1
  have h12 : (2 : Nat) ^ p ≤ 4096 := Nat.pow_le_pow_right (n := 2) (by decide) hp
  have hfl := fulln_le fs sc n p
  unfold FX7_full FX8_full
  by_cases e0 : a1 = 0
  · rw [if_pos e0, if_pos e0, x_full hn hp hA, m_full hE]
    exact ⟨_, _, rfl, rfl, rfl⟩
  · rw [if_neg e0, if_neg e0]
    by_cases e1 : a1 = 1
    · rw [if_pos e1, if_pos e1, x_full hn hp hA, m_bound hE]
      obtain ⟨v, H', k1, k2, k5⟩ := x_neediest (H := H) hE hA
      unfold FX2_greatestNeed
      rw [k1]
      simp only [Option.bind_some]
      rcases k2 with ⟨rfl, a⟩ | ⟨b, b1, b2, b3, rfl, b4, b5⟩
      · rw [if_pos rfl]
        simp only [Option.bind_some, bnd_at]
        refine ⟨_, _, rfl, rfl, ?_⟩
        have hz : ¬ nI (fulln fs sc n p) < (0 : Int32) := by rw [ltR0 (by omega)]; omega
        rw [if_neg hz]
        rcases bdn_is (fs := fs) (sc := sc) (n := n) (fulln fs sc n p) (2 ^ p) with q | ⟨j, j1, j2, -⟩
        · rw [q]
        · have := a j (Nat.zero_le _) j1; omega
      · have hpc := pc_small (Z := b) (by omega)
        have hH : H' b = nI (ins fs sc n b) := by
          rcases k5 with q | q
          · exact absurd q (m1_ne (by omega))
          · exact q b b2
        have hnb := ndn_le (fs := fs) (sc := sc) (n := n) b3 hn (by omega)
        rw [if_neg (m1_ne (by omega))]
        simp (disch := omega) only [rd_nI, hH, bc_nI, Option.bind_some, x_needFor hn b3, bnd_at]
        refine ⟨_, _, rfl, rfl, ?_⟩
        show (if nI (fulln fs sc n p) < nI (ndn fs sc n b) then nI (ndn fs sc n b) else nI (fulln fs sc n p)) = nI (bdn fs sc n (fulln fs sc n p) (2 ^ p))
        have g1 := bdn_ge (fs := fs) (sc := sc) (n := n) (fulln fs sc n p) (2 ^ p)
        have g2 := bdn_up (fs := fs) (sc := sc) (n := n) (fulln fs sc n p) (2 ^ p) b b2 b3
        have g3 : bdn fs sc n (fulln fs sc n p) (2 ^ p) = fulln fs sc n p ∨ bdn fs sc n (fulln fs sc n p) (2 ^ p) ≤ ndn fs sc n b := by
          rcases bdn_is (fs := fs) (sc := sc) (n := n) (fulln fs sc n p) (2 ^ p) with q | ⟨j, j1, j2, j3⟩
          · exact Or.inl q
          · right; rw [j3]; exact b4 j (Nat.zero_le _) j1 j2
        have hi : nI (fulln fs sc n p) < nI (ndn fs sc n b) ↔ fulln fs sc n p < ndn fs sc n b := nI_ltI (by omega) (by omega)
        by_cases hq : fulln fs sc n p < ndn fs sc n b
        · rw [if_pos (hi.mpr hq)]
          congr 1; omega
        · rw [if_neg (fun z => hq (hi.mp z))]
          congr 1; omega
    · rw [if_neg e1, if_neg e1]
      by_cases e2 : a1 = 2
      · rw [if_pos e2, if_pos e2, x_plain hE hA, m_plain hE]
        cases plainB fs sc n
        · exact ⟨_, _, rfl, rfl, rfl⟩
        · exact ⟨_, _, rfl, rfl, rfl⟩
      · rw [if_neg e2, if_neg e2]
        by_cases e3 : a1 = 3
        · rw [if_pos e3, if_pos e3, x_numbered hn, m_numbered hn hN]
          exact ⟨_, _, rfl, rfl, rfl⟩
        · rw [if_neg e3, if_neg e3]
          exact ⟨_, _, rfl, rfl, rfl⟩
