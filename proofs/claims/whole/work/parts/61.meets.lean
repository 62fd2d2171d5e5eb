def meetsV (n w t : Nat) : Nat := (2 * w + (n - 1) - t) % (n - 1)
noncomputable def meetsOK (n w t : Nat) : Bool := decide (FJ9_floorMod_7cf53 ((2 : Int32) * nI w - nI t) (nI n - (1 : Int32)) = some (nI (meetsV n w t))) && decide (X8_meets_L62 (nI n) (nI w) (nI t) (nI (meetsV n w t)) = some (.inr (nI (meetsV n w t)))) && (List.range (meetsV n w t)).all (fun j => decide (X8_meets_L62 (nI n) (nI w) (nI t) (nI j) = some (.inl (nI (j + 1)))))
noncomputable def meetsAll (n : Nat) : Bool := (List.range (n - 1)).all (fun w => (List.range (n - 1)).all (fun t => decide (t = w) || meetsOK n w t))
theorem meets_2 : meetsAll 2 = true := by decide +kernel
theorem meets_4 : meetsAll 4 = true := by decide +kernel
theorem meets_6 : meetsAll 6 = true := by decide +kernel
theorem meets_8 : meetsAll 8 = true := by decide +kernel
theorem meets_10 : meetsAll 10 = true := by decide +kernel
theorem meets_12 : meetsAll 12 = true := by decide +kernel
theorem meets_14 : meetsAll 14 = true := by decide +kernel
theorem meets_16 : meetsAll 16 = true := by decide +kernel
theorem meets_18 : meetsAll 18 = true := by decide +kernel
theorem meets_20 : meetsAll 20 = true := by decide +kernel
theorem meets_all {n w t : Nat} (h2 : 2 ≤ n) (h20 : n ≤ 20) (he : n % 2 = 0) (hw : w < n - 1) (ht : t < n - 1) (hn : t ≠ w) : meetsOK n w t = true := by
  have ha : meetsAll n = true := by
    have hc : n = 2 ∨ n = 4 ∨ n = 6 ∨ n = 8 ∨ n = 10 ∨ n = 12 ∨ n = 14 ∨ n = 16 ∨ n = 18 ∨ n = 20 := by omega
    rcases hc with rfl | rfl | rfl | rfl | rfl | rfl | rfl | rfl | rfl | rfl
    · exact meets_2
    · exact meets_4
    · exact meets_6
    · exact meets_8
    · exact meets_10
    · exact meets_12
    · exact meets_14
    · exact meets_16
    · exact meets_18
    · exact meets_20
  unfold meetsAll at ha
  have h1 := List.all_eq_true.mp ha w (List.mem_range.mpr hw)
  have h3 := List.all_eq_true.mp h1 t (List.mem_range.mpr ht)
  rw [decide_eq_false hn, Bool.false_or] at h3
  exact h3
theorem meets_go {n w t : Nat} (h : meetsOK n w t = true) : FJ9_floorMod_7cf53 ((2 : Int32) * nI w - nI t) (nI n - (1 : Int32)) = some (nI (meetsV n w t)) ∧ loopO (X8_meets_L62 (nI n) (nI w) (nI t)) (0 : Int32) = some (nI (meetsV n w t)) := by
  unfold meetsOK at h
  rw [Bool.and_eq_true, Bool.and_eq_true] at h
  obtain ⟨⟨h1, h2⟩, h3⟩ := h
  refine ⟨of_decide_eq_true h1, ?_⟩
  have hg : ∀ k, k ≤ meetsV n w t → loopO (X8_meets_L62 (nI n) (nI w) (nI t)) (nI (meetsV n w t - k)) = some (nI (meetsV n w t)) := by
    intro k
    induction k with
    | zero => intro _; exact lp_end (of_decide_eq_true h2)
    | succ k ih =>
      intro hk
      have h4 := of_decide_eq_true (List.all_eq_true.mp h3 (meetsV n w t - (k + 1)) (List.mem_range.mpr (by omega)))
      rw [lp_go h4, show meetsV n w t - (k + 1) + 1 = meetsV n w t - k by omega]
      exact ih (by omega)
  have := hg (meetsV n w t) (Nat.le_refl _)
  rw [Nat.sub_self] at this
  exact this
theorem meets_out {a1 : Int32} {g : Option Int32} (hg : g = some (-2)) : rm_ a1 2 (fun x1 => if x1 = 0 then g else some (-2)) = some (-2) := by
  unfold rm_
  rw [if_neg (by decide)]
  dsimp only
  split
  · exact hg
  · rfl
theorem nop_meets (a1 a2 a3 : Int32) : ∃ ox om, FX7_meets a1 a2 a3 = some ox ∧ FX8_meets a1 a2 a3 = some om ∧ ox = om := by
  unfold FX7_meets FX8_meets FX8_in
  by_cases h1 : a1 < 2
  · rw [meets_out (if_pos h1)]
    simp only [h1, ↓reduceIte, Option.bind_some]
    exact ⟨_, _, rfl, rfl, rfl⟩
  by_cases h2 : 20 < a1
  · rw [meets_out ((if_neg h1).trans (if_pos h2))]
    simp only [h1, h2, ↓reduceIte, Option.bind_some]
    exact ⟨_, _, rfl, rfl, rfl⟩
  have z2 : (2 : Int32).toInt = 2 := by decide
  have z1 : (1 : Int32).toInt = 1 := by decide
  have z0 : (0 : Int32).toInt = 0 := by decide
  have z20 : (20 : Int32).toInt = 20 := by decide
  obtain ⟨n, hn, rfl⟩ := nI_of (show ¬ a1 < 0 by rw [fa_lt] at h1 ⊢; omega)
  have hn2 : 2 ≤ n := by rw [fa_lt, nI_toInt hn] at h1; omega
  have hn20 : n ≤ 20 := by rw [fa_lt, nI_toInt hn] at h2; omega
  have s1 : (nI n - 1).toInt = (n : Int) - 1 := by rw [fb_subI (by rw [nI_toInt hn, z1]; omega) (by rw [nI_toInt hn, z1]; omega), nI_toInt hn, z1]
  have s2 : (nI n - 2).toInt = (n : Int) - 2 := by rw [fb_subI (by rw [nI_toInt hn, z2]; omega) (by rw [nI_toInt hn, z2]; omega), nI_toInt hn, z2]
  have e : ∀ k : Int32 → Option Int32, rm_ (nI n) 2 k = k (nI (n % 2)) := fun k => rm_nI (d := 2) hn (by decide) (by decide)
  by_cases he : nI (n % 2) = 0
  · have he' : n % 2 = 0 := (eqR0 (by omega)).mp he
    by_cases g0 : a2 < 0
    · simp only [h1, h2, e, he, g0, o10, ↓reduceIte, Option.bind_some]
      exact ⟨_, _, rfl, rfl, rfl⟩
    obtain ⟨w, hw, rfl⟩ := nI_of g0
    by_cases g1 : nI n - 2 < nI w
    · simp only [h1, h2, e, he, g0, g1, o10, ↓reduceIte, Option.bind_some]
      exact ⟨_, _, rfl, rfl, rfl⟩
    have hwn : w < n - 1 := by rw [fa_lt, s2, nI_toInt hw] at g1; omega
    by_cases g2 : a3 < 0
    · simp only [h1, h2, e, he, g0, g1, g2, o10, ↓reduceIte, Option.bind_some]
      exact ⟨_, _, rfl, rfl, rfl⟩
    obtain ⟨t, ht, rfl⟩ := nI_of g2
    by_cases g3 : t < n
    · have q1 : nI t < nI n := by rw [fa_lt, nI_toInt hn, nI_toInt ht]; omega
      have q2 : ¬ nI n - 1 < nI t := by rw [fa_lt, s1, nI_toInt ht]; omega
      by_cases g4 : nI t = nI n - 1
      · simp only [h1, h2, e, he, g0, g1, g2, q1, q2, eq_true g4, o10, ↓reduceIte, Option.bind_some]
        exact ⟨_, _, rfl, rfl, rfl⟩
      by_cases g5 : nI t = nI w
      · simp only [h1, h2, e, he, g0, g1, g2, q1, q2, g4, eq_true g5, o10, ↓reduceIte, Option.bind_some]
        exact ⟨_, _, rfl, rfl, rfl⟩
      have htn : t < n - 1 := by
        rcases Nat.lt_or_ge t (n - 1) with h | h
        · exact h
        · exact absurd (show nI t = nI n - 1 by apply Int32.toInt_inj.mp; rw [s1, nI_toInt ht]; omega) g4
      obtain ⟨k1, k2⟩ := meets_go (meets_all hn2 hn20 he' hwn htn (fun h => g5 (by rw [h])))
      simp only [h1, h2, e, he, g0, g1, g2, q1, q2, g4, g5, o10, ↓reduceIte, Option.bind_some, k1, k2]
      exact ⟨_, _, rfl, rfl, rfl⟩
    · have q1 : ¬ nI t < nI n := by rw [fa_lt, nI_toInt hn, nI_toInt ht]; omega
      have q2 : nI n - 1 < nI t := by rw [fa_lt, s1, nI_toInt ht]; omega
      simp only [h1, h2, e, he, g0, g1, g2, q1, q2, o10, ↓reduceIte, Option.bind_some]
      exact ⟨_, _, rfl, rfl, rfl⟩
  · simp only [h1, h2, e, he, o10, ↓reduceIte, Option.bind_some]
    exact ⟨_, _, rfl, rfl, rfl⟩
theorem nop_many {pc rc ht : Int32} (a1 : Int32) : ∃ ox om, FX7_many pc rc ht a1 = some ox ∧ FX8_many pc rc ht a1 = some om ∧ ox = om := by
  unfold FX7_many FX8_many
  by_cases h0 : a1 = 0
  · rw [if_pos h0]; exact ⟨_, _, rfl, rfl, rfl⟩
  rw [if_neg h0]
  by_cases h1 : a1 = 1
  · rw [if_pos h1]; exact ⟨_, _, rfl, rfl, rfl⟩
  rw [if_neg h1]
  by_cases h2 : a1 = 2
  · rw [if_pos h2]; exact ⟨_, _, rfl, rfl, rfl⟩
  rw [if_neg h2]; exact ⟨_, _, rfl, rfl, rfl⟩
