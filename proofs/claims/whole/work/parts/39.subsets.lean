/-! ===== the subsets of a set, in their order ===== -/
/-- the k-th subset of H (of N bits) -/
def dep : Nat → Nat → Nat → Nat
  | 0, _, _ => 0
  | N + 1, H, k => if H % 2 = 1 then k % 2 + 2 * dep N (H / 2) (k / 2) else 2 * dep N (H / 2) k
theorem two_bit (x b i : Nat) (hb : b < 2) : (2 * x + b).testBit (i + 1) = x.testBit i := by
  rw [Nat.testBit_succ]
  congr 1
  omega
theorem two_bit0 (x b : Nat) (hb : b < 2) : (2 * x + b).testBit 0 = decide (b = 1) := by
  rw [Nat.testBit_zero]
  congr 1
  apply propext
  omega
theorem and_two (x y b h : Nat) (hb : b < 2) (hh : h < 2) : (2 * x + b) &&& (2 * y + h) = 2 * (x &&& y) + b * h := by
  apply Nat.eq_of_testBit_eq
  intro i
  have hbh : b * h < 2 := by
    have : b = 0 ∨ b = 1 := by omega
    rcases this with rfl | rfl <;> omega
  cases i with
  | zero =>
    rw [Nat.testBit_and, two_bit0 x b hb, two_bit0 y h hh, two_bit0 _ _ hbh]
    have : b = 0 ∨ b = 1 := by omega
    have : h = 0 ∨ h = 1 := by omega
    rcases ‹b = 0 ∨ b = 1› with rfl | rfl <;> rcases ‹h = 0 ∨ h = 1› with rfl | rfl <;> rfl
  | succ i => rw [Nat.testBit_and, two_bit x b i hb, two_bit y h i hh, two_bit _ _ i hbh, Nat.testBit_and]
theorem sub_two {x y b h : Nat} (hb : b < 2) (hh : h < 2) : Sub (2 * x + b) (2 * y + h) ↔ Sub x y ∧ b ≤ h := by
  constructor
  · intro q
    refine ⟨fun i hi => ?_, ?_⟩
    · have := q (i + 1) (by rw [two_bit x b i hb]; exact hi)
      rw [two_bit y h i hh] at this
      exact this
    · have := q 0
      rw [two_bit0 x b hb, two_bit0 y h hh] at this
      by_cases e : b = 1
      · have := this (decide_eq_true e)
        have := of_decide_eq_true this
        omega
      · omega
  · rintro ⟨q1, q2⟩ i hi
    cases i with
    | zero =>
      rw [two_bit0 x b hb] at hi
      rw [two_bit0 y h hh]
      have := of_decide_eq_true hi
      exact decide_eq_true (by omega)
    | succ i =>
      rw [two_bit x b i hb] at hi
      rw [two_bit y h i hh]
      exact q1 i hi
theorem dep_sub : ∀ (N H k : Nat), Sub (dep N H k) H
  | 0, H, k => fun i hi => by rw [dep, Nat.zero_testBit] at hi; exact Bool.noConfusion hi
  | N + 1, H, k => by
    have e : H = 2 * (H / 2) + H % 2 := by omega
    rw [dep]
    split
    · rename_i h
      have := (sub_two (x := dep N (H / 2) (k / 2)) (y := H / 2) (b := k % 2) (h := H % 2) (by omega) (by omega)).mpr ⟨dep_sub N _ _, by omega⟩
      rw [← e] at this
      rw [Nat.add_comm]
      exact this
    · have := (sub_two (x := dep N (H / 2) k) (y := H / 2) (b := 0) (h := H % 2) (by omega) (by omega)).mpr ⟨dep_sub N _ _, by omega⟩
      rw [← e] at this
      exact this
theorem ct_half (N H : Nat) : fb_ct (fun i => H.testBit i) (N + 1) = H % 2 + fb_ct (fun i => (H / 2).testBit i) N := by
  rw [show N + 1 = 1 + N by omega, fb_ct_split]
  congr 1
  · rw [fb_ct_succ]
    simp only [fb_ct, Nat.zero_add, Nat.testBit_zero]
    have : H % 2 = 0 ∨ H % 2 = 1 := by omega
    rcases this with e | e <;> simp [e]
  · refine fb_ct_cong (fun k _ => ?_)
    rw [show 1 + k = k + 1 by omega, Nat.testBit_succ]
theorem dep_onto : ∀ (N H t : Nat), Sub t H → H < 2 ^ N → ∃ k, k < 2 ^ fb_ct (fun i => H.testBit i) N ∧ dep N H k = t
  | 0, H, t, h, hH => by
    have h0 : H = 0 := by simpa using hH
    have ht : t = 0 := by
      refine Nat.eq_of_testBit_eq (fun i => ?_)
      cases e : t.testBit i
      · rw [Nat.zero_testBit]
      · have := h i e
        rw [h0, Nat.zero_testBit] at this
        exact Bool.noConfusion this
    exact ⟨0, by simp [fb_ct], by rw [ht]; rfl⟩
  | N + 1, H, t, h, hH => by
    have e : H = 2 * (H / 2) + H % 2 := by omega
    have e2 : t = 2 * (t / 2) + t % 2 := by omega
    rw [e, e2] at h
    obtain ⟨h1, h2⟩ := (sub_two (by omega) (by omega)).mp h
    obtain ⟨k, k1, k2⟩ := dep_onto N (H / 2) (t / 2) h1 (by rw [Nat.pow_succ] at hH; omega)
    rw [ct_half]
    have : H % 2 = 0 ∨ H % 2 = 1 := by omega
    rcases this with q | q
    · refine ⟨k, by rw [q, Nat.zero_add]; exact k1, ?_⟩
      rw [dep, if_neg (by omega), k2]
      omega
    · refine ⟨2 * k + t % 2, ?_, ?_⟩
      · rw [q, Nat.add_comm 1, Nat.pow_succ]; omega
      · rw [dep, if_pos q, show (2 * k + t % 2) / 2 = k by omega, k2]
        omega
theorem dep_lt : ∀ (N H k k' : Nat), k < k' → k' < 2 ^ fb_ct (fun i => H.testBit i) N → dep N H k < dep N H k'
  | 0, H, k, k', h, h' => by
    simp only [fb_ct, Nat.pow_zero] at h'
    omega
  | N + 1, H, k, k', h, h' => by
    rw [ct_half] at h'
    rw [dep, dep]
    have : H % 2 = 0 ∨ H % 2 = 1 := by omega
    rcases this with q | q
    · rw [q, Nat.zero_add] at h'
      have := dep_lt N (H / 2) k k' h h'
      rw [if_neg (by omega), if_neg (by omega)]
      omega
    · rw [q, Nat.add_comm 1, Nat.pow_succ] at h'
      rw [if_pos q, if_pos q]
      by_cases e : k / 2 = k' / 2
      · rw [e]; omega
      · have := dep_lt N (H / 2) (k / 2) (k' / 2) (by omega) (by omega)
        omega
theorem comp_and : ∀ (N s H : Nat), Sub s H → H < 2 ^ N → (s + (2 ^ N - 1 - H)) &&& H = s
  | 0, s, H, h, hH => by
    have h0 : H = 0 := by simpa using hH
    have ht : s = 0 := by
      refine Nat.eq_of_testBit_eq (fun i => ?_)
      cases e : s.testBit i
      · rw [Nat.zero_testBit]
      · have := h i e
        rw [h0, Nat.zero_testBit] at this
        exact Bool.noConfusion this
    rw [h0, ht]; rfl
  | N + 1, s, H, h, hH => by
    have e : H = 2 * (H / 2) + H % 2 := by omega
    have e2 : s = 2 * (s / 2) + s % 2 := by omega
    rw [Nat.pow_succ] at hH
    have hs : Sub (s / 2) (H / 2) ∧ s % 2 ≤ H % 2 := by
      rw [e, e2] at h
      exact (sub_two (by omega) (by omega)).mp h
    have ih := comp_and N (s / 2) (H / 2) hs.1 (by omega)
    have e3 : s + (2 ^ (N + 1) - 1 - H) = 2 * (s / 2 + (2 ^ N - 1 - H / 2)) + (s % 2 + (1 - H % 2)) := by
      rw [Nat.pow_succ]; omega
    have hb : s % 2 + (1 - H % 2) < 2 := by omega
    have e4 : (s % 2 + (1 - H % 2)) * (H % 2) = s % 2 := by
      have : H % 2 = 0 ∨ H % 2 = 1 := by omega
      rcases this with q | q <;> rw [q] <;> omega
    rw [e3]
    conv => lhs; rhs; rw [e]
    rw [and_two _ _ _ _ hb (by omega), ih, e4]
    omega
theorem dep_next : ∀ (N H k : Nat), H < 2 ^ N → (dep N H k + (2 ^ N - H)) &&& H = dep N H (k + 1)
  | 0, H, k, hH => by
    have h0 : H = 0 := by simpa using hH
    rw [h0, dep, dep]
    decide
  | N + 1, H, k, hH => by
    have e : H = 2 * (H / 2) + H % 2 := by omega
    have hH' := hH
    rw [Nat.pow_succ] at hH'
    have hlt : H / 2 < 2 ^ N := by omega
    rw [dep, dep]
    have : H % 2 = 0 ∨ H % 2 = 1 := by omega
    rcases this with q | q
    · rw [if_neg (by omega), if_neg (by omega)]
      have ih := dep_next N (H / 2) k hlt
      have e3 : 2 * dep N (H / 2) k + (2 ^ (N + 1) - H) = 2 * (dep N (H / 2) k + (2 ^ N - H / 2)) + 0 := by
        rw [Nat.pow_succ]; omega
      rw [e3]
      conv => lhs; rhs; rw [e]
      rw [and_two _ _ _ _ (by omega) (by omega), ih]
      omega
    · rw [if_pos q, if_pos q]
      have : k % 2 = 0 ∨ k % 2 = 1 := by omega
      rcases this with r | r
      · have ih := comp_and N (dep N (H / 2) (k / 2)) (H / 2) (dep_sub N _ _) hlt
        have e3 : k % 2 + 2 * dep N (H / 2) (k / 2) + (2 ^ (N + 1) - H) = 2 * (dep N (H / 2) (k / 2) + (2 ^ N - 1 - H / 2)) + 1 := by
          rw [Nat.pow_succ]; omega
        rw [e3]
        conv => lhs; rhs; rw [e]
        rw [and_two _ _ _ _ (by omega) (by omega), ih, q, show (k + 1) % 2 = 1 by omega, show (k + 1) / 2 = k / 2 by omega]
        omega
      · have ih := dep_next N (H / 2) (k / 2) hlt
        have e3 : k % 2 + 2 * dep N (H / 2) (k / 2) + (2 ^ (N + 1) - H) = 2 * (dep N (H / 2) (k / 2) + (2 ^ N - H / 2)) + 0 := by
          rw [Nat.pow_succ]; omega
        rw [e3]
        conv => lhs; rhs; rw [e]
        rw [and_two _ _ _ _ (by omega) (by omega), ih, show (k + 1) % 2 = 0 by omega, show (k + 1) / 2 = k / 2 + 1 by omega]
        omega
theorem dep_0 : ∀ (N H : Nat), dep N H 0 = 0
  | 0, _ => rfl
  | N + 1, H => by
    rw [dep]
    split
    · rw [show 0 / 2 = 0 from rfl, dep_0 N]
    · rw [dep_0 N]
theorem nI_mod32 (a : Nat) : nI (a + 2 ^ 32) = nI a := by
  rw [show nI (a + 2 ^ 32) = nI a + nI (2 ^ 32) from (nI_add _ _).symm, show nI (2 ^ 32) = 0 from by decide]
  simp
theorem next_nI {H : Nat} (hH : H < 2 ^ 31) (k : Nat) : (nI (dep 32 H k) - nI H) &&& nI H = nI (dep 32 H (k + 1)) := by
  have hH' : H < 2 ^ 32 := by omega
  have e : nI (dep 32 H k) - nI H = nI (dep 32 H k + (2 ^ 32 - H)) := by
    have : nI (dep 32 H k + (2 ^ 32 - H)) + nI H = nI (dep 32 H k) := by
      rw [nI_add, show dep 32 H k + (2 ^ 32 - H) + H = dep 32 H k + 2 ^ 32 by omega, nI_mod32]
    rw [← this]
    grind
  rw [e, fa_and, dep_next 32 H k hH']
theorem sub_le {a b : Nat} (h : Sub a b) : a ≤ b := by
  have : a = a &&& b := by
    refine Nat.eq_of_testBit_eq (fun i => ?_)
    rw [Nat.testBit_and]
    cases e : a.testBit i
    · rfl
    · rw [h i e]; rfl
  rw [this]
  exact Nat.and_le_right
theorem dep_le (H k : Nat) : dep 32 H k ≤ H := sub_le (dep_sub 32 H k)
