/-! ===== count: the class ===== -/
theorem cmp0 (x : Int64) : lg_cmp x 0 = 0 ↔ x = 0 := by
  unfold lg_cmp
  by_cases h : x > 0
  · rw [if_pos h]
    constructor
    · intro e; exact absurd e (by decide)
    · intro e; rw [e] at h; exact absurd h (by decide)
  · rw [if_neg h]
    by_cases e : x = 0
    · rw [if_pos e]; exact ⟨fun _ => e, fun _ => rfl⟩
    · rw [if_neg e]
      exact ⟨fun z => absurd z (by decide), fun z => absurd z e⟩
theorem wide_dec : ∀ j, j < 10 → (nI j).toInt64 = lN j := by decide +kernel
section COUNT2
variable {n p : Nat} {fs sc : Nat → Nat} {Bs : Nat → Int32}
theorem tw_cong4 {f g : Nat → Int64} : ∀ (e r set oth : Nat), (∀ i, r ≤ i → oth.testBit i = true → set.testBit i = true) → (∀ Y, Sub Y set → f Y = g Y) → Tw fs sc n f e r set oth = Tw fs sc n g e r set oth
  | 0, r, set, oth, _, h2 => h2 set (fun _ h => h)
  | e + 1, r, set, oth, h1, h2 => by
    rw [Tw, Tw, tw_cong4 e (r + 1) set oth (fun i hi => h1 i (by omega)) h2]
    cases hb : oth.testBit r
    · rfl
    · simp only [↓reduceIte]
      have hr := h1 r (Nat.le_refl _) hb
      have hs : Sub (set ^^^ 2 ^ r) set := fun i hi => by
        rw [xor_bit] at hi
        by_cases e : i = r
        · rw [e]; exact hr
        · simpa [e] using hi
      rw [tw_cong4 e (r + 1) (set ^^^ 2 ^ r) (sd oth (nb fs sc n r)) (fun i hi hb => by
        have := h1 i (by omega) (sub_sd _ _ i hb)
        rw [xor_bit, this]
        have : ¬ i = r := by omega
        simp [this]) (fun Y hY => h2 Y (fun i hi => hs i (hY i hi)))]
theorem x6_take (hn : n ≤ 12) (hB : BsOK n fs sc Bs) (now : Int64) : ∀ (fuel e last set oth : Nat) (w : Nat → Int64), last + 1 + e = n → e < fuel → set < 2 ^ n → oth < 2 ^ n → (∀ i, last < i → oth.testBit i = true → set.testBit i = true) → ∃ w', FX6_takeOut fuel w (nI n) Bs (nI set) (nI oth) (nI last) now = some w' ∧ (∀ f : Nat → Int64, sj (fun Y => w' Y * f Y) (2 ^ n) = sj (fun Y => w Y * f Y) (2 ^ n) + now * Tw fs sc n f e (last + 1) set oth) ∧ ∀ Y, set < Y → w' Y = w Y := by
  intro fuel
  induction fuel with
  | zero => intro e last set oth w _ h; omega
  | succ fuel ih =>
    intro e last set oth w he hf hset hoth hsub
    have hn12 : (2 : Nat) ^ n ≤ 4096 := Nat.pow_le_pow_right (n := 2) (by decide) hn
    obtain ⟨w1, hw1⟩ : ∃ w1, w1 = vp_updL w set (w set + now) := ⟨_, rfl⟩
    have hs1 : ∀ f : Nat → Int64, sj (fun Y => w1 Y * f Y) (2 ^ n) = sj (fun Y => w Y * f Y) (2 ^ n) + now * f set := fun f => by
      rw [hw1, sj_upd w f _ hset]
      grind
    have key := for_inv (f := X6_takeOut_L16 (FX6_takeOut fuel) (nI n) Bs (nI set) (nI oth) now) (fun (g : Nat → Int64) r => (g, nI r)) n (fun r g => last + 1 ≤ r ∧ (∀ f : Nat → Int64, sj (fun Y => g Y * f Y) (2 ^ n) + now * Tw fs sc n f (n - r) r set oth = sj (fun Y => w1 Y * f Y) (2 ^ n) + now * Tw fs sc n f e (last + 1) set oth) ∧ ∀ Y, set < Y → g Y = w Y) (fun g => (∀ f : Nat → Int64, sj (fun Y => g Y * f Y) (2 ^ n) = sj (fun Y => w Y * f Y) (2 ^ n) + now * Tw fs sc n f e (last + 1) set oth) ∧ ∀ Y, set < Y → g Y = w Y) (fun r g hr hI => ?_) (fun g hI => ?_) (i := last + 1) (a := w1) (by omega) ⟨Nat.le_refl _, fun f => by rw [show n - (last + 1) = e by omega], fun Y hY => by rw [hw1]; unfold vp_updL; rw [if_neg (by omega)]⟩
    · obtain ⟨g, k1, k2, k3⟩ := key
      refine ⟨g, ?_, k2, k3⟩
      show BX6_takeOut (FX6_takeOut fuel) w (nI n) Bs (nI set) (nI oth) (nI last) now = _
      unfold BX6_takeOut
      rw [rd_nI (by omega) (by decide), wrJ_nI (by omega) (by decide), bnd_at, nI_1, ← hw1]
      exact k1
    · left
      obtain ⟨i1, i2, i3⟩ := hI
      have hge : ¬ nI n ≤ nI r := by rw [nI_leI (by omega) (by omega)]; omega
      have htw : ∀ f : Nat → Int64, Tw fs sc n f (n - r) r set oth = Tw fs sc n f (n - (r + 1)) (r + 1) set oth + (if oth.testBit r then Tw fs sc n f (n - (r + 1)) (r + 1) (set ^^^ 2 ^ r) (sd oth (nb fs sc n r)) else 0) := fun f => by
        rw [show n - r = (n - (r + 1)) + 1 by omega, Tw]
      cases hb : oth.testBit r
      · refine ⟨g, ?_, by omega, fun f => ?_, i3⟩
        · simp (disch := omega) only [X6_takeOut_L16, hge, ↓reduceIte, isIn_nI, hb, Bool.false_eq_true, Option.bind_some, bnd_at, nI_1]
        · have := i2 f
          rw [htw f, hb] at this
          simp only [Bool.false_eq_true, ↓reduceIte] at this
          rw [← this]
          grind
      · have hsr := hsub r (by omega) hb
        have hlow := xor_low hsr
        obtain ⟨g', t1, t2, t3⟩ := ih (n - (r + 1)) r (set ^^^ 2 ^ r) (sd oth (nb fs sc n r)) g (by omega) (by omega) (by omega) (sd_lt hoth) (fun i hi h => by
          have := hsub i (by omega) (sub_sd _ _ i h)
          rw [xor_bit, this]
          have : ¬ i = r := by omega
          simp [this])
        refine ⟨g', ?_, by omega, fun f => ?_, fun Y hY => by rw [t3 Y (by omega)]; exact i3 Y hY⟩
        · unfold X6_takeOut_L16
          rw [if_neg (show ¬ nI n ≤ (g, nI r).2 from hge)]
          show (FX7_isIn (nI oth) (nI r)).bind _ = _
          rw [isIn_nI (by omega) (by omega), hb, Option.bind_some, if_neg (show ¬ (if true = true then (1 : Int32) else 0) = 0 by decide)]
          show rd Bs 24 (nI r) _ = _
          rw [rd_nI (by omega) (by decide), hB r hr, sh_nI (by omega), fb_xorI, andnot_nI]
          show (FX6_takeOut fuel g (nI n) Bs (nI (set ^^^ 2 ^ r)) (nI (sd oth (nb fs sc n r))) (nI r) now).bind _ = _
          rw [t1, Option.bind_some, bnd_at, nI_1]
        · have := i2 f
          rw [htw f, hb] at this
          simp only [↓reduceIte] at this
          rw [t2 f, ← this]
          grind
    · obtain ⟨i1, i2, i3⟩ := hI
      refine ⟨g, ?_, fun f => ?_, i3⟩
      · simp only [X6_takeOut_L16, Int32.le_refl, ↓reduceIte]
      · have := i2 f
        rw [Nat.sub_self, Tw, hs1 f] at this
        grind
theorem sj_at (w f g : Nat → Int64) (Z : Nat) : ∀ m, Z < m → sj (fun Y => w Y * (if Y < Z + 1 then f Y else g Y)) m = sj (fun Y => w Y * (if Y < Z then f Y else g Y)) m + w Z * (f Z - g Z)
  | m + 1, h => by
    rw [sj, sj]
    by_cases e : Z = m
    · subst e
      have : sj (fun Y => w Y * (if Y < Z + 1 then f Y else g Y)) Z = sj (fun Y => w Y * (if Y < Z then f Y else g Y)) Z := sj_cong (fun i hi => by
        rw [if_pos (show i < Z + 1 by omega), if_pos hi])
      rw [this, if_pos (by omega), if_neg (by omega)]
      grind
    · rw [sj_at w f g Z m (by omega)]
      rw [if_neg (show ¬ m < Z + 1 by omega), if_neg (show ¬ m < Z by omega)]
      grind
theorem x6_give (hn : n ≤ 12) (hB : BsOK n fs sc Bs) {j : Nat} (hj : j < 9) (w : Nat → Int64) : ∃ w', FX6_giveNumber w (nI n) Bs (nI (2 ^ n - 1)) (nI (j + 1)) = some w' ∧ sj (fun Y => w' Y * Pj fs sc n j Y) (2 ^ n) = sj (fun Y => w Y * Pj fs sc n (j + 1) Y) (2 ^ n) := by
  have hn12 : (2 : Nat) ^ n ≤ 4096 := Nat.pow_le_pow_right (n := 2) (by decide) hn
  have hp1 : 0 < 2 ^ n := Nat.two_pow_pos n
  have key := for_inv (f := X6_giveNumber_L2 (nI n) Bs (nI (2 ^ n - 1)) (nI (j + 1))) (fun (g : Nat → Int64) Z => (g, nI Z)) (2 ^ n) (fun Z g => 1 ≤ Z ∧ sj (fun Y => g Y * (if Y < Z then Pj fs sc n j Y else Pj fs sc n (j + 1) Y)) (2 ^ n) = sj (fun Y => w Y * Pj fs sc n (j + 1) Y) (2 ^ n)) (fun g => sj (fun Y => g Y * Pj fs sc n j Y) (2 ^ n) = sj (fun Y => w Y * Pj fs sc n (j + 1) Y) (2 ^ n)) (fun Z g hZ hI => ?_) (fun g hI => ?_) (i := 1) (a := w) (by omega) ⟨Nat.le_refl _, sj_cong (fun Y _ => by
      by_cases e : Y < 1
      · rw [if_pos e, show Y = 0 by omega, pj_0, pj_0]
      · rw [if_neg e])⟩
  · obtain ⟨g, k1, k2⟩ := key
    exact ⟨g, k1, k2⟩
  · left
    obtain ⟨i1, i2⟩ := hI
    have hge : ¬ nI (2 ^ n - 1) < nI Z := by rw [nI_ltI (by omega) (by omega)]; omega
    by_cases h0 : g Z = 0
    · refine ⟨g, ?_, by omega, ?_⟩
      · have hc : lg_cmp (g Z) 0 = 0 := (cmp0 _).mpr h0
        simp (disch := omega) only [X6_giveNumber_L2, hge, ↓reduceIte, rd_nI, eq_true hc, bnd_at, nI_1]
      · rw [sj_at g _ _ Z _ hZ, i2, h0]
        grind
    · have hZ0 : Z ≠ 0 := by omega
      obtain ⟨d, ed⟩ : ∃ d, d = lowb Z := ⟨_, rfl⟩
      obtain ⟨d1, d2⟩ := low_bit hZ hZ0 hn
      rw [show fa_first (fun i => Z.testBit i) 12 = d from ed.symm] at d1 d2
      have hlow := xor_low d2
      have l1 : nI Z &&& -nI Z = nI (2 ^ d) := by rw [low_nI (by omega), if_neg hZ0, ed]
      obtain ⟨g', t1, t2, t3⟩ := x6_take hn hB (g Z * lN (j + 1)) 14 (n - (d + 1)) d (Z ^^^ 2 ^ d) (sd Z (nb fs sc n d)) (vp_updL g Z 0) (by omega) (by omega) (by omega) (sd_lt hZ) (fun i hi h => by
        rw [xor_bit, sub_sd _ _ i h]
        have : ¬ i = d := by omega
        simp [this])
      refine ⟨g', ?_, by omega, ?_⟩
      · have hc : ¬ lg_cmp (g Z) 0 = 0 := fun z => h0 ((cmp0 _).mp z)
        unfold X6_giveNumber_L2
        rw [if_neg (show ¬ nI (2 ^ n - 1) < (g, nI Z).2 from hge)]
        show rd g 4096 (nI Z) _ = _
        rw [rd_nI (by omega) (by decide), if_neg hc]
        show rd g 4096 (nI Z) _ = _
        rw [rd_nI (by omega) (by decide), bnd_at, wide_dec (j + 1) (by omega), wrJ_nI (by omega) (by decide), l1, x_place (by omega), Option.bind_some]
        show rd Bs 24 (nI d) _ = _
        rw [rd_nI (by omega) (by decide), hB d d1, sh_nI (by omega), fb_xorI, andnot_nI]
        show (FX6_takeOut 14 (vp_updL g Z 0) (nI n) Bs (nI (Z ^^^ 2 ^ d)) (nI (sd Z (nb fs sc n d))) (nI d) (g Z * lN (j + 1))).bind _ = _
        rw [t1, Option.bind_some, bnd_at, nI_1]
      · rw [t2 (fun Y => if Y < Z + 1 then Pj fs sc n j Y else Pj fs sc n (j + 1) Y), sj_upd g (fun Y => if Y < Z + 1 then Pj fs sc n j Y else Pj fs sc n (j + 1) Y) 0 hZ, sj_at g _ _ Z _ hZ, i2]
        have e1 : Tw fs sc n (fun Y => if Y < Z + 1 then Pj fs sc n j Y else Pj fs sc n (j + 1) Y) (n - (d + 1)) (d + 1) (Z ^^^ 2 ^ d) (sd Z (nb fs sc n d)) = Tw fs sc n (Pj fs sc n j) (n - (d + 1)) (d + 1) (Z ^^^ 2 ^ d) (sd Z (nb fs sc n d)) := by
          refine tw_cong4 _ _ _ _ (fun i hi h => ?_) (fun Y hY => ?_)
          · rw [xor_bit, sub_sd _ _ i h]
            have : ¬ i = d := by omega
            simp [this]
          · have := sub_le hY
            rw [if_pos (by omega)]
        have e2 : Pj fs sc n (j + 1) Z = lN (j + 1) * Tw fs sc n (Pj fs sc n j) (n - (d + 1)) (d + 1) (Z ^^^ 2 ^ d) (sd Z (nb fs sc n d)) := by
          rw [Pj, if_neg hZ0, ← ed]
        rw [e1, e2, if_pos (show Z < Z + 1 by omega)]
        grind
  · refine ⟨g, ?_, ?_⟩
    · have hlt : nI (2 ^ n - 1) < nI (2 ^ n) := by rw [nI_ltI (by omega) (by omega)]; omega
      simp only [X6_giveNumber_L2, hlt, ↓reduceIte]
    · rw [← hI.2]
      exact sj_cong (fun Y hY => by rw [if_pos hY])
theorem x6_count (hn : n ≤ 12) (hB : BsOK n fs sc Bs) {k : Nat} (hk : k ≤ 9) (w : Nat → Int64) : ∃ w', FX6_colourings w (nI n) Bs (nI k) = some (Pj fs sc n k (2 ^ n - 1), w') := by
  have hn12 : (2 : Nat) ^ n ≤ 4096 := Nat.pow_le_pow_right (n := 2) (by decide) hn
  have hp1 : 0 < 2 ^ n := Nat.two_pow_pos n
  have rounds : ∀ g : Nat → Int64, sj (fun Y => g Y * Pj fs sc n k Y) (2 ^ n) = Pj fs sc n k (2 ^ n - 1) → ∃ o, loopO (X6_colourings_L37 (nI n) Bs (nI k) (nI (2 ^ n - 1))) (g, nI 0) = some o ∧ o.1 = Pj fs sc n k (2 ^ n - 1) := fun g hg => by
    refine for_inv (fun (g : Nat → Int64) i => (g, nI i)) k (fun i g => sj (fun Y => g Y * Pj fs sc n (k - i) Y) (2 ^ n) = Pj fs sc n k (2 ^ n - 1)) _ (fun i g hi hI => ?_) (fun g hI => ?_) (i := 0) (Nat.zero_le _) hg
    · left
      obtain ⟨g', t1, t2⟩ := x6_give (j := k - (i + 1)) hn hB (by omega) g
      rw [show k - (i + 1) + 1 = k - i by omega] at t1 t2
      refine ⟨g', ?_, by rw [t2]; exact hI⟩
      have hge : ¬ nI k ≤ nI i := by rw [nI_leI (by omega) (by omega)]; omega
      have hs : nI k - nI i = nI (k - i) := by
        have : nI (k - i) + nI i = nI k := by rw [nI_add, show k - i + i = k by omega]
        rw [← this]
        grind
      simp only [X6_colourings_L37, hge, ↓reduceIte, hs, t1, Option.bind_some, bnd_at, nI_1]
    · refine ⟨(g 0, g), ?_, ?_⟩
      · unfold X6_colourings_L37
        rw [if_pos (show nI k ≤ (g, nI k).2 from Int32.le_refl _), show (0 : Int32) = nI 0 from rfl, rd_nI (by decide) (by decide)]
      · show g 0 = _
        rw [← hI, Nat.sub_self]
        obtain ⟨m, hm⟩ : ∃ m, 2 ^ n = m + 1 := ⟨2 ^ n - 1, by omega⟩
        rw [hm, sj_first, pj_0, sj_zero (fun i _ => by rw [Pj, if_neg (by omega)]; exact Int64.mul_zero)]
        grind
  unfold FX6_colourings FX3_allRoads
  rw [ones_nI (by omega), Option.bind_some]
  have key := for_inv (f := X6_colourings_L10 (nI n) Bs (nI k) (nI (2 ^ n - 1))) (fun (g : Nat → Int64) i => (g, nI i)) (2 ^ n) (fun i g => ∀ Y, Y < i → g Y = 0) (fun o => o.1 = Pj fs sc n k (2 ^ n - 1)) (fun i g hi hI => ?_) (fun g hI => ?_) (i := 0) (a := w) (Nat.zero_le _) (fun Y hY => by omega)
  · obtain ⟨⟨v, w'⟩, k1, k2⟩ := key
    simp only at k2
    rw [k2] at k1
    exact ⟨w', k1⟩
  · left
    refine ⟨vp_updL g i 0, ?_, fun Y hY => ?_⟩
    · have hge : ¬ nI (2 ^ n - 1) < nI i := by rw [nI_ltI (by omega) (by omega)]; omega
      simp (disch := omega) only [X6_colourings_L10, hge, ↓reduceIte, wrJ_nI, bnd_at, nI_1]
    · unfold vp_updL
      by_cases e : Y = i
      · rw [if_pos e]
      · rw [if_neg e]; exact hI Y (by omega)
  · have hlt : nI (2 ^ n - 1) < nI (2 ^ n) := by rw [nI_ltI (by omega) (by omega)]; omega
    obtain ⟨o, r1, r2⟩ := rounds (vp_updL g (2 ^ n - 1) 1) (by
      rw [sj_upd g (Pj fs sc n k) 1 (show 2 ^ n - 1 < 2 ^ n by omega), sj_zero (fun i hi => by rw [hI i hi]; exact Int64.zero_mul), hI (2 ^ n - 1) (by omega)]
      grind)
    refine ⟨o, ?_, r2⟩
    unfold X6_colourings_L10
    rw [if_pos (show nI (2 ^ n - 1) < (g, nI (2 ^ n)).2 from hlt)]
    unfold X6_colourings_J28
    rw [wrJ_nI (by omega) (by decide)]
    show (loopO (X6_colourings_L37 (nI n) Bs (nI k) (nI (2 ^ n - 1))) (vp_updL g (2 ^ n - 1) 1, nI 0)).map _ = _
    rw [r1]
    rfl
end COUNT2
