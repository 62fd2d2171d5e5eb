/-! ===== even: the loop and the call ===== -/
def mxi (k : Nat → Nat) : Nat → Nat
  | 0 => 0
  | i + 1 => if k i ≤ k (mxi k i) then mxi k i else i
def mni (k : Nat → Nat) : Nat → Nat
  | 0 => 0
  | i + 1 => if k (mni k i) ≤ k i then mni k i else i
theorem mxi_lt (k : Nat → Nat) : ∀ i, mxi k (i + 1) < i + 1
  | 0 => by simp [mxi]
  | i + 1 => by
    have := mxi_lt k i
    rw [mxi]
    split <;> omega
theorem mni_lt (k : Nat → Nat) : ∀ i, mni k (i + 1) < i + 1
  | 0 => by simp [mni]
  | i + 1 => by
    have := mni_lt k i
    rw [mni]
    split <;> omega
theorem mxi_max (k : Nat → Nat) : ∀ i j, j < i → k j ≤ k (mxi k i)
  | i + 1, j, h => by
    rw [mxi]
    by_cases e : j = i
    · split <;> rename_i q
      · rw [e]; exact q
      · rw [e]; exact Nat.le_refl _
    · have := mxi_max k i j (by omega)
      split <;> omega
theorem mni_min (k : Nat → Nat) : ∀ i j, j < i → k (mni k i) ≤ k j
  | i + 1, j, h => by
    rw [mni]
    by_cases e : j = i
    · split <;> rename_i q
      · rw [e]; exact q
      · rw [e]; exact Nat.le_refl _
    · have := mni_min k i j (by omega)
      split <;> omega
section EVEN3
variable {n p : Nat} {fs sc : Nat → Nat} {F S : Nat → Int32}
theorem x_counts {c cs : Nat → Int32} {L : Nat} (hn : n ≤ 24) (hL : L ≤ 16) : FX0_countNumbers (nI L) cs (nI n) c = some (fa_fill (fun a => nI (kc c n a)) cs L) := by
  have h0 : (cs, (0 : Int32)) = (fa_fill (fun a => nI (kc c n a)) cs 0, nI 0) := by rw [fa_fill_0]; rfl
  unfold FX0_countNumbers
  rw [h0]
  refine for_fun (fun i => (fa_fill (fun a => nI (kc c n a)) cs i, nI i)) 0 L (Nat.zero_le _) (fun i _ hi => ?_) ?_
  · have hm : mk (fun r => decide (c r = nI i)) n < 2 ^ 32 := Nat.lt_of_lt_of_le (mk_lt _ n) (Nat.pow_le_pow_right (by decide) (by omega))
    have hb : FJ6_bitCount_0f7a4 (nI (mk (fun r => decide (c r = nI i)) n)) = some (nI (kc c n i)) := by
      rw [bc_nI hm, pcn_mk _ (by omega)]; rfl
    simp (disch := omega) only [X0_countNumbers_L2, nI_leI, Nat.not_le.mpr hi, ↓reduceIte, x_roadsNumbered hn, hb, Option.bind_some, wr_nI, bnd, nI_1]
    rw [fa_fill_succ (fun a => nI (kc c n a)) cs i]
  · simp only [X0_countNumbers_L2, Int32.le_refl, ↓reduceIte]
theorem x_most {k : Nat → Nat} {cs : Nat → Int32} {L : Nat} (h1 : 1 ≤ L) (hL : L ≤ 16) (hk : ∀ a, a < L → k a ≤ 24) (hc : ∀ a, a < L → cs a = nI (k a)) : FX0_leastOfMost (nI L) cs = some (nI (mxi k L)) := by
  have h0 : ((0 : Int32), (1 : Int32)) = (nI (mxi k 1), nI 1) := by simp [mxi]; exact ⟨rfl, rfl⟩
  unfold FX0_leastOfMost
  rw [h0]
  refine for_fun (fun i => (nI (mxi k i), nI i)) 1 L h1 (fun i hi1 hi => ?_) ?_
  · obtain ⟨j, rfl⟩ : ∃ j, i = j + 1 := ⟨i - 1, by omega⟩
    have hm := mxi_lt k j
    have b1 := hk (j + 1) hi
    have b2 := hk (mxi k (j + 1)) (by omega)
    simp (disch := omega) only [X0_leastOfMost_L4, nI_leI, Nat.not_le.mpr hi, ↓reduceIte, rd_nI, hc (j + 1) hi, hc (mxi k (j + 1)) (by omega), bnd, nI_1]
    rw [mxi.eq_def k (j + 1 + 1)]
    simp only
    split <;> rfl
  · simp only [X0_leastOfMost_L4, Int32.le_refl, ↓reduceIte]
theorem x_least {k : Nat → Nat} {cs : Nat → Int32} {L : Nat} (h1 : 1 ≤ L) (hL : L ≤ 16) (hk : ∀ a, a < L → k a ≤ 24) (hc : ∀ a, a < L → cs a = nI (k a)) : FX0_leastOfFewest (nI L) cs = some (nI (mni k L)) := by
  have h0 : ((0 : Int32), (1 : Int32)) = (nI (mni k 1), nI 1) := by simp [mni]; exact ⟨rfl, rfl⟩
  unfold FX0_leastOfFewest
  rw [h0]
  refine for_fun (fun i => (nI (mni k i), nI i)) 1 L h1 (fun i hi1 hi => ?_) ?_
  · obtain ⟨j, rfl⟩ : ∃ j, i = j + 1 := ⟨i - 1, by omega⟩
    have hm := mni_lt k j
    have b1 := hk (j + 1) hi
    have b2 := hk (mni k (j + 1)) (by omega)
    simp (disch := omega) only [X0_leastOfFewest_L4, nI_leI, Nat.not_le.mpr hi, ↓reduceIte, rd_nI, hc (j + 1) hi, hc (mni k (j + 1)) (by omega), bnd, nI_1]
    rw [mni.eq_def k (j + 1 + 1)]
    simp only
    split <;> rfl
  · simp only [X0_leastOfFewest_L4, Int32.le_refl, ↓reduceIte]
theorem m_have {c : Nat → Int32} (hn : n ≤ 24) (a : Nat) : FX8_haveIt (nI n) c (nI a) = some (nI (kc c n a)) := by
  unfold FX8_haveIt
  refine for_fun (fun i => (nI (kc c i a), nI i)) 0 n (Nat.zero_le _) (fun i _ hi => ?_) ?_
  · unfold kc
    rw [fb_ct_succ]
    simp (disch := omega) only [X8_haveIt_L4, nI_leI, Nat.not_le.mpr hi, ↓reduceIte, rd_nI, bnd, nI_1, decide_eq_true_eq]
    split
    · rfl
    · rw [show nI (fb_ct (fun r => decide (c r = nI a)) i) + 0 = nI (fb_ct (fun r => decide (c r = nI a)) i + 0) from by simp]
  · simp only [X8_haveIt_L4, Int32.le_refl, ↓reduceIte]
theorem m_choose {c : Nat → Int32} {l2 : Int32} {L : Nat} (hn : n ≤ 24) (hL : L ≤ 16) : loopO (X8_even_L71 (nI n) F S c (nI L) l2) (0, 0, 0) = X8_even_J119 (nI n) F S c (nI L) l2 (nI (mxi (kc c n) L)) (nI (mni (kc c n) L)) := by
  refine (for_go (fun i => (nI (mxi (kc c n) i), nI (mni (kc c n) i), nI i)) L (fun i hi => ?_)).trans ?_
  · have b0 := kc_le c n i
    have b1 := kc_le c n (mxi (kc c n) i)
    have b2 := kc_le c n (mni (kc c n) i)
    rw [mxi, mni]
    simp (disch := omega) only [X8_even_L71, nI_leI, Nat.not_le.mpr hi, ↓reduceIte, m_have hn, Option.bind_some, X8_even_J94, bnd, nI_1]
    by_cases e1 : kc c n i ≤ kc c n (mxi (kc c n) i) <;> by_cases e2 : kc c n (mni (kc c n) i) ≤ kc c n i <;> simp only [e1, e2, ↓reduceIte]
  · refine lp_map ?_
    simp only [X8_even_L71, Int32.le_refl, ↓reduceIte]
theorem even_loop {Bs : Nat → Int32} {L : Nat} (hE : EndsOK n p fs sc F S) (hB : BsOK n fs sc Bs) (h1 : 1 ≤ L) (hL : L ≤ 16) : ∀ (q t : Nat) (c cs : Nat → Int32), sqs c n L ≤ 2 * q → t + q ≤ 288 → Fair fs sc n c → NumOK n c → ∃ (c' cs' : Nat → Int32) (t' : Int32), loopO (X0_makeEven_L4 (nI L) (nI n) Bs) (cs, c, nI t, nI t) = some (t', cs', c') ∧ loopO (X8_even_L63 (nI n) F S (nI L)) (c, nI t) = some (t', c') ∧ NumOK n c' := by
  have hn := hE.1
  intro q
  induction q with
  | zero =>
    intro t c cs hs ht hF hN
    -- every count is 0: nothing to do
    have hz : ∀ a, a < L → kc c n a = 0 := fun a ha => by
      have := fb_sm_zero (f := fun a => kc c n a * kc c n a) (n := L) (by unfold sqs at hs; omega) a ha
      rcases Nat.mul_eq_zero.mp this with q | q <;> exact q
    obtain ⟨l, rfl⟩ : ∃ l, L = l + 1 := ⟨L - 1, by omega⟩
    have b1 := mxi_lt (kc c n) l
    have b2 := mni_lt (kc c n) l
    have hk : ∀ a, a < l + 1 → kc c n a ≤ 24 := fun a _ => Nat.le_trans (kc_le c n a) hn
    have hc : ∀ a, a < l + 1 → fa_fill (fun a => nI (kc c n a)) cs (l + 1) a = nI (kc c n a) := fun a ha => fa_fill_in ha
    refine ⟨c, fa_fill (fun a => nI (kc c n a)) cs (l + 1), nI t, lp_end ?_, lp_end ?_, hN⟩
    · have e : ¬ (2 : Int32) ≤ nI 0 - nI 0 := by decide
      simp (disch := omega) only [X0_makeEven_L4, leL300, show ¬ 300 ≤ t by omega, ↓reduceIte, x_counts hn hL, Option.bind_some, x_most h1 hL hk hc, x_least h1 hL hk hc, rd_nI, hc _ b1, hc _ b2, hz _ b1, hz _ b2, e]
    · have e : ¬ nI 0 + 2 ≤ nI 0 := by decide
      simp only [X8_even_L63]
      rw [m_choose hn hL]
      simp only [X8_even_J119, m_have hn, Option.bind_some, hz _ b1, hz _ b2, e, ↓reduceIte]
  | succ q ih =>
    intro t c cs hs ht hF hN
    obtain ⟨l, rfl⟩ : ∃ l, L = l + 1 := ⟨L - 1, by omega⟩
    have b1 := mxi_lt (kc c n) l
    have b2 := mni_lt (kc c n) l
    have hk : ∀ a, a < l + 1 → kc c n a ≤ 24 := fun a _ => Nat.le_trans (kc_le c n a) hn
    have hc : ∀ a, a < l + 1 → fa_fill (fun a => nI (kc c n a)) cs (l + 1) a = nI (kc c n a) := fun a ha => fa_fill_in ha
    have hle := mxi_max (kc c n) (l + 1) (mni (kc c n) (l + 1)) b2
    obtain ⟨X, hX⟩ : ∃ X, X = mxi (kc c n) (l + 1) := ⟨_, rfl⟩
    obtain ⟨Y, hY⟩ : ∃ Y, Y = mni (kc c n) (l + 1) := ⟨_, rfl⟩
    have hm := x_most h1 hL hk hc
    have hf := x_least h1 hL hk hc
    rw [← hX] at b1 hle hm
    rw [← hY] at b2 hle hf
    have kX := hk X b1
    have kY := hk Y b2
    have e1 : (2 : Int32) ≤ nI (kc c n X) - nI (kc c n Y) ↔ kc c n Y + 2 ≤ kc c n X := by
      rw [fa_le, fb_subI (by rw [nI_toInt (by omega), nI_toInt (by omega)]; omega) (by rw [nI_toInt (by omega), nI_toInt (by omega)]; omega), nI_toInt (by omega), nI_toInt (by omega), show (2 : Int32).toInt = 2 by decide]
      omega
    have e2 : nI (kc c n Y) + 2 ≤ nI (kc c n X) ↔ kc c n Y + 2 ≤ kc c n X := by
      rw [show nI (kc c n Y) + 2 = nI (kc c n Y + 2) from nI_add _ _, nI_leI (by omega) (by omega)]
    by_cases h2 : kc c n Y + 2 ≤ kc c n X
    · have hxy : nI X ≠ nI Y := fun e => by
        have := (nI_eq (by omega) (by omega)).mp e
        rw [this] at h2
        omega
      obtain ⟨r, C, r1, r2, r3, r4, r5, r6⟩ := x_heavy (c := c) (x := nI X) (y := nI Y) hn hB hxy (show kc c n Y < kc c n X by omega)
      have hC31 : C < 2 ^ 31 := Nat.lt_of_lt_of_le r3.1 (Nat.pow_le_pow_right (by decide) (by omega))
      have hsq := sqs_swap hn b1 b2 hL r1 r2 r3 hF h2 (by unfold lightC at r4; omega)
      obtain ⟨c', cs', t', i1, i2, i3⟩ := ih (t + 1) (sxc C (nI X) (nI Y) c n) (fa_fill (fun a => nI (kc c n a)) cs (l + 1)) (by omega) (by omega) (fair_swap hn hF hxy (m1_ne (by omega)) (m1_ne (by omega)) r1 r2 r3) (num_swap hN ⟨X, by omega, rfl⟩ ⟨Y, by omega, rfl⟩ n)
      refine ⟨c', cs', t', ?_, ?_, i3⟩
      · rw [← i1]
        refine lp_go ?_
        simp (disch := omega) only [X0_makeEven_L4, leL300, show ¬ 300 ≤ t by omega, ↓reduceIte, x_counts hn hL, Option.bind_some, hm, hf, rd_nI, hc _ b1, hc _ b2, e1, h2, r5, x_exchange hn hC31, bnd, nI_1]
      · rw [← i2]
        refine lp_go ?_
        simp only [X8_even_L63]
        rw [m_choose hn hL, ← hX, ← hY]
        simp only [X8_even_J119, m_have hn, Option.bind_some, e2, h2, ↓reduceIte]
        rw [m_heavy hE hxy r1 r2 r3 r4 r6, nI_1]
    · refine ⟨c, fa_fill (fun a => nI (kc c n a)) cs (l + 1), nI t, lp_end ?_, lp_end ?_, hN⟩
      · simp (disch := omega) only [X0_makeEven_L4, leL300, show ¬ 300 ≤ t by omega, ↓reduceIte, x_counts hn hL, Option.bind_some, hm, hf, rd_nI, hc _ b1, hc _ b2, e1, h2]
      · simp only [X8_even_L63]
        rw [m_choose hn hL, ← hX, ← hY]
        simp only [X8_even_J119, m_have hn, Option.bind_some, e2, h2, ↓reduceIte]
end EVEN3
theorem nop_even {pc rc : Int32} {F S c al At Bs : Nat → Int32} {mp mr : Int32} {mF mS mc ml : Nat → Int32} (h : NetR pc rc F S c al At Bs mp mr mF mS mc ml) (a1 : Int32) : ∃ ox om, FX7_even pc rc F S c al At Bs a1 = some ox ∧ FX8_even mr mF mS mc a1 = some om ∧ ox.1 = om.1 ∧ NetR pc rc F S ox.2 al At Bs mp mr mF mS om.2 ml := by
  obtain ⟨⟨rfl, rfl, rfl, rfl, rfl, rfl⟩, p, n, fs, sc, rfl, rfl, hE, hA, hB, hN, hL⟩ := id h
  have hp := hE.2.1
  have hn := hE.1
  have same : ∃ ox om, some ((-2 : Int32), mc) = some ox ∧ some ((-2 : Int32), mc) = some om ∧ ox.1 = om.1 ∧ NetR (nI p) (nI n) mF mS ox.2 ml At Bs (nI p) (nI n) mF mS om.2 ml := ⟨_, _, rfl, rfl, rfl, h⟩
  unfold FX7_even FX8_even FX8_in
  by_cases h1 : a1 < 1
  · simp only [h1, ↓reduceIte, Option.bind_some]; exact same
  · by_cases h2 : (16 : Int32) < a1
    · have h2' : ¬ a1 ≤ 16 := by rw [fa_le]; rw [fa_lt] at h2; omega
      simp only [h1, h2, h2', ↓reduceIte, Option.bind_some]; exact same
    · have h2' : a1 ≤ 16 := by rw [fa_le]; rw [fa_lt] at h2; omega
      simp only [h1, h2, h2', ↓reduceIte, Option.bind_some, o10]
      obtain ⟨L, hL31, rfl⟩ := nI_of (x := a1) (by rw [fa_lt] at *; rw [show (1 : Int32).toInt = 1 by decide] at h1; rw [show (0 : Int32).toInt = 0 by decide]; omega)
      have hL1 : 1 ≤ L := by rw [ltR1 hL31] at h1; omega
      have hL16 : L ≤ 16 := (leR16 hL31).mp h2'
      rw [x_numbered hn, x_greatest hn, x_clash hn hB]
      have hct := fb_ct_le (fun r => !decide (mc r = -1)) n
      have hg : nI L ≤ gmx mc n ↔ ex (fun r => decide (¬ mc r ≤ nI (L - 1))) n = true := by
        rw [← gmx_lt (c := mc) (K := L - 1) (by omega) n, fa_le, fa_lt, nI_toInt (by omega), nI_toInt (by omega)]
        omega
      simp (disch := omega) only [Option.bind_some, nI_ltI, hg]
      have hloop : loopO (X8_even_L15 (nI n) mF mS mc (nI L)) 0 = if ex (fun r => decide (mc r < 0) || !decide (mc r < nI L)) n = true then some (-2, mc) else X8_even_J51 (nI n) mF mS mc (nI L) := by
        have := find_go (f := X8_even_L15 (nI n) mF mS mc (nI L)) (fun i => nI i) (fun r => decide (mc r < 0) || !decide (mc r < nI L)) n (fun i hi hq => by
          simp only [Bool.or_eq_false_iff, decide_eq_false_iff_not, Bool.not_eq_false', decide_eq_true_eq] at hq
          simp (disch := omega) only [X8_even_L15, nI_leI, Nat.not_le.mpr hi, ↓reduceIte, rd_nI, hq.1, hq.2, bnd, nI_1])
        refine this.trans (lp_map ?_)
        unfold ex
        by_cases hx : fa_first (fun r => decide (mc r < 0) || !decide (mc r < nI L)) n < n
        · have hy := fa_first_yes _ n hx
          simp only [Bool.or_eq_true, decide_eq_true_eq, Bool.not_eq_true', decide_eq_false_iff_not] at hy
          simp (disch := omega) only [X8_even_L15, nI_leI, Nat.not_le.mpr hx, ↓reduceIte, rd_nI, hx, decide_true, Option.map_some]
          rcases hy with hy | hy
          · simp only [hy, ↓reduceIte]
          · simp only [hy, ↓reduceIte, ite_self]
        · have e : fa_first (fun r => decide (mc r < 0) || !decide (mc r < nI L)) n = n := by
            have := fa_first_le (fun r => decide (mc r < 0) || !decide (mc r < nI L)) n
            omega
          rw [e]
          simp only [X8_even_L15, Int32.le_refl, ↓reduceIte, Nat.lt_irrefl, decide_false, Bool.false_eq_true]
      rw [hloop]
      have hneg : ∀ r, r < n → (mc r < 0 ↔ mc r = -1) := fun r hr => by
        rcases hN r hr with q | ⟨k, hk, q⟩
        · rw [q]; decide
        · rw [q]
          exact ⟨fun z => absurd ((ltR0 (by omega)).mp z) (by omega), fun z => absurd z (m1_ne (by omega))⟩
      have hbig : ∀ r, (¬ mc r ≤ nI (L - 1)) ↔ ¬ mc r < nI L := fun r => by
        rw [fa_le, fa_lt, nI_toInt (by omega), nI_toInt (by omega)]; omega
      by_cases hc1 : fb_ct (fun r => !decide (mc r = -1)) n < n
      · have : ex (fun r => decide (mc r < 0) || !decide (mc r < nI L)) n = true := by
          rw [ex_true]
          refine Classical.byContradiction (fun hno => ?_)
          have : fb_ct (fun r => !decide (mc r = -1)) n = n := fb_ct_all.mpr (fun k hk => by
            cases hh : decide (mc k = -1)
            · rfl
            · exact absurd ⟨k, hk, by rw [Bool.or_eq_true]; left; exact decide_eq_true ((hneg k hk).mpr (of_decide_eq_true hh))⟩ hno)
          omega
        simp only [hc1, this, ↓reduceIte]; exact same
      · simp only [hc1, ↓reduceIte]
        have hall := fb_ct_all.mp (Nat.le_antisymm hct (Nat.not_lt.mp hc1))
        have heq : ex (fun r => decide (mc r < 0) || !decide (mc r < nI L)) n = ex (fun r => decide (¬ mc r ≤ nI (L - 1))) n := ex_cong (fun r hr => by
          have h3 := hall r hr
          have h4 : ¬ mc r < 0 := fun z => by rw [(hneg r hr).mp z] at h3; simp at h3
          have h5 := hbig r
          rw [decide_eq_false h4, Bool.false_or]
          by_cases q : mc r < nI L
          · simp only [q, not_true_eq_false, iff_false] at h5
            simp only [q, h5, decide_true, decide_false, Bool.not_true]
          · simp only [q, not_false_eq_true, iff_true] at h5
            simp only [q, h5, decide_true, decide_false, Bool.not_false, not_false_eq_true])
        rw [heq]
        cases hgx : ex (fun r => decide (¬ mc r ≤ nI (L - 1))) n
        · simp only [Bool.false_eq_true, ↓reduceIte]
          unfold X8_even_J51
          rw [m_clash hE hN]
          have hm2 : enc n (clP fs sc mc n) < 0 ↔ enc n (clP fs sc mc n) = -1 := by
            rw [enc_neg (by omega), enc_m1 (by omega)]
          simp only [Option.bind_some, hm2]
          by_cases hcl : enc n (clP fs sc mc n) = -1
          · simp only [hcl, ↓reduceIte]
            have hF := (fair_iff (sc := sc) hn).mp hcl
            obtain ⟨c', cs', t', i1, i2, i3⟩ := even_loop hE hB hL1 hL16 288 0 mc (fun _ => 0) (Nat.le_trans (sqs_le mc hn hL16) (by decide)) (by omega) hF hN
            unfold FX0_makeEven
            rw [show (0 : Int32) = nI 0 from rfl, i2]
            rw [show (fun _ : Nat => (0 : Int32)) = (fun _ => nI 0) from rfl] at i1
            rw [i1]
            exact ⟨_, _, rfl, rfl, rfl, ⟨rfl, rfl, rfl, rfl, rfl, rfl⟩, p, n, fs, sc, rfl, rfl, hE, hA, hB, i3, hL⟩
          · simp only [hcl, ↓reduceIte]; exact same
        · simp only [↓reduceIte]; exact same
