/-! ===== mend: the refusals, and the call ===== -/
def gmx (c : Nat → Int32) : Nat → Int32
  | 0 => -1
  | i + 1 => if gmx c i < c i then c i else gmx c i
theorem gmx_lt {c : Nat → Int32} {K : Nat} (hK : K < 2 ^ 31) : ∀ i, nI K < gmx c i ↔ ex (fun r => decide (¬ c r ≤ nI K)) i = true
  | 0 => by
    have : ¬ nI K < (-1 : Int32) := by
      rw [fa_lt, nI_toInt hK, show (-1 : Int32).toInt = -1 by decide]; omega
    simp [gmx, this, ex, fa_first]
  | i + 1 => by
    rw [ex_succ]
    have ih := gmx_lt (c := c) hK i
    simp only [gmx, Bool.or_eq_true, decide_eq_true_eq]
    rw [← ih]
    split <;> rename_i h <;> simp only [fa_lt, fa_le] at * <;> omega
theorem x_greatest {n : Nat} {c : Nat → Int32} (hn : n ≤ 24) : FX3_greatestNumber (nI n) c = some (gmx c n) := by
  refine for_fun (fun i => (gmx c i, nI i)) 0 n (Nat.zero_le _) (fun i _ hi => ?_) ?_
  · simp (disch := omega) only [X3_greatestNumber_L4, nI_leI, Nat.not_le.mpr hi, ↓reduceIte, rd_nI, bnd, nI_1, gmx]
  · simp only [X3_greatestNumber_L4, Int32.le_refl, ↓reduceIte]
theorem nop_mend {pc rc : Int32} {F S c al At Bs : Nat → Int32} {mp mr : Int32} {mF mS mc ml : Nat → Int32} (h : NetR pc rc F S c al At Bs mp mr mF mS mc ml) (fan : Nat → Int32) (a1 : Int32) : ∃ ox om, FX7_mend pc rc F S c al At Bs a1 = some ox ∧ FX8_mend mp mr mF mS mc fan a1 = some om ∧ ox.1 = om.1 ∧ NetR pc rc F S ox.2 al At Bs mp mr mF mS om.2.1 ml := by
  obtain ⟨⟨rfl, rfl, rfl, rfl, rfl, rfl⟩, p, n, fs, sc, rfl, rfl, hE, hA, hB, hN, hL⟩ := id h
  have hp := hE.2.1
  have hn := hE.1
  have same : ∃ ox om, some ((-2 : Int32), mc) = some ox ∧ some ((-2 : Int32), mc, fan) = some om ∧ ox.1 = om.1 ∧ NetR (nI p) (nI n) mF mS ox.2 ml At Bs (nI p) (nI n) mF mS om.2.1 ml := ⟨_, _, rfl, rfl, rfl, h⟩
  have hfl := fulln_le fs sc n p
  unfold FX7_mend FX8_mend
  rw [isRoad_has (by omega), hasRoad_has]
  rcases has_cases (by omega : n < 2 ^ 31) a1 with e | ⟨r, hr, rfl, e⟩
  · rw [e]; exact same
  · rw [e]
    simp (disch := omega) only [Option.bind_some, o10, ↓reduceIte, rd_nI]
    have hm1 : (0 : Int32) ≤ mc r ↔ ¬ mc r = -1 := by
      rcases hN r hr with q | ⟨k, hk, q⟩
      · rw [q]; decide
      · rw [q]
        exact ⟨fun _ => m1_ne (by omega), fun _ => nI_pos' (by omega)⟩
    by_cases hcr : mc r = -1
    · simp only [hm1, hcr, not_true_eq_false, ↓reduceIte]
      rw [x_clash hn hB, m_clash hE hN]
      have hm2 : (0 : Int32) ≤ enc n (clP fs sc mc n) ↔ ¬ enc n (clP fs sc mc n) = -1 := by
        have q1 := enc_neg (P := clP fs sc mc n) (n := n) (by omega)
        have q2 := enc_m1 (P := clP fs sc mc n) (n := n) (by omega)
        rw [q2, ← q1, fa_le, fa_lt]; omega
      simp only [Option.bind_some, hm2]
      by_cases hcl : enc n (clP fs sc mc n) = -1
      · simp only [hcl, not_true_eq_false, ↓reduceIte]
        rw [x_greatest hn, x_full hn hp hA, x_plain hE hA, m_plain hE]
        simp only [Option.bind_some, b1, gmx_lt (c := mc) (K := fulln fs sc n p) (by omega) n]
        have hloop : loopO (X8_mend_L36 (nI p) (nI n) mF mS mc fan (nI r)) 0 = if ex (fun r => decide (¬ mc r ≤ nI (fulln fs sc n p))) n = true then some (-2, mc, fan) else X8_mend_J66 (nI n) mF mS mc fan (nI r) := by
          have := find_go (f := X8_mend_L36 (nI p) (nI n) mF mS mc fan (nI r)) (fun i => nI i) (fun r => decide (¬ mc r ≤ nI (fulln fs sc n p))) n (fun i hi hq => by
            have hq' : mc i ≤ nI (fulln fs sc n p) := by simpa using hq
            simp (disch := omega) only [X8_mend_L36, nI_leI, Nat.not_le.mpr hi, ↓reduceIte, rd_nI, m_full hE, Option.bind_some, hq', bnd, nI_1])
          refine this.trans (lp_map ?_)
          unfold ex
          by_cases hx : fa_first (fun r => decide (¬ mc r ≤ nI (fulln fs sc n p))) n < n
          · have hy := of_decide_eq_true (fa_first_yes _ n hx)
            simp (disch := omega) only [X8_mend_L36, nI_leI, Nat.not_le.mpr hx, ↓reduceIte, rd_nI, m_full hE, Option.bind_some, hy, hx, decide_true, Option.map_some]
          · have e : fa_first (fun r => decide (¬ mc r ≤ nI (fulln fs sc n p))) n = n := by
              have := fa_first_le (fun r => decide (¬ mc r ≤ nI (fulln fs sc n p))) n
              omega
            rw [e]
            simp only [X8_mend_L36, Int32.le_refl, ↓reduceIte, Nat.lt_irrefl, decide_false, Bool.false_eq_true]
        rw [hloop]
        cases hP : plainB fs sc n
        · cases hg : ex (fun r => decide (¬ mc r ≤ nI (fulln fs sc n p))) n <;> simp only [↓reduceIte, Bool.false_eq_true] <;> exact same
        · cases hg : ex (fun r => decide (¬ mc r ≤ nI (fulln fs sc n p))) n
          · simp only [↓reduceIte, Bool.false_eq_true, Bool.true_eq_false]
            obtain ⟨q1, q2, q3, q4, q5⟩ := hE.2.2 r hr
            have hu : fs r < 2 ^ 31 := by omega
            have h0 : ∀ f : Nat → Int32, (wr f 24 0 (nI r) (fun g => some (nI (fs r), g, (1 : Int32)))) = some (nI (fs r), upd f 0 (nI r), 1) := fun f => by
              rw [show (0 : Int32) = nI 0 from rfl]
              simp (disch := omega) only [wr_nI]
            obtain ⟨c', rd', fan', sz', r1, r2, r3⟩ := mend_loop hE hA hB hN hP q3 hr hcr (d := fa_first (freeP fs sc mc n (fs r)) 16) rfl 12 0 (fun _ => r) (upd (fun _ => 0) 0 (nI r)) (upd fan 0 (nI (sc r))) rfl
              ⟨rfl, fun i hi => ⟨hr, by unfold E; simp⟩, fun i j h1 h2 => by omega⟩
              (fun i hi => by rw [upd_at, if_pos (by omega)])
              (fun i hi => by rw [upd_at, if_pos (by omega)]; unfold oth; rw [if_pos rfl])
            have hx : FX1_init (nI p) (nI n) mF mS mc ml At Bs (nI r) = some (nI (fs r), upd (fun _ => 0) 0 (nI r), 1) := by
              unfold FX1_init
              simp (disch := omega) only [rd_nI, q1, h0]
            have hx2 : FX1_mendRoad (nI (fs r)) 1 (upd (fun _ => 0) 0 (nI r)) (nI n) mF mS mc At Bs = some (c' r, sz', rd', c') := by
              unfold FX1_mendRoad
              rw [x_leastFree hE hA hN q3]
              exact r1
            have hx3 : X8_mend_J66 (nI n) mF mS mc fan (nI r) = some (c' r, c', fan') := by
              unfold X8_mend_J66
              rw [show (0 : Int32) = nI 0 from rfl]
              simp (disch := omega) only [rd_nI, q1, q2, wr_nI]
              exact r2
            rw [hx, hx3]
            simp only [Option.bind_some, hx2]
            exact ⟨_, _, rfl, rfl, rfl, ⟨rfl, rfl, rfl, rfl, rfl, rfl⟩, p, n, fs, sc, rfl, rfl, hE, hA, hB, r3, hL⟩
          · simp only [↓reduceIte, Bool.true_eq_false]; exact same
      · simp only [hcl, not_false_eq_true, ↓reduceIte]; exact same
    · simp only [hm1, hcr, not_false_eq_true, ↓reduceIte]; exact same
