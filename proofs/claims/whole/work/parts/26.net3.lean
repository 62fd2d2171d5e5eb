/-! ===== paint, wash, of, roads, free, clash, list ===== -/
theorem num_set {n : Nat} {c : Nat → Int32} {j : Nat} {x : Int32} (hN : NumOK n c) (hx : x = -1 ∨ ∃ k, k < 16 ∧ x = nI k) : NumOK n (upd c j x) := by
  intro r hr
  rw [upd_at]
  split
  · exact hx
  · exact hN r hr
theorem nop_paint {pc rc : Int32} {F S c al At Bs : Nat → Int32} {mp mr : Int32} {mF mS mc ml : Nat → Int32} (h : NetR pc rc F S c al At Bs mp mr mF mS mc ml) (a1 a2 : Int32) : ∃ ox om, FX7_paint rc c a1 a2 = some ox ∧ FX8_paint mr mc a1 a2 = some om ∧ ox.1 = om.1 ∧ NetR pc rc F S ox.2 al At Bs mp mr mF mS om.2 ml := by
  obtain ⟨⟨rfl, rfl, rfl, rfl, rfl, rfl⟩, p, n, fs, sc, rfl, rfl, hE, hA, hB, hN, hL⟩ := id h
  have hp := hE.2.1
  have hn := hE.1
  have same : ∃ ox om, some ((-2 : Int32), mc) = some ox ∧ some ((-2 : Int32), mc) = some om ∧ ox.1 = om.1 ∧ NetR (nI p) (nI n) mF mS ox.2 ml At Bs (nI p) (nI n) mF mS om.2 ml := ⟨_, _, rfl, rfl, rfl, h⟩
  unfold FX7_paint FX8_paint
  rw [isRoad_has (by omega), hasRoad_has]
  rcases has_cases (by omega : n < 2 ^ 31) a1 with e | ⟨a, ha, rfl, e⟩
  · rw [e]; exact same
  · rw [e]
    simp only [Option.bind_some, o10, ↓reduceIte, FX8_in]
    by_cases h1 : a2 < -1
    · simp only [h1, ↓reduceIte, Option.bind_some]; exact same
    · simp only [h1, ↓reduceIte, Option.bind_some]
      have hx : (15 : Int32) < a2 ↔ ¬ a2 < 16 := by
        rw [fa_lt, fa_lt, show (15 : Int32).toInt = 15 by decide, show (16 : Int32).toInt = 16 by decide]; omega
      by_cases h2 : a2 < 16
      · simp (disch := omega) only [hx, h2, not_true_eq_false, ↓reduceIte, Option.bind_some, o10, rd_nI, wr_nI]
        refine ⟨_, _, rfl, rfl, rfl, ⟨rfl, rfl, rfl, rfl, rfl, rfl⟩, p, n, fs, sc, rfl, rfl, hE, hA, hB, num_set hN ?_, hL⟩
        by_cases h3 : a2 < 0
        · left
          rw [fa_eq]
          rw [fa_lt] at h1 h3
          have b1 : (-1 : Int32).toInt = -1 := by decide
          have b2 : (0 : Int32).toInt = 0 := by decide
          omega
        · right
          obtain ⟨j, hj, rfl⟩ := nI_of h3
          exact ⟨j, (ltR16 hj).mp h2, rfl⟩
      · simp only [hx, h2, not_false_eq_true, ↓reduceIte, Option.bind_some]; exact same
theorem nop_list {pc rc : Int32} {F S c al At Bs : Nat → Int32} {mp mr : Int32} {mF mS mc ml : Nat → Int32} (h : NetR pc rc F S c al At Bs mp mr mF mS mc ml) (a1 a2 : Int32) : ∃ ox om, FX7_list rc al a1 a2 = some ox ∧ FX8_list mr ml a1 a2 = some om ∧ ox.1 = om.1 ∧ NetR pc rc F S c ox.2 At Bs mp mr mF mS mc om.2 := by
  obtain ⟨⟨rfl, rfl, rfl, rfl, rfl, rfl⟩, p, n, fs, sc, rfl, rfl, hE, hA, hB, hN, hL⟩ := id h
  have hp := hE.2.1
  have hn := hE.1
  have same : ∃ ox om, some ((-2 : Int32), ml) = some ox ∧ some ((-2 : Int32), ml) = some om ∧ ox.1 = om.1 ∧ NetR (nI p) (nI n) mF mS mc ox.2 At Bs (nI p) (nI n) mF mS mc om.2 := ⟨_, _, rfl, rfl, rfl, h⟩
  unfold FX7_list FX8_list
  rw [isRoad_has (by omega), hasRoad_has]
  rcases has_cases (by omega : n < 2 ^ 31) a1 with e | ⟨a, ha, rfl, e⟩
  · rw [e]; exact same
  · rw [e]
    simp only [Option.bind_some, o10, ↓reduceIte, FX8_in]
    by_cases h1 : a2 < 0
    · simp only [h1, ↓reduceIte, Option.bind_some]; exact same
    · simp only [h1, ↓reduceIte, Option.bind_some]
      have hx : (65535 : Int32) < a2 ↔ ¬ a2 ≤ 65535 := by
        rw [fa_lt, fa_le]; omega
      by_cases h2 : a2 ≤ 65535
      · simp (disch := omega) only [hx, h2, not_true_eq_false, ↓reduceIte, Option.bind_some, o10, rd_nI, wr_nI]
        refine ⟨_, _, rfl, rfl, rfl, ⟨rfl, rfl, rfl, rfl, rfl, rfl⟩, p, n, fs, sc, rfl, rfl, hE, hA, hB, hN, fun r hr => ?_⟩
        show ∃ k, k < 65536 ∧ upd ml a a2 r = nI k
        rw [upd_at]
        split
        · obtain ⟨j, hj, rfl⟩ := nI_of h1
          have := (leR65535 hj).mp h2
          exact ⟨j, by omega, rfl⟩
        · exact hL r hr
      · simp only [hx, h2, not_false_eq_true, ↓reduceIte, Option.bind_some]; exact same
def wsh (c : Nat → Int32) (i : Nat) : Nat → Int32 := fun j => if j < i then -1 else c j
theorem wsh_0 (c : Nat → Int32) : wsh c 0 = c := by funext j; simp [wsh]
theorem wsh_s (c : Nat → Int32) (i : Nat) : upd (wsh c i) i (-1) = wsh c (i + 1) := by
  funext j
  rw [upd_at]
  unfold wsh
  by_cases h : j = i
  · subst h; simp
  · have : (j < i + 1) ↔ (j < i) := by omega
    simp [h, this]
theorem wsh_num (n : Nat) (c : Nat → Int32) : NumOK n (wsh c n) := fun r hr => Or.inl (by unfold wsh; rw [if_pos hr])
theorem x_forget {n : Nat} (hn : n ≤ 24) (c : Nat → Int32) : FX3_forgetNumbers (nI n) c = some (wsh c n) := by
  unfold FX3_forgetNumbers
  rw [show (c, (0 : Int32)) = (wsh c 0, nI 0) by rw [wsh_0]; rfl]
  refine for_fun (fun i => (wsh c i, nI i)) 0 n (Nat.zero_le _) (fun i _ hi => ?_) ?_
  · simp (disch := omega) only [X3_forgetNumbers_L2, nI_leI, Nat.not_le.mpr hi, ↓reduceIte, wr_nI, wsh_s, bnd, nI_1]
  · simp only [X3_forgetNumbers_L2, Int32.le_refl, ↓reduceIte]
theorem nop_wash {pc rc : Int32} {F S c al At Bs : Nat → Int32} {mp mr : Int32} {mF mS mc ml : Nat → Int32} (h : NetR pc rc F S c al At Bs mp mr mF mS mc ml) : ∃ ox om, FX7_wash rc c = some ox ∧ FX8_wash mr mc = some om ∧ ox.1 = om.1 ∧ NetR pc rc F S ox.2 al At Bs mp mr mF mS om.2 ml := by
  obtain ⟨⟨rfl, rfl, rfl, rfl, rfl, rfl⟩, p, n, fs, sc, rfl, rfl, hE, hA, hB, hN, hL⟩ := id h
  have hp := hE.2.1
  have hn := hE.1
  have hm : FX8_wash (nI n) mc = some (nI (fb_ct (fun r => !decide (mc r = -1)) n), wsh mc n) := by
    unfold FX8_wash
    rw [m_numbered hn hN]
    simp only [Option.bind_some]
    rw [show (mc, (0 : Int32)) = (wsh mc 0, nI 0) by rw [wsh_0]; rfl]
    refine for_fun (fun i => (wsh mc i, nI i)) 0 n (Nat.zero_le _) (fun i _ hi => ?_) ?_
    · simp (disch := omega) only [X8_wash_L7, nI_leI, Nat.not_le.mpr hi, ↓reduceIte, wr_nI, wsh_s, bnd, nI_1]
    · simp only [X8_wash_L7, Int32.le_refl, ↓reduceIte]
  refine ⟨(nI (fb_ct (fun r => !decide (mc r = -1)) n), wsh mc n), _, ?_, hm, rfl, ⟨rfl, rfl, rfl, rfl, rfl, rfl⟩, p, n, fs, sc, rfl, rfl, hE, hA, hB, wsh_num n mc, hL⟩
  unfold FX7_wash
  rw [x_numbered hn, x_forget hn]
  rfl
theorem nop_of {pc rc : Int32} {F S c al At Bs : Nat → Int32} {mp mr : Int32} {mF mS mc ml : Nat → Int32} (h : NetR pc rc F S c al At Bs mp mr mF mS mc ml) (a1 a2 : Int32) : ∃ ox om, FX7_of rc F S c al a1 a2 = some ox ∧ FX8_of mr mF mS mc ml a1 a2 = some om ∧ ox = om := by
  obtain ⟨⟨rfl, rfl, rfl, rfl, rfl, rfl⟩, p, n, fs, sc, rfl, rfl, hE, hA, hB, hN, hL⟩ := id h
  have hp := hE.2.1
  have hn := hE.1
  unfold FX7_of FX8_of
  rw [isRoad_has (by omega), hasRoad_has]
  rcases has_cases (by omega : n < 2 ^ 31) a1 with e | ⟨a, ha, rfl, e⟩
  · rw [e]; exact ⟨_, _, rfl, rfl, rfl⟩
  · rw [e]
    simp (disch := omega) only [Option.bind_some, o10, ↓reduceIte, rd_nI]
    split
    · exact ⟨_, _, rfl, rfl, rfl⟩
    split
    · exact ⟨_, _, rfl, rfl, rfl⟩
    split
    · exact ⟨_, _, rfl, rfl, rfl⟩
    split <;> exact ⟨_, _, rfl, rfl, rfl⟩
theorem nop_roads {pc rc : Int32} {F S c al At Bs : Nat → Int32} {mp mr : Int32} {mF mS mc ml : Nat → Int32} (h : NetR pc rc F S c al At Bs mp mr mF mS mc ml) (a1 : Int32) : ∃ ox om, FX7_roads pc At a1 = some ox ∧ FX8_roads mp mr mF mS a1 = some om ∧ ox = om := by
  obtain ⟨⟨rfl, rfl, rfl, rfl, rfl, rfl⟩, p, n, fs, sc, rfl, rfl, hE, hA, hB, hN, hL⟩ := id h
  have hp := hE.2.1
  have hn := hE.1
  unfold FX7_roads FX8_roads
  rw [in_has (by omega)]
  rcases has_cases (by omega : p < 2 ^ 31) a1 with e | ⟨a, ha, rfl, e⟩
  · rw [e]; exact ⟨_, _, rfl, rfl, rfl⟩
  · rw [e]
    have hm : mk (fun r => E fs sc r a) n < 2 ^ 32 := Nat.lt_of_lt_of_le (mk_lt _ n) (Nat.pow_le_pow_right (by decide) (by omega))
    simp (disch := omega) only [Option.bind_some, o10, ↓reduceIte, rd_nI, hA a ha, bc_nI hm, m_roadsAt hE, pcn_mk]
    exact ⟨_, _, rfl, rfl, rfl⟩
theorem nop_free {pc rc : Int32} {F S c al At Bs : Nat → Int32} {mp mr : Int32} {mF mS mc ml : Nat → Int32} (h : NetR pc rc F S c al At Bs mp mr mF mS mc ml) (a1 : Int32) : ∃ ox om, FX7_free pc rc c At a1 = some ox ∧ FX8_free mp mr mF mS mc a1 = some om ∧ ox = om := by
  obtain ⟨⟨rfl, rfl, rfl, rfl, rfl, rfl⟩, p, n, fs, sc, rfl, rfl, hE, hA, hB, hN, hL⟩ := id h
  have hp := hE.2.1
  have hn := hE.1
  unfold FX7_free FX8_free
  rw [in_has (by omega)]
  rcases has_cases (by omega : p < 2 ^ 31) a1 with e | ⟨a, ha, rfl, e⟩
  · rw [e]; exact ⟨_, _, rfl, rfl, rfl⟩
  · rw [e]
    simp (disch := omega) only [Option.bind_some, o10, ↓reduceIte, x_leastFree hE hA hN ha, m_leastFree hE]
    exact ⟨_, _, rfl, rfl, rfl⟩
/-- which roads clash -/
def clP (fs sc : Nat → Nat) (c : Nat → Int32) (n r : Nat) : Bool := ex (fun q => adj fs sc r q && (decide (c q = c r) && !decide (c r = -1))) n
theorem m_clash {n p : Nat} {fs sc : Nat → Nat} {F S c : Nat → Int32} (h : EndsOK n p fs sc F S) (hc : NumOK n c) : FX8_clashing (nI n) F S c = some (enc n (clP fs sc c n)) := m_clashing h hc
theorem x_clash {n : Nat} {fs sc : Nat → Nat} {c Bs : Nat → Int32} (hn : n ≤ 24) (hB : BsOK n fs sc Bs) : FX3_leastClashing (nI n) c Bs = some (enc n (clP fs sc c n)) := by
  unfold enc
  have key : ∀ i, i < n → ¬ c i = -1 → ((mk (fun s => adj fs sc i s) n &&& mk (fun r => decide (c r = c i)) n) = 0 ↔ clP fs sc c n i = false) := by
    intro i hi h1
    unfold clP
    rw [ex_false]
    constructor
    · intro h q hq
      have := congrArg (fun z => z.testBit q) h
      simp only [Nat.testBit_and, mk_bit, Nat.zero_testBit, hq, decide_true, Bool.true_and] at this
      simp [h1]
      simpa using this
    · intro h
      apply Nat.eq_of_testBit_eq
      intro q
      rw [Nat.testBit_and, mk_bit, mk_bit, Nat.zero_testBit]
      by_cases hq : q < n
      · have := h q hq
        simp [h1] at this
        simp [hq]
        exact this
      · simp [hq]
  refine find_fun (fun i => nI i) (clP fs sc c n) n (fun i => nI i) (-1) (fun i hi hp => ?_) (fun i hi hp => ?_) ?_
  · have hm : (mk (fun s => adj fs sc i s) n &&& mk (fun r => decide (c r = c i)) n) < 2 ^ 31 := Nat.lt_of_lt_of_le (and_lt_l (mk_lt _ n)) (Nat.pow_le_pow_right (by decide) (by omega))
    simp (disch := omega) only [X3_leastClashing_L2, nI_leI, Nat.not_le.mpr hi, ↓reduceIte, rd_nI, hB i hi, x_roadsNumbered hn, Option.bind_some, fa_and, bnd, nI_1, eqR0 hm]
    by_cases h1 : c i = -1
    · simp [h1]
    · simp [h1, (key i hi h1).mpr hp]
  · have hm : (mk (fun s => adj fs sc i s) n &&& mk (fun r => decide (c r = c i)) n) < 2 ^ 31 := Nat.lt_of_lt_of_le (and_lt_l (mk_lt _ n)) (Nat.pow_le_pow_right (by decide) (by omega))
    simp (disch := omega) only [X3_leastClashing_L2, nI_leI, Nat.not_le.mpr hi, ↓reduceIte, rd_nI, hB i hi, x_roadsNumbered hn, Option.bind_some, fa_and, bnd, nI_1, eqR0 hm]
    have h1 : ¬ c i = -1 := by
      intro q
      unfold clP at hp
      obtain ⟨z, -, hz⟩ := ex_true.mp hp
      simp [q] at hz
    have h2 : ¬ (mk (fun s => adj fs sc i s) n &&& mk (fun r => decide (c r = c i)) n) = 0 := fun q => by
      rw [(key i hi h1).mp q] at hp; cases hp
    simp [h1, h2]
  · simp only [X3_leastClashing_L2, Int32.le_refl, ↓reduceIte]
theorem nop_clash {pc rc : Int32} {F S c al At Bs : Nat → Int32} {mp mr : Int32} {mF mS mc ml : Nat → Int32} (h : NetR pc rc F S c al At Bs mp mr mF mS mc ml) : ∃ ox om, FX7_clash rc c Bs = some ox ∧ FX8_clash mr mF mS mc = some om ∧ ox = om := by
  obtain ⟨⟨rfl, rfl, rfl, rfl, rfl, rfl⟩, p, n, fs, sc, rfl, rfl, hE, hA, hB, hN, hL⟩ := id h
  have hp := hE.2.1
  have hn := hE.1
  unfold FX7_clash FX8_clash
  rw [x_clash hn hB, m_clash hE hN]
  exact ⟨_, _, rfl, rfl, rfl⟩
