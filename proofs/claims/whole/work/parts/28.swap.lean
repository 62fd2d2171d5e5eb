/-! ===== swapping a chain; chain and swap ===== -/
def sxc (S : Nat) (x y : Int32) (c : Nat → Int32) (i : Nat) : Nat → Int32 := fun j => if j < i ∧ S.testBit j = true then (if c j = x then y else x) else c j
theorem sxc_0 (S : Nat) (x y : Int32) (c : Nat → Int32) : sxc S x y c 0 = c := by funext j; simp [sxc]
theorem sxc_no {S : Nat} {x y : Int32} {c : Nat → Int32} {i : Nat} (h : S.testBit i = false) : sxc S x y c i = sxc S x y c (i + 1) := by
  funext j
  unfold sxc
  by_cases hj : j = i
  · subst hj; simp [h]
  · have : (j < i + 1) ↔ (j < i) := by omega
    simp [this]
theorem sxc_yes {S : Nat} {x y : Int32} {c : Nat → Int32} {i : Nat} (h : S.testBit i = true) : upd (sxc S x y c i) i (if c i = x then y else x) = sxc S x y c (i + 1) := by
  funext j
  rw [upd_at]
  unfold sxc
  by_cases hj : j = i
  · subst hj; simp [h]
  · have : (j < i + 1) ↔ (j < i) := by omega
    simp [this, hj]
theorem sxc_at (S : Nat) (x y : Int32) (c : Nat → Int32) (i : Nat) : sxc S x y c i i = c i := by unfold sxc; simp
theorem x_exchange {n S : Nat} (hn : n ≤ 24) (hS : S < 2 ^ 31) (x y : Int32) (c : Nat → Int32) : FX3_exchange (nI n) c (nI S) x y = some (sxc S x y c n) := by
  unfold FX3_exchange
  rw [show (c, (0 : Int32)) = (sxc S x y c 0, nI 0) by rw [sxc_0]; rfl]
  refine for_fun (fun i => (sxc S x y c i, nI i)) 0 n (Nat.zero_le _) (fun i _ hi => ?_) ?_
  · simp (disch := omega) only [X3_exchange_L3, nI_leI, Nat.not_le.mpr hi, ↓reduceIte, isIn_nI hS, Option.bind_some, b1, bnd, nI_1, rd_nI, X3_exchange_J43, wr_nI, sxc_at]
    cases hb : S.testBit i
    · simp [sxc_no hb]
    · rw [← sxc_yes hb]
      by_cases e : c i = x <;> simp [e]
  · simp only [X3_exchange_L3, Int32.le_refl, ↓reduceIte]
theorem m_swapped {n S : Nat} (hn : n ≤ 24) (hS : S < 2 ^ 31) (x y : Int32) (c : Nat → Int32) : FX8_swapped (nI n) c (nI S) x y = some (sxc S x y c n) := by
  unfold FX8_swapped
  rw [show (c, (0 : Int32)) = (sxc S x y c 0, nI 0) by rw [sxc_0]; rfl]
  refine for_fun (fun i => (sxc S x y c i, nI i)) 0 n (Nat.zero_le _) (fun i _ hi => ?_) ?_
  · have ht : ((nI S >>> (nI i &&& 31)) &&& 1 = 1) ↔ S.testBit i = true := by
      rw [tb_nI hS (by omega)]
      cases S.testBit i <;> simp
    simp (disch := omega) only [X8_swapped_L3, nI_leI, Nat.not_le.mpr hi, ↓reduceIte, ht, bnd, nI_1, rd_nI, X8_swapped_J44, wr_nI, sxc_at]
    cases hb : S.testBit i
    · simp [sxc_no hb]
    · rw [← sxc_yes hb]
      by_cases e : c i = x <;> simp [e]
  · simp only [X8_swapped_L3, Int32.le_refl, ↓reduceIte]
theorem m_ones {S : Nat} (hS : S < 2 ^ 24) : FX8_ones (nI S) = some (nI (pcn S)) := by
  have e : pcn S = fb_ct (fun i => S.testBit i) 24 := by
    have := pcn_mk (fun i => S.testBit i) (k := 24) (by omega)
    rw [← mk_of hS] at this
    exact this
  rw [e]
  refine for_fun (f := X8_ones_L4 (nI S)) (fun i => (nI (fb_ct (fun i => S.testBit i) i), nI i)) 0 24 (Nat.zero_le _) (fun i _ hi => ?_) ?_
  · simp (disch := omega) only [X8_ones_L4, leL24, Nat.not_le.mpr hi, ↓reduceIte, bnd, nI_1, tb_nI (show S < 2 ^ 31 by omega), fb_ct_succ]
    cases S.testBit i
    · simp
    · simp [nI_1]
  · simp (disch := omega) only [X8_ones_L4, leL24, Nat.le_refl, ↓reduceIte]
theorem num_swap {n S : Nat} {x y : Int32} {c : Nat → Int32} (hN : NumOK n c) (hx : ∃ k, k < 16 ∧ x = nI k) (hy : ∃ k, k < 16 ∧ y = nI k) (m : Nat) : NumOK n (sxc S x y c m) := by
  intro r hr
  unfold sxc
  split
  · split
    · exact Or.inr hy
    · exact Or.inr hx
  · exact hN r hr
theorem in15 (a : Int32) : (FX8_in a 0 15 = some 0 ∧ (a < 0 ∨ 16 ≤ a)) ∨ ∃ k, k < 16 ∧ a = nI k ∧ FX8_in a 0 15 = some 1 ∧ ¬ a < 0 ∧ ¬ 16 ≤ a := by
  unfold FX8_in
  by_cases h1 : a < 0
  · left; simp [h1]
  · obtain ⟨j, hj, rfl⟩ := nI_of h1
    by_cases h2 : j < 16
    · right
      refine ⟨j, h2, rfl, ?_, h1, ?_⟩
      · rw [if_neg h1, if_neg (by rw [ltL15 hj]; omega)]
      · rw [leL16 hj]; omega
    · left
      refine ⟨?_, Or.inr ((leL16 hj).mpr (by omega))⟩
      rw [if_neg h1, if_pos ((ltL15 hj).mpr (by omega))]
theorem hasChain_cases {n : Nat} (hn : n ≤ 24) (c : Nat → Int32) (a1 x y : Int32) : FX8_isChain (nI n) c a1 x y = FX7_hasChain (nI n) c a1 x y ∧ (FX7_hasChain (nI n) c a1 x y = some 0 ∨ (FX7_hasChain (nI n) c a1 x y = some 1 ∧ ∃ r, r < n ∧ a1 = nI r ∧ (∃ k, k < 16 ∧ x = nI k) ∧ (∃ k, k < 16 ∧ y = nI k) ∧ x ≠ y ∧ xyP c x y r = true)) := by
  unfold FX8_isChain FX7_hasChain
  rw [isRoad_has (by omega), hasRoad_has]
  rcases has_cases (by omega : n < 2 ^ 31) a1 with e | ⟨r, hr, rfl, e⟩
  · rw [e]; exact ⟨rfl, Or.inl rfl⟩
  · rw [e]
    simp only [Option.bind_some, o10, ↓reduceIte]
    rcases in15 x with ⟨e1, e2⟩ | ⟨i, hi, ex, e1, e2, e3⟩
    · rw [e1]
      simp only [Option.bind_some, ↓reduceIte]
      rcases e2 with e2 | e2
      · simp [e2]
      · by_cases h0 : x < 0
        · simp [h0]
        · simp [h0, e2]
    · rw [e1]
      simp only [Option.bind_some, o10, ↓reduceIte, e2, e3]
      rcases in15 y with ⟨f1, f2⟩ | ⟨j, hj, ey, f1, f2, f3⟩
      · rw [f1]
        simp only [Option.bind_some, ↓reduceIte]
        rcases f2 with f2 | f2
        · simp [f2]
        · by_cases h0 : y < 0
          · simp [h0]
          · simp [h0, f2]
      · rw [f1]
        simp (disch := omega) only [Option.bind_some, o10, ↓reduceIte, f2, f3, rd_nI]
        by_cases hxy : x = y
        · simp [hxy]
        · simp only [hxy, ↓reduceIte]
          by_cases g1 : c r = x
          · simp only [g1, ↓reduceIte]
            exact ⟨trivial, Or.inr ⟨trivial, r, hr, rfl, ⟨i, hi, ex⟩, ⟨j, hj, ey⟩, hxy, by unfold xyP; simp [g1]⟩⟩
          · by_cases g2 : c r = y
            · simp only [g1, g2, ↓reduceIte]
              refine ⟨trivial, Or.inr ⟨?_, r, hr, rfl, ⟨i, hi, ex⟩, ⟨j, hj, ey⟩, hxy, by unfold xyP; simp [g2]⟩⟩
              split <;> rfl
            · simp [g1, g2]
theorem nop_chain {pc rc : Int32} {F S c al At Bs : Nat → Int32} {mp mr : Int32} {mF mS mc ml : Nat → Int32} (h : NetR pc rc F S c al At Bs mp mr mF mS mc ml) (a1 a2 a3 : Int32) : ∃ ox om, FX7_chain rc c Bs a1 a2 a3 = some ox ∧ FX8_chain mr mF mS mc a1 a2 a3 = some om ∧ ox = om := by
  obtain ⟨⟨rfl, rfl, rfl, rfl, rfl, rfl⟩, p, n, fs, sc, rfl, rfl, hE, hA, hB, hN, hL⟩ := id h
  have hp := hE.2.1
  have hn := hE.1
  obtain ⟨e1, e2⟩ := hasChain_cases hn mc a1 a2 a3
  unfold FX7_chain FX8_chain
  rw [e1]
  rcases e2 with e2 | ⟨e2, r, hr, rfl, hx, hy, hxy, hP⟩
  · rw [e2]; exact ⟨_, _, rfl, rfl, rfl⟩
  · rw [e2]
    obtain ⟨C, hC, k1⟩ := x_chainOf (c := mc) (x := a2) (y := a3) hn hB hr
    obtain ⟨C', hC', k2⟩ := m_chainOf (c := mc) (x := a2) (y := a3) hE hr
    obtain rfl := least_one hC hC'
    have hlt : C < 2 ^ 24 := Nat.lt_of_lt_of_le hC.1 (Nat.pow_le_pow_right (by decide) hn)
    simp only [Option.bind_some, o10, ↓reduceIte, k1, k2, m_ones hlt, bc_nI (show C < 2 ^ 32 by omega)]
    exact ⟨_, _, rfl, rfl, rfl⟩
theorem nop_swap {pc rc : Int32} {F S c al At Bs : Nat → Int32} {mp mr : Int32} {mF mS mc ml : Nat → Int32} (h : NetR pc rc F S c al At Bs mp mr mF mS mc ml) (a1 a2 a3 : Int32) : ∃ ox om, FX7_swap rc c Bs a1 a2 a3 = some ox ∧ FX8_swap mr mF mS mc a1 a2 a3 = some om ∧ ox.1 = om.1 ∧ NetR pc rc F S ox.2 al At Bs mp mr mF mS om.2 ml := by
  obtain ⟨⟨rfl, rfl, rfl, rfl, rfl, rfl⟩, p, n, fs, sc, rfl, rfl, hE, hA, hB, hN, hL⟩ := id h
  have hp := hE.2.1
  have hn := hE.1
  obtain ⟨e1, e2⟩ := hasChain_cases hn mc a1 a2 a3
  unfold FX7_swap FX8_swap
  rw [e1]
  rcases e2 with e2 | ⟨e2, r, hr, rfl, hx, hy, hxy, hP⟩
  · rw [e2]; exact ⟨_, _, rfl, rfl, rfl, h⟩
  · rw [e2]
    obtain ⟨C, hC, k1⟩ := x_chainOf (c := mc) (x := a2) (y := a3) hn hB hr
    obtain ⟨C', hC', k2⟩ := m_chainOf (c := mc) (x := a2) (y := a3) hE hr
    obtain rfl := least_one hC hC'
    have hlt : C < 2 ^ 24 := Nat.lt_of_lt_of_le hC.1 (Nat.pow_le_pow_right (by decide) hn)
    simp only [Option.bind_some, o10, ↓reduceIte, k1, k2, m_ones hlt, bc_nI (show C < 2 ^ 32 by omega), x_exchange hn (show C < 2 ^ 31 by omega), m_swapped hn (show C < 2 ^ 31 by omega)]
    exact ⟨_, _, rfl, rfl, rfl, ⟨rfl, rfl, rfl, rfl, rfl, rfl⟩, p, n, fs, sc, rfl, rfl, hE, hA, hB, num_swap hN hx hy n, hL⟩
/-! ===== the fullest post, plain nets ===== -/
def mxs (f : Nat → Nat) : Nat → Nat
  | 0 => 0
  | i + 1 => if mxs f i < f i then f i else mxs f i
theorem mxs_le (f : Nat → Nat) : ∀ {n i : Nat}, i < n → f i ≤ mxs f n
  | 0, i, h => by omega
  | n + 1, i, h => by
    rw [mxs]
    by_cases e : i = n
    · subst e; split <;> omega
    · have := mxs_le f (n := n) (i := i) (by omega)
      split <;> omega
theorem mxs_is (f : Nat → Nat) : ∀ n, mxs f n = 0 ∨ ∃ i, i < n ∧ f i = mxs f n
  | 0 => Or.inl rfl
  | n + 1 => by
    rw [mxs]
    split
    · exact Or.inr ⟨n, by omega, rfl⟩
    · rcases mxs_is f n with h | ⟨i, hi, e⟩
      · exact Or.inl h
      · exact Or.inr ⟨i, by omega, e⟩
theorem mxs_bd {f : Nat → Nat} {b : Nat} : ∀ {n : Nat}, (∀ i, i < n → f i ≤ b) → mxs f n ≤ b
  | 0, _ => Nat.zero_le _
  | n + 1, h => by
    rw [mxs]
    split
    · exact h n (by omega)
    · exact mxs_bd (fun i hi => h i (by omega))
/-- roads at a post, and the most -/
def dg (fs sc : Nat → Nat) (n q : Nat) : Nat := fb_ct (fun r => E fs sc r q) n
def fulln (fs sc : Nat → Nat) (n p : Nat) : Nat := mxs (dg fs sc n) p
theorem fulln_le (fs sc : Nat → Nat) (n p : Nat) : fulln fs sc n p ≤ n := mxs_bd (fun i _ => fb_ct_le _ _)
section FULL
variable {n p : Nat} {fs sc : Nat → Nat} {F S : Nat → Int32}
theorem m_full (h : EndsOK n p fs sc F S) : FX8_fullOf (nI p) (nI n) F S = some (nI (fulln fs sc n p)) := by
  have hn := h.1
  have hp := h.2.1
  have hb : ∀ i, mxs (dg fs sc n) i ≤ n := fun i => mxs_bd (fun i _ => fb_ct_le _ _)
  refine for_fun (fun i => (nI (mxs (dg fs sc n) i), nI i)) 0 p (Nat.zero_le _) (fun i _ hi => ?_) ?_
  · have h1 := hb i
    have h2 : fb_ct (fun r => E fs sc r i) n ≤ n := fb_ct_le _ _
    simp (disch := omega) only [X8_fullOf_L4, nI_leI, Nat.not_le.mpr hi, ↓reduceIte, m_roadsAt h, Option.bind_some, bnd, nI_1, mxs]
    show (if dg fs sc n i ≤ mxs (dg fs sc n) i then _ else _) = _
    by_cases e : dg fs sc n i ≤ mxs (dg fs sc n) i
    · rw [if_pos e, if_neg (by omega)]
    · rw [if_neg e, if_pos (by omega)]; rfl
  · simp only [X8_fullOf_L4, Int32.le_refl, ↓reduceIte]; rfl
theorem x_full {At : Nat → Int32} (hn : n ≤ 24) (hp : p ≤ 12) (hA : AtOK n p fs sc At) : FX3_fullest (nI p) At = some (nI (fulln fs sc n p)) := by
  have hb : ∀ i, mxs (dg fs sc n) i ≤ n := fun i => mxs_bd (fun i _ => fb_ct_le _ _)
  refine for_fun (fun i => (nI (mxs (dg fs sc n) i), nI i)) 0 p (Nat.zero_le _) (fun i _ hi => ?_) ?_
  · have h1 := hb i
    have h2 : fb_ct (fun r => E fs sc r i) n ≤ n := fb_ct_le _ _
    have hm : mk (fun r => E fs sc r i) n < 2 ^ 32 := Nat.lt_of_lt_of_le (mk_lt _ n) (Nat.pow_le_pow_right (by decide) (by omega))
    simp (disch := omega) only [X3_fullest_L4, nI_leI, nI_ltI, Nat.not_le.mpr hi, ↓reduceIte, rd_nI, hA i hi, bc_nI hm, pcn_mk, Option.bind_some, bnd, nI_1, mxs]
    show some (Sum.inl ((if mxs (dg fs sc n) i < dg fs sc n i then nI (dg fs sc n i) else nI (mxs (dg fs sc n) i)), _)) = _
    split <;> rfl
  · simp only [X3_fullest_L4, Int32.le_refl, ↓reduceIte]; rfl
/-- two roads between the same posts -/
def dbl (fs sc : Nat → Nat) (r q : Nat) : Bool := E fs sc r (fs q) && E fs sc r (sc q)
def plainB (fs sc : Nat → Nat) (n : Nat) : Bool := !(ex (fun r => ex (fun q => dbl fs sc r q) r) n)
theorem m_plain (h : EndsOK n p fs sc F S) : FX8_isPlain (nI n) F S = some (if plainB fs sc n then 1 else 0) := by
  have hn := h.1
  have hp := h.2.1
  have e : (if plainB fs sc n then (1 : Int32) else 0) = (if fa_first (fun r => ex (fun q => dbl fs sc r q) r) n < n then 0 else 1) := by
    unfold plainB ex
    by_cases q : fa_first (fun r => decide (fa_first (fun q => dbl fs sc r q) r < r)) n < n <;> simp [q]
  rw [e]
  have inner : ∀ i, i < n → loopO (X8_isPlain_L12 (nI n) F S (nI i)) 0 = some (if ex (fun q => dbl fs sc i q) i then .inr 0 else .inl (nI (i + 1))) := by
    intro i hi
    have key := find_fun (f := X8_isPlain_L12 (nI n) F S (nI i)) (fun j => nI j) (fun q => dbl fs sc i q) i (fun _ => .inr 0) (.inl (nI (i + 1))) (fun j hj hq => ?_) (fun j hj hq => ?_) ?_
    · unfold ex
      simp only [decide_eq_true_eq]
      exact key
    · obtain ⟨e1, e2, e3, e4, -⟩ := h.2.2 j (by omega)
      simp (disch := omega) only [X8_isPlain_L12, nI_leI, Nat.not_le.mpr hj, ↓reduceIte, rd_nI, e1, e2, ends_nI h hi, Option.bind_some, b1, bnd, nI_1]
      unfold dbl at hq
      cases hx : E fs sc i (fs j)
      · simp
      · rw [hx] at hq
        simp only [Bool.true_and] at hq
        simp [hq]
    · obtain ⟨e1, e2, e3, e4, -⟩ := h.2.2 j (by omega)
      simp (disch := omega) only [X8_isPlain_L12, nI_leI, Nat.not_le.mpr hj, ↓reduceIte, rd_nI, e1, e2, ends_nI h hi, Option.bind_some, b1, bnd, nI_1]
      unfold dbl at hq
      simp only [Bool.and_eq_true] at hq
      simp [hq.1, hq.2]
    · simp only [X8_isPlain_L12, Int32.le_refl, ↓reduceIte, bnd, nI_1]
  refine find_fun (fun i => nI i) _ n (fun _ => 0) 1 (fun i hi hq => ?_) (fun i hi hq => ?_) ?_
  · simp (disch := omega) only [X8_isPlain_L2, nI_leI, Nat.not_le.mpr hi, ↓reduceIte, inner i hi, hq]
    simp
  · simp (disch := omega) only [X8_isPlain_L2, nI_leI, Nat.not_le.mpr hi, ↓reduceIte, inner i hi, hq]
  · simp only [X8_isPlain_L2, Int32.le_refl, ↓reduceIte]
theorem dbl_iff (h : EndsOK n p fs sc F S) {r q : Nat} (hr : r < n) (hq : q < n) : dbl fs sc r q = true ↔ (E fs sc q (fs r) && E fs sc q (sc r)) = true := by
  obtain ⟨-, -, -, -, d1⟩ := h.2.2 r hr
  obtain ⟨-, -, -, -, d2⟩ := h.2.2 q hq
  unfold dbl E
  simp only [Bool.and_eq_true, Bool.or_eq_true, beq_iff_eq]
  omega
theorem plain_iff (h : EndsOK n p fs sc F S) : plainB fs sc n = true ↔ ∀ r q, r < n → q < n → dbl fs sc r q = true → r = q := by
  unfold plainB
  rw [Bool.not_eq_true', ex_false]
  constructor
  · intro hx r q hr hq hd
    rcases Nat.lt_trichotomy q r with e | e | e
    · have := ex_false.mp (hx r hr) q e
      rw [hd] at this; cases this
    · exact e.symm
    · have := ex_false.mp (hx q hq) r e
      have h2 : dbl fs sc q r = true := by
        have := (dbl_iff h hr hq).mp hd
        exact this
      rw [h2] at this; cases this
  · intro hx r hr
    refine ex_false.mpr (fun q hq => ?_)
    cases e : dbl fs sc r q
    · rfl
    · have := hx r q hr (by omega) e; omega
theorem x_plain {At : Nat → Int32} (h : EndsOK n p fs sc F S) (hA : AtOK n p fs sc At) : FX3_isPlain (nI n) F S At = some (if plainB fs sc n then 1 else 0) := by
  have hn := h.1
  have hp := h.2.1
  have hmk : ∀ r, r < n → (pcn (mk (fun s => E fs sc s (fs r)) n &&& mk (fun s => E fs sc s (sc r)) n) ≤ 1 ↔ ∀ q, q < n → dbl fs sc r q = true → r = q) := by
    intro r hr
    have e : mk (fun s => E fs sc s (fs r)) n &&& mk (fun s => E fs sc s (sc r)) n = mk (fun s => E fs sc s (fs r) && E fs sc s (sc r)) n :=
      bits_eq (k := n) (and_lt_l (mk_lt _ n)) (mk_lt _ n) (fun i hi => by rw [Nat.testBit_and, mk_bit, mk_bit, mk_bit]; simp [hi])
    rw [e, pcn_mk _ (by omega)]
    have hself : (E fs sc r (fs r) && E fs sc r (sc r)) = true := by unfold E; simp
    constructor
    · intro hle q hq hd
      rcases Nat.decEq r q with hne | heq
      · exfalso
        have d2 := (dbl_iff h hr hq).mp hd
        have a := fb_ct_upd (fun s => decide (s = r)) true (i := q) hq
        have b : fb_ct (fun s => decide (s = r)) n = 1 := by
          have := fb_ct_upd (fun _ => false) true (i := r) hr
          have z : fb_ct (fun _ => false) n = 0 := fb_ct_zero.mpr (fun _ _ => rfl)
          rw [z] at this
          have c : fb_ct (fun k => if k = r then true else false) n = fb_ct (fun s => decide (s = r)) n := fb_ct_cong (fun k _ => by by_cases e : k = r <;> simp [e])
          rw [c] at this
          simpa using this
        have hqr : ¬ q = r := fun e => hne e.symm
        simp only [hqr, decide_false, Bool.false_eq_true, ↓reduceIte, Nat.add_zero, b] at a
        have c : fb_ct (fun k => if k = q then true else decide (k = r)) n ≤ fb_ct (fun s => E fs sc s (fs r) && E fs sc s (sc r)) n := fb_ct_sub (fun k hk hx => by
          by_cases e : k = q
          · rw [e]; exact d2
          · rw [if_neg e] at hx
            rw [of_decide_eq_true hx]; exact hself)
        omega
      · exact heq
    · intro hx
      have : fb_ct (fun s => E fs sc s (fs r) && E fs sc s (sc r)) n ≤ fb_ct (fun s => decide (s = r)) n := fb_ct_sub (fun k hk hh => by
        have := hx k hk ((dbl_iff h hr hk).mpr hh)
        exact decide_eq_true this.symm)
      have b : fb_ct (fun s => decide (s = r)) n = 1 := by
        have := fb_ct_upd (fun _ => false) true (i := r) hr
        have z : fb_ct (fun _ => false) n = 0 := fb_ct_zero.mpr (fun _ _ => rfl)
        rw [z] at this
        have c : fb_ct (fun k => if k = r then true else false) n = fb_ct (fun s => decide (s = r)) n := fb_ct_cong (fun k _ => by by_cases e : k = r <;> simp [e])
        rw [c] at this
        simpa using this
      omega
  obtain ⟨P, hP⟩ : ∃ P : Nat → Bool, P = fun r => !(decide (pcn (mk (fun s => E fs sc s (fs r)) n &&& mk (fun s => E fs sc s (sc r)) n) ≤ 1)) := ⟨_, rfl⟩
  have e : (if plainB fs sc n then (1 : Int32) else 0) = (if fa_first P n < n then 0 else 1) := by
    by_cases q : fa_first P n < n
    · rw [if_pos q]
      have h1 := fa_first_yes P n q
      rw [hP] at h1
      have h2 : ¬ pcn (mk (fun s => E fs sc s (fs (fa_first P n))) n &&& mk (fun s => E fs sc s (sc (fa_first P n))) n) ≤ 1 := by
        rw [hP]; simpa using h1
      have : plainB fs sc n = false := by
        cases e2 : plainB fs sc n
        · rfl
        · exact absurd ((hmk _ q).mpr (fun z hz hd => (plain_iff h).mp e2 _ z q hz hd)) h2
      rw [this]; simp
    · rw [if_neg q]
      have : plainB fs sc n = true := by
        rw [plain_iff h]
        intro r z hr hz hd
        have hle := fa_first_le P n
        have := fa_first_no P n r (by omega)
        rw [hP] at this
        exact (hmk r hr).mp (by simpa using this) z hz hd
      rw [this]; simp
  rw [e]
  have hm : ∀ r, (mk (fun s => E fs sc s (fs r)) n &&& mk (fun s => E fs sc s (sc r)) n) < 2 ^ n := fun r => and_lt_l (mk_lt _ n)
  have hpow : (2 : Nat) ^ n ≤ 2 ^ 24 := Nat.pow_le_pow_right (by decide) hn
  have hle : ∀ r, pcn (mk (fun s => E fs sc s (fs r)) n &&& mk (fun s => E fs sc s (sc r)) n) ≤ n := fun r => pcn_le (hm r) (by omega)
  refine find_fun (fun i => nI i) P n (fun _ => 0) 1 (fun i hi hq => ?_) (fun i hi hq => ?_) ?_
  · obtain ⟨e1, e2, e3, e4, -⟩ := h.2.2 i hi
    have h1 := hm i
    have h2 := hle i
    have h3 : pcn (mk (fun s => E fs sc s (fs i)) n &&& mk (fun s => E fs sc s (sc i)) n) ≤ 1 := by rw [hP] at hq; simpa using hq
    have h4 : (mk (fun s => E fs sc s (fs i)) n &&& mk (fun s => E fs sc s (sc i)) n) < 2 ^ 32 := by
      have : (2 : Nat) ^ 24 < 2 ^ 32 := by decide
      omega
    simp (disch := omega) only [X3_isPlain_L2, nI_leI, Nat.not_le.mpr hi, ↓reduceIte, rd_nI, e1, e2, hA (fs i) e3, hA (sc i) e4, fa_and, bc_nI h4, Option.bind_some, leR1, h3, bnd, nI_1]
  · obtain ⟨e1, e2, e3, e4, -⟩ := h.2.2 i hi
    have h1 := hm i
    have h2 := hle i
    have h3 : ¬ pcn (mk (fun s => E fs sc s (fs i)) n &&& mk (fun s => E fs sc s (sc i)) n) ≤ 1 := by rw [hP] at hq; simpa using hq
    have h4 : (mk (fun s => E fs sc s (fs i)) n &&& mk (fun s => E fs sc s (sc i)) n) < 2 ^ 32 := by
      have : (2 : Nat) ^ 24 < 2 ^ 32 := by decide
      omega
    simp (disch := omega) only [X3_isPlain_L2, nI_leI, Nat.not_le.mpr hi, ↓reduceIte, rd_nI, e1, e2, hA (fs i) e3, hA (sc i) e4, fa_and, bc_nI h4, Option.bind_some, leR1, h3, bnd, nI_1]
  · simp only [X3_isPlain_L2, Int32.le_refl, ↓reduceIte]
end FULL
