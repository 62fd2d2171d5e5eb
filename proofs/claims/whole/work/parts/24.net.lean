/-! ===== nets: ends, touching, and the small functions of both sides ===== -/
theorem leL0 {i : Nat} (hi : i < 2 ^ 31) : (0 : Int32) ≤ nI i ↔ 0 ≤ i := nI_leI (by decide) hi
theorem ltL0 {i : Nat} (hi : i < 2 ^ 31) : (0 : Int32) < nI i ↔ 0 < i := nI_ltI (by decide) hi
theorem leR0 {i : Nat} (hi : i < 2 ^ 31) : nI i ≤ (0 : Int32) ↔ i ≤ 0 := nI_leI hi (by decide)
theorem ltR0 {i : Nat} (hi : i < 2 ^ 31) : nI i < (0 : Int32) ↔ i < 0 := nI_ltI hi (by decide)
theorem eqR0 {i : Nat} (hi : i < 2 ^ 31) : nI i = (0 : Int32) ↔ i = 0 := nI_eq hi (by decide)
theorem leL1 {i : Nat} (hi : i < 2 ^ 31) : (1 : Int32) ≤ nI i ↔ 1 ≤ i := nI_leI (by decide) hi
theorem ltL1 {i : Nat} (hi : i < 2 ^ 31) : (1 : Int32) < nI i ↔ 1 < i := nI_ltI (by decide) hi
theorem leR1 {i : Nat} (hi : i < 2 ^ 31) : nI i ≤ (1 : Int32) ↔ i ≤ 1 := nI_leI hi (by decide)
theorem ltR1 {i : Nat} (hi : i < 2 ^ 31) : nI i < (1 : Int32) ↔ i < 1 := nI_ltI hi (by decide)
theorem eqR1 {i : Nat} (hi : i < 2 ^ 31) : nI i = (1 : Int32) ↔ i = 1 := nI_eq hi (by decide)
theorem leL2 {i : Nat} (hi : i < 2 ^ 31) : (2 : Int32) ≤ nI i ↔ 2 ≤ i := nI_leI (by decide) hi
theorem ltL2 {i : Nat} (hi : i < 2 ^ 31) : (2 : Int32) < nI i ↔ 2 < i := nI_ltI (by decide) hi
theorem leR2 {i : Nat} (hi : i < 2 ^ 31) : nI i ≤ (2 : Int32) ↔ i ≤ 2 := nI_leI hi (by decide)
theorem ltR2 {i : Nat} (hi : i < 2 ^ 31) : nI i < (2 : Int32) ↔ i < 2 := nI_ltI hi (by decide)
theorem eqR2 {i : Nat} (hi : i < 2 ^ 31) : nI i = (2 : Int32) ↔ i = 2 := nI_eq hi (by decide)
theorem leL3 {i : Nat} (hi : i < 2 ^ 31) : (3 : Int32) ≤ nI i ↔ 3 ≤ i := nI_leI (by decide) hi
theorem ltL3 {i : Nat} (hi : i < 2 ^ 31) : (3 : Int32) < nI i ↔ 3 < i := nI_ltI (by decide) hi
theorem leR3 {i : Nat} (hi : i < 2 ^ 31) : nI i ≤ (3 : Int32) ↔ i ≤ 3 := nI_leI hi (by decide)
theorem ltR3 {i : Nat} (hi : i < 2 ^ 31) : nI i < (3 : Int32) ↔ i < 3 := nI_ltI hi (by decide)
theorem eqR3 {i : Nat} (hi : i < 2 ^ 31) : nI i = (3 : Int32) ↔ i = 3 := nI_eq hi (by decide)
theorem leL8 {i : Nat} (hi : i < 2 ^ 31) : (8 : Int32) ≤ nI i ↔ 8 ≤ i := nI_leI (by decide) hi
theorem ltL8 {i : Nat} (hi : i < 2 ^ 31) : (8 : Int32) < nI i ↔ 8 < i := nI_ltI (by decide) hi
theorem leR8 {i : Nat} (hi : i < 2 ^ 31) : nI i ≤ (8 : Int32) ↔ i ≤ 8 := nI_leI hi (by decide)
theorem ltR8 {i : Nat} (hi : i < 2 ^ 31) : nI i < (8 : Int32) ↔ i < 8 := nI_ltI hi (by decide)
theorem eqR8 {i : Nat} (hi : i < 2 ^ 31) : nI i = (8 : Int32) ↔ i = 8 := nI_eq hi (by decide)
theorem leL9 {i : Nat} (hi : i < 2 ^ 31) : (9 : Int32) ≤ nI i ↔ 9 ≤ i := nI_leI (by decide) hi
theorem ltL9 {i : Nat} (hi : i < 2 ^ 31) : (9 : Int32) < nI i ↔ 9 < i := nI_ltI (by decide) hi
theorem leR9 {i : Nat} (hi : i < 2 ^ 31) : nI i ≤ (9 : Int32) ↔ i ≤ 9 := nI_leI hi (by decide)
theorem ltR9 {i : Nat} (hi : i < 2 ^ 31) : nI i < (9 : Int32) ↔ i < 9 := nI_ltI hi (by decide)
theorem eqR9 {i : Nat} (hi : i < 2 ^ 31) : nI i = (9 : Int32) ↔ i = 9 := nI_eq hi (by decide)
theorem leL10 {i : Nat} (hi : i < 2 ^ 31) : (10 : Int32) ≤ nI i ↔ 10 ≤ i := nI_leI (by decide) hi
theorem ltL10 {i : Nat} (hi : i < 2 ^ 31) : (10 : Int32) < nI i ↔ 10 < i := nI_ltI (by decide) hi
theorem leR10 {i : Nat} (hi : i < 2 ^ 31) : nI i ≤ (10 : Int32) ↔ i ≤ 10 := nI_leI hi (by decide)
theorem ltR10 {i : Nat} (hi : i < 2 ^ 31) : nI i < (10 : Int32) ↔ i < 10 := nI_ltI hi (by decide)
theorem eqR10 {i : Nat} (hi : i < 2 ^ 31) : nI i = (10 : Int32) ↔ i = 10 := nI_eq hi (by decide)
theorem leL12 {i : Nat} (hi : i < 2 ^ 31) : (12 : Int32) ≤ nI i ↔ 12 ≤ i := nI_leI (by decide) hi
theorem ltL12 {i : Nat} (hi : i < 2 ^ 31) : (12 : Int32) < nI i ↔ 12 < i := nI_ltI (by decide) hi
theorem leR12 {i : Nat} (hi : i < 2 ^ 31) : nI i ≤ (12 : Int32) ↔ i ≤ 12 := nI_leI hi (by decide)
theorem ltR12 {i : Nat} (hi : i < 2 ^ 31) : nI i < (12 : Int32) ↔ i < 12 := nI_ltI hi (by decide)
theorem eqR12 {i : Nat} (hi : i < 2 ^ 31) : nI i = (12 : Int32) ↔ i = 12 := nI_eq hi (by decide)
theorem leL15 {i : Nat} (hi : i < 2 ^ 31) : (15 : Int32) ≤ nI i ↔ 15 ≤ i := nI_leI (by decide) hi
theorem ltL15 {i : Nat} (hi : i < 2 ^ 31) : (15 : Int32) < nI i ↔ 15 < i := nI_ltI (by decide) hi
theorem leR15 {i : Nat} (hi : i < 2 ^ 31) : nI i ≤ (15 : Int32) ↔ i ≤ 15 := nI_leI hi (by decide)
theorem ltR15 {i : Nat} (hi : i < 2 ^ 31) : nI i < (15 : Int32) ↔ i < 15 := nI_ltI hi (by decide)
theorem eqR15 {i : Nat} (hi : i < 2 ^ 31) : nI i = (15 : Int32) ↔ i = 15 := nI_eq hi (by decide)
theorem leL16 {i : Nat} (hi : i < 2 ^ 31) : (16 : Int32) ≤ nI i ↔ 16 ≤ i := nI_leI (by decide) hi
theorem ltL16 {i : Nat} (hi : i < 2 ^ 31) : (16 : Int32) < nI i ↔ 16 < i := nI_ltI (by decide) hi
theorem leR16 {i : Nat} (hi : i < 2 ^ 31) : nI i ≤ (16 : Int32) ↔ i ≤ 16 := nI_leI hi (by decide)
theorem ltR16 {i : Nat} (hi : i < 2 ^ 31) : nI i < (16 : Int32) ↔ i < 16 := nI_ltI hi (by decide)
theorem eqR16 {i : Nat} (hi : i < 2 ^ 31) : nI i = (16 : Int32) ↔ i = 16 := nI_eq hi (by decide)
theorem leL20 {i : Nat} (hi : i < 2 ^ 31) : (20 : Int32) ≤ nI i ↔ 20 ≤ i := nI_leI (by decide) hi
theorem ltL20 {i : Nat} (hi : i < 2 ^ 31) : (20 : Int32) < nI i ↔ 20 < i := nI_ltI (by decide) hi
theorem leR20 {i : Nat} (hi : i < 2 ^ 31) : nI i ≤ (20 : Int32) ↔ i ≤ 20 := nI_leI hi (by decide)
theorem ltR20 {i : Nat} (hi : i < 2 ^ 31) : nI i < (20 : Int32) ↔ i < 20 := nI_ltI hi (by decide)
theorem eqR20 {i : Nat} (hi : i < 2 ^ 31) : nI i = (20 : Int32) ↔ i = 20 := nI_eq hi (by decide)
theorem leL24 {i : Nat} (hi : i < 2 ^ 31) : (24 : Int32) ≤ nI i ↔ 24 ≤ i := nI_leI (by decide) hi
theorem ltL24 {i : Nat} (hi : i < 2 ^ 31) : (24 : Int32) < nI i ↔ 24 < i := nI_ltI (by decide) hi
theorem leR24 {i : Nat} (hi : i < 2 ^ 31) : nI i ≤ (24 : Int32) ↔ i ≤ 24 := nI_leI hi (by decide)
theorem ltR24 {i : Nat} (hi : i < 2 ^ 31) : nI i < (24 : Int32) ↔ i < 24 := nI_ltI hi (by decide)
theorem eqR24 {i : Nat} (hi : i < 2 ^ 31) : nI i = (24 : Int32) ↔ i = 24 := nI_eq hi (by decide)
theorem leL300 {i : Nat} (hi : i < 2 ^ 31) : (300 : Int32) ≤ nI i ↔ 300 ≤ i := nI_leI (by decide) hi
theorem ltL300 {i : Nat} (hi : i < 2 ^ 31) : (300 : Int32) < nI i ↔ 300 < i := nI_ltI (by decide) hi
theorem leR300 {i : Nat} (hi : i < 2 ^ 31) : nI i ≤ (300 : Int32) ↔ i ≤ 300 := nI_leI hi (by decide)
theorem ltR300 {i : Nat} (hi : i < 2 ^ 31) : nI i < (300 : Int32) ↔ i < 300 := nI_ltI hi (by decide)
theorem eqR300 {i : Nat} (hi : i < 2 ^ 31) : nI i = (300 : Int32) ↔ i = 300 := nI_eq hi (by decide)
theorem leL65535 {i : Nat} (hi : i < 2 ^ 31) : (65535 : Int32) ≤ nI i ↔ 65535 ≤ i := nI_leI (by decide) hi
theorem ltL65535 {i : Nat} (hi : i < 2 ^ 31) : (65535 : Int32) < nI i ↔ 65535 < i := nI_ltI (by decide) hi
theorem leR65535 {i : Nat} (hi : i < 2 ^ 31) : nI i ≤ (65535 : Int32) ↔ i ≤ 65535 := nI_leI hi (by decide)
theorem ltR65535 {i : Nat} (hi : i < 2 ^ 31) : nI i < (65535 : Int32) ↔ i < 65535 := nI_ltI hi (by decide)
theorem eqR65535 {i : Nat} (hi : i < 2 ^ 31) : nI i = (65535 : Int32) ↔ i = 65535 := nI_eq hi (by decide)
theorem find_fun2 {σ ρ : Type} {f : σ → Option (σ ⊕ ρ)} (pk : Nat → σ) (p : Nat → Bool) (n : Nat) (hit : Nat → ρ) (h0 : ∀ i, i < n → p i = false → f (pk i) = some (.inl (pk (i + 1)))) (h1 : ∀ i, i < n → p i = true → f (pk i) = some (.inr (hit i))) (he : f (pk n) = some (.inr (hit n))) : loopO f (pk 0) = some (hit (fa_first p n)) := by
  have hl := fa_first_le p n
  rw [find_fun pk p n hit (hit n) h0 h1 he]
  generalize fa_first p n = z at *
  by_cases h : z < n
  · rw [if_pos h]
  · rw [if_neg h, show z = n by omega]
def E (fs sc : Nat → Nat) (r q : Nat) : Bool := fs r == q || sc r == q
def T (fs sc : Nat → Nat) (r s : Nat) : Bool := E fs sc r (fs s) || E fs sc r (sc s)
def adj (fs sc : Nat → Nat) (r s : Nat) : Bool := !(r == s) && T fs sc r s
def EndsOK (n p : Nat) (fs sc : Nat → Nat) (F S : Nat → Int32) : Prop := n ≤ 24 ∧ p ≤ 12 ∧ ∀ r, r < n → F r = nI (fs r) ∧ S r = nI (sc r) ∧ fs r < p ∧ sc r < p ∧ fs r ≠ sc r
def AtOK (n p : Nat) (fs sc : Nat → Nat) (At : Nat → Int32) : Prop := ∀ q, q < p → At q = nI (mk (fun r => E fs sc r q) n)
def BsOK (n : Nat) (fs sc : Nat → Nat) (Bs : Nat → Int32) : Prop := ∀ r, r < n → Bs r = nI (mk (fun s => adj fs sc r s) n)
def NumOK (n : Nat) (c : Nat → Int32) : Prop := ∀ r, r < n → c r = -1 ∨ ∃ k, k < 16 ∧ c r = nI k
def ex (P : Nat → Bool) (n : Nat) : Bool := decide (fa_first P n < n)
theorem ex_true {P : Nat → Bool} {n : Nat} : ex P n = true ↔ ∃ r, r < n ∧ P r = true := by
  unfold ex
  rw [decide_eq_true_iff]
  constructor
  · intro h; exact ⟨_, h, fa_first_yes P n h⟩
  · rintro ⟨r, h1, h2⟩
    rcases Nat.lt_or_ge r (fa_first P n) with h | h
    · rw [fa_first_no P n r h] at h2; cases h2
    · omega
theorem ex_false {P : Nat → Bool} {n : Nat} : ex P n = false ↔ ∀ r, r < n → P r = false := by
  constructor
  · intro h r hr
    cases hP : P r with
    | false => rfl
    | true => rw [ex_true.mpr ⟨r, hr, hP⟩] at h; cases h
  · intro h
    cases hE : ex P n with
    | false => rfl
    | true =>
      obtain ⟨r, h1, h2⟩ := ex_true.mp hE
      rw [h r h1] at h2; cases h2
theorem ex_succ (P : Nat → Bool) (n : Nat) : ex P (n + 1) = (ex P n || P n) := by
  rw [Bool.eq_iff_iff, ex_true, Bool.or_eq_true, ex_true]
  constructor
  · rintro ⟨r, h1, h2⟩
    rcases Nat.lt_or_ge r n with h | h
    · exact Or.inl ⟨r, h, h2⟩
    · obtain rfl : r = n := by omega
      exact Or.inr h2
  · rintro (⟨r, h1, h2⟩ | h)
    · exact ⟨r, by omega, h2⟩
    · exact ⟨n, by omega, h⟩
theorem ex_cong {P Q : Nat → Bool} {n : Nat} (h : ∀ r, r < n → P r = Q r) : ex P n = ex Q n := by unfold ex; rw [first_cong h]
def enc (n : Nat) (P : Nat → Bool) : Int32 := if fa_first P n < n then nI (fa_first P n) else -1
theorem enc_neg {n : Nat} {P : Nat → Bool} (hn : n < 2 ^ 31) : enc n P < 0 ↔ ex P n = false := by
  unfold enc ex
  by_cases h : fa_first P n < n
  · rw [if_pos h]
    constructor
    · intro q; exact absurd q (nI_pos (by omega))
    · intro q; rw [decide_eq_true h] at q; cases q
  · rw [if_neg h, decide_eq_false h]
    exact ⟨fun _ => rfl, fun _ => by decide⟩
theorem enc_m1 {n : Nat} {P : Nat → Bool} (hn : n < 2 ^ 31) : enc n P = -1 ↔ ex P n = false := by
  unfold enc ex
  by_cases h : fa_first P n < n
  · rw [if_pos h]
    constructor
    · intro q; exact absurd q (m1_ne (by omega))
    · intro q; rw [decide_eq_true h] at q; cases q
  · rw [if_neg h, decide_eq_false h]
    exact ⟨fun _ => rfl, fun _ => rfl⟩
theorem b1 (b : Bool) : ((if b then (1 : Int32) else 0) = 0) ↔ b = false := by cases b <;> decide
section ENDS
variable {n p : Nat} {fs sc : Nat → Nat} {F S : Nat → Int32} (h : EndsOK n p fs sc F S)
theorem ends_nI (h : EndsOK n p fs sc F S) {r q : Nat} (hr : r < n) (hq : q < 2 ^ 31) : FX8_ends F S (nI r) (nI q) = some (if E fs sc r q then 1 else 0) := by
  obtain ⟨h1, h2, h3⟩ := h
  obtain ⟨e1, e2, e3, e4, -⟩ := h3 r hr
  unfold FX8_ends E
  rw [rd_nI (by omega) (by decide), e1]
  by_cases ha : fs r = q
  · rw [if_pos (by rw [ha])]; simp [ha]
  · rw [if_neg (fun q' => ha ((nI_eq (by omega) hq).mp q')), rd_nI (by omega) (by decide), e2]
    by_cases hb : sc r = q
    · rw [if_pos (by rw [hb])]; simp [hb]
    · rw [if_neg (fun q' => hb ((nI_eq (by omega) hq).mp q'))]; simp [ha, hb]
theorem meet_nI (h : EndsOK n p fs sc F S) {r s : Nat} (hr : r < n) (hs : s < n) : FX8_meet F S (nI r) (nI s) = some (if T fs sc r s then 1 else 0) := by
  obtain ⟨e1, e2, e3, e4, -⟩ := h.2.2 s hs
  have h1 := h.1
  have h2 := h.2.1
  unfold FX8_meet T
  rw [rd_nI (by omega) (by decide), e1, ends_nI h hr (by omega)]
  simp only [Option.bind_some, b1]
  cases hA : E fs sc r (fs s)
  · simp only [if_true]
    rw [rd_nI (by omega) (by decide), e2, ends_nI h hr (by omega)]
    cases hB : E fs sc r (sc s) <;> simp
  · simp
theorem T_symm {fs sc : Nat → Nat} (r s : Nat) : T fs sc r s = T fs sc s r := by
  unfold T E
  rw [Bool.eq_iff_iff]
  simp only [Bool.or_eq_true, beq_iff_eq]
  constructor <;> (rintro ((a | a) | (a | a)) <;> simp [a])
theorem adj_symm {fs sc : Nat → Nat} (r s : Nat) : adj fs sc r s = adj fs sc s r := by
  unfold adj
  rw [T_symm r s]
  congr 2
  rw [Bool.eq_iff_iff]
  simp only [beq_iff_eq]
  exact eq_comm
theorem m_roadsAt (h : EndsOK n p fs sc F S) {q : Nat} (hq : q < 2 ^ 31) : FX8_roadsAt (nI n) F S (nI q) = some (nI (fb_ct (fun r => E fs sc r q) n)) := by
  have h1 := h.1
  refine for_fun (fun i => (nI (fb_ct (fun r => E fs sc r q) i), nI i)) 0 n (Nat.zero_le _) (fun i _ hi => ?_) ?_
  · simp (disch := omega) only [X8_roadsAt_L4, nI_leI, Nat.not_le.mpr hi, ↓reduceIte, ends_nI h hi hq, Option.bind_some, b1, bnd, nI_1, fb_ct_succ]
    cases E fs sc i q
    · simp [Int32.add_zero]
    · simp [nI_1]
  · simp only [X8_roadsAt_L4, Int32.le_refl, ↓reduceIte]
theorem m_with {c : Nat → Int32} (h : EndsOK n p fs sc F S) {q : Nat} (hq : q < 2 ^ 31) (k : Int32) : FX8_with (nI n) F S c (nI q) k = some (enc n (fun r => E fs sc r q && decide (c r = k))) := by
  have h1 := h.1
  unfold enc
  refine find_fun (fun i => nI i) (fun r => E fs sc r q && decide (c r = k)) n (fun i => nI i) (-1) (fun i hi hp => ?_) (fun i hi hp => ?_) ?_
  · simp (disch := omega) only [X8_with_L2, nI_leI, Nat.not_le.mpr hi, ↓reduceIte, ends_nI h hi hq, Option.bind_some, b1, bnd, nI_1, rd_nI]
    cases hE : E fs sc i q
    · simp
    · rw [hE] at hp
      simp at hp
      simp [hp]
  · simp (disch := omega) only [X8_with_L2, nI_leI, Nat.not_le.mpr hi, ↓reduceIte, ends_nI h hi hq, Option.bind_some, b1, bnd, nI_1, rd_nI]
    simp at hp
    simp [hp]
  · simp only [X8_with_L2, Int32.le_refl, ↓reduceIte]
theorem m_leastFree {c : Nat → Int32} (h : EndsOK n p fs sc F S) {q : Nat} (hq : q < 2 ^ 31) : FX8_leastFree (nI n) F S c (nI q) = some (nI (fa_first (fun k => !(ex (fun r => E fs sc r q && decide (c r = nI k)) n)) 16)) := by
  have h1 := h.1
  refine find_fun2 (f := X8_leastFree_L2 (nI n) F S c (nI q)) (fun i => nI i) (fun k => !(ex (fun r => E fs sc r q && decide (c r = nI k)) n)) 16 (fun i => nI i) (fun i hi hp => ?_) (fun i hi hp => ?_) ?_
  · have hx : ex (fun r => E fs sc r q && decide (c r = nI i)) n = true := by simpa using hp
    simp (disch := omega) only [X8_leastFree_L2, leL16, Nat.not_le.mpr hi, ↓reduceIte, m_with h hq, Option.bind_some, enc_neg, hx, bnd, nI_1]
    simp
  · have hx : ex (fun r => E fs sc r q && decide (c r = nI i)) n = false := by simpa using hp
    simp (disch := omega) only [X8_leastFree_L2, leL16, Nat.not_le.mpr hi, ↓reduceIte, m_with h hq, Option.bind_some, enc_neg, hx, bnd, nI_1]
  · simp (disch := omega) only [X8_leastFree_L2, leL16, Nat.le_refl, ↓reduceIte]
theorem m_isClash {c : Nat → Int32} (h : EndsOK n p fs sc F S) (hc : NumOK n c) {r : Nat} (hr : r < n) : FX8_isClash (nI n) F S c (nI r) = some (if ex (fun q => adj fs sc r q && (decide (c q = c r) && !decide (c r = -1))) n then 1 else 0) := by
  have h1 := h.1
  have e : (if ex (fun q => adj fs sc r q && (decide (c q = c r) && !decide (c r = -1))) n then (1 : Int32) else 0) = (if fa_first (fun q => adj fs sc r q && (decide (c q = c r) && !decide (c r = -1))) n < n then 1 else 0) := by
    unfold ex; simp only [decide_eq_true_eq]
  rw [e]
  have hlt : c r < 0 ↔ c r = -1 := by
    rcases hc r hr with e | ⟨k, hk, e⟩
    · rw [e]; decide
    · rw [e]; constructor
      · intro q; exact absurd q (nI_pos (by omega))
      · intro q; exact absurd q (m1_ne (by omega))
  refine find_fun (fun i => nI i) _ n (fun _ => 1) 0 (fun i hi hp => ?_) (fun i hi hp => ?_) ?_
  · simp (disch := omega) only [X8_isClash_L2, nI_leI, Nat.not_le.mpr hi, ↓reduceIte, bnd, nI_1, rd_nI, nI_eq, hlt, meet_nI h hr hi, Option.bind_some, b1]
    by_cases e1 : i = r
    · simp [e1]
    · simp only [e1, ↓reduceIte]
      by_cases e2 : c r = -1
      · simp [e2]
      · simp only [e2, ↓reduceIte]
        by_cases e3 : c i = c r
        · simp only [e3, ↓reduceIte]
          unfold adj at hp
          have : T fs sc r i = false := by
            cases hT : T fs sc r i with
            | false => rfl
            | true => simp [hT, e2, e3] at hp; omega
          simp [this]
        · simp [e3]
  · simp (disch := omega) only [X8_isClash_L2, nI_leI, Nat.not_le.mpr hi, ↓reduceIte, bnd, nI_1, rd_nI, nI_eq, hlt, meet_nI h hr hi, Option.bind_some, b1]
    unfold adj at hp
    simp at hp
    obtain ⟨⟨e1, e2⟩, e3, e4⟩ := hp
    have e5 : ¬ i = r := fun q => e1 q.symm
    simp [e5, e4, e3, e2]
  · simp only [X8_isClash_L2, Int32.le_refl, ↓reduceIte]
theorem m_clashing {c : Nat → Int32} (h : EndsOK n p fs sc F S) (hc : NumOK n c) : FX8_clashing (nI n) F S c = some (enc n (fun r => ex (fun q => adj fs sc r q && (decide (c q = c r) && !decide (c r = -1))) n)) := by
  have h1 := h.1
  unfold enc
  refine find_fun (fun i => nI i) (fun r => ex (fun q => adj fs sc r q && (decide (c q = c r) && !decide (c r = -1))) n) n (fun i => nI i) (-1) (fun i hi hp => ?_) (fun i hi hp => ?_) ?_
  · simp (disch := omega) only [X8_clashing_L2, nI_leI, Nat.not_le.mpr hi, ↓reduceIte, bnd, nI_1, m_isClash h hc hi, Option.bind_some, b1, hp]
  · simp (disch := omega) only [X8_clashing_L2, nI_leI, Nat.not_le.mpr hi, ↓reduceIte, bnd, nI_1, m_isClash h hc hi, Option.bind_some, b1, hp]
    simp
  · simp only [X8_clashing_L2, Int32.le_refl, ↓reduceIte]
theorem m_numbered {c : Nat → Int32} (hn : n ≤ 24) (hc : NumOK n c) : FX8_numbered (nI n) c = some (nI (fb_ct (fun r => !decide (c r = -1)) n)) := by
  refine for_fun (fun i => (nI (fb_ct (fun r => !decide (c r = -1)) i), nI i)) 0 n (Nat.zero_le _) (fun i _ hi => ?_) ?_
  · have hlt : c i < 0 ↔ c i = -1 := by
      rcases hc i hi with e | ⟨k, hk, e⟩
      · rw [e]; decide
      · rw [e]; constructor
        · intro q; exact absurd q (nI_pos (by omega))
        · intro q; exact absurd q (m1_ne (by omega))
    simp (disch := omega) only [X8_numbered_L4, nI_leI, Nat.not_le.mpr hi, ↓reduceIte, rd_nI, bnd, nI_1, fb_ct_succ, hlt]
    by_cases e : c i = -1
    · simp [e]
    · simp [e, nI_1]
  · simp only [X8_numbered_L4, Int32.le_refl, ↓reduceIte]
theorem x_numbered {c : Nat → Int32} (hn : n ≤ 24) : FX3_numberedRoads (nI n) c = some (nI (fb_ct (fun r => !decide (c r = -1)) n)) := by
  refine for_fun (fun i => (nI (fb_ct (fun r => !decide (c r = -1)) i), nI i)) 0 n (Nat.zero_le _) (fun i _ hi => ?_) ?_
  · simp (disch := omega) only [X3_numberedRoads_L4, nI_leI, Nat.not_le.mpr hi, ↓reduceIte, rd_nI, bnd, nI_1, fb_ct_succ]
    by_cases e : c i = -1
    · simp [e]
    · simp [e, nI_1]
  · simp only [X3_numberedRoads_L4, Int32.le_refl, ↓reduceIte]
/-! masks of the class -/
theorem x_roadsNumbered {c : Nat → Int32} (hn : n ≤ 24) (k : Int32) : FX3_roadsNumbered (nI n) c k = some (nI (mk (fun r => decide (c r = k)) n)) := by
  refine for_fun (fun i => (nI (mk (fun r => decide (c r = k)) i), nI i)) 0 n (Nat.zero_le _) (fun i _ hi => ?_) ?_
  · simp (disch := omega) only [X3_roadsNumbered_L4, nI_leI, Nat.not_le.mpr hi, ↓reduceIte, rd_nI, bnd, nI_1, sh_nI, fa_or, mk]
    by_cases e : c i = k
    · simp [e]
    · simp [e]
  · simp only [X3_roadsNumbered_L4, Int32.le_refl, ↓reduceIte]
theorem x_roadWith {c At : Nat → Int32} (h : EndsOK n p fs sc F S) (ha : AtOK n p fs sc At) {q : Nat} (hq : q < p) (k : Int32) : FX3_roadWith (nI n) c At (nI q) k = some (enc n (fun r => E fs sc r q && decide (c r = k))) := by
  have h1 := h.1
  have h2 := h.2.1
  have hm : mk (fun r => E fs sc r q) n < 2 ^ 31 := Nat.lt_of_lt_of_le (mk_lt _ n) (Nat.pow_le_pow_right (by decide) (by omega))
  unfold enc
  refine find_fun (fun i => nI i) (fun r => E fs sc r q && decide (c r = k)) n (fun i => nI i) (-1) (fun i hi hp => ?_) (fun i hi hp => ?_) ?_
  · simp (disch := omega) only [X3_roadWith_L2, nI_leI, Nat.not_le.mpr hi, ↓reduceIte, rd_nI, ha q hq, isIn_nI hm, mk_bit, Option.bind_some, b1, bnd, nI_1]
    cases hE : E fs sc i q
    · simp
    · rw [hE] at hp
      simp at hp
      simp [hp, hi]
  · simp (disch := omega) only [X3_roadWith_L2, nI_leI, Nat.not_le.mpr hi, ↓reduceIte, rd_nI, ha q hq, isIn_nI hm, mk_bit, Option.bind_some, b1, bnd, nI_1]
    simp at hp
    simp [hp, hi]
  · simp only [X3_roadWith_L2, Int32.le_refl, ↓reduceIte]
/-- the numbers at a post, as a set -/
def tk (fs sc : Nat → Nat) (c : Nat → Int32) (q : Nat) : Nat → Nat
  | 0 => 0
  | i + 1 => if (E fs sc i q && !decide (c i = -1)) = true then tk fs sc c q i ||| 2 ^ (c i).toNatClampNeg else tk fs sc c q i
theorem tk_lt {c : Nat → Int32} {q : Nat} : ∀ {m : Nat}, NumOK m c → tk fs sc c q m < 2 ^ 16
  | 0, _ => by simp [tk]
  | m + 1, hc => by
    have ih := tk_lt (q := q) (m := m) (fun r hr => hc r (by omega))
    rw [tk]
    split
    · refine Nat.or_lt_two_pow ih ?_
      rename_i hx
      simp at hx
      rcases hc m (by omega) with e | ⟨k, hk, e⟩
      · exact absurd e hx.2
      · rw [e, nI_clamp (by omega)]
        exact Nat.pow_lt_pow_right (by decide) hk
    · exact ih
theorem tk_bit {c : Nat → Int32} {q k : Nat} (hk : k < 16) : ∀ {m : Nat}, NumOK m c → (tk fs sc c q m).testBit k = ex (fun r => E fs sc r q && decide (c r = nI k)) m
  | 0, _ => by simp [tk, ex]
  | m + 1, hc => by
    have ih := tk_bit (q := q) hk (m := m) (fun r hr => hc r (by omega))
    rw [tk, ex_succ, ← ih]
    rcases hc m (by omega) with e | ⟨j, hj, e⟩
    · have e2 : ¬ (-1 : Int32) = nI k := fun q => m1_ne (by omega) q.symm
      simp [e, e2]
    · have e2 : ¬ nI j = (-1 : Int32) := m1_ne (by omega)
      cases hE : E fs sc m q
      · simp
      · simp only [e, e2, decide_false, Bool.not_false, Bool.and_self, ↓reduceIte, Bool.true_and, nI_clamp (show j < 2 ^ 31 by omega), Nat.testBit_or, Nat.testBit_two_pow]
        congr 1
        rw [Bool.eq_iff_iff]
        simp only [decide_eq_true_iff]
        rw [nI_eq (by omega) (by omega)]
theorem x_numbersAt {c At : Nat → Int32} (h : EndsOK n p fs sc F S) (ha : AtOK n p fs sc At) (hc : NumOK n c) {q : Nat} (hq : q < p) : FX3_numbersAt (nI n) c At (nI q) = some (nI (tk fs sc c q n)) := by
  have h1 := h.1
  have h2 := h.2.1
  have hm : mk (fun r => E fs sc r q) n < 2 ^ 31 := Nat.lt_of_lt_of_le (mk_lt _ n) (Nat.pow_le_pow_right (by decide) (by omega))
  refine for_fun (fun i => (nI (tk fs sc c q i), nI i)) 0 n (Nat.zero_le _) (fun i _ hi => ?_) ?_
  · simp (disch := omega) only [X3_numbersAt_L4, nI_leI, Nat.not_le.mpr hi, ↓reduceIte, rd_nI, ha q hq, isIn_nI hm, mk_bit, Option.bind_some, b1, bnd, nI_1, tk]
    cases hE : E fs sc i q
    · simp
    · rcases hc i hi with e | ⟨k, hk, e⟩
      · simp [e, hi]
      · have e2 : ¬ nI k = (-1 : Int32) := m1_ne (by omega)
        have e3 : (1 : Int32) <<< (nI k &&& 31) = nI (2 ^ k) := sh_nI (by omega)
        simp [e, e2, hi, e3, fa_or, nI_clamp (show k < 2 ^ 31 by omega)]
  · simp only [X3_numbersAt_L4, Int32.le_refl, ↓reduceIte]
theorem x_leastOutside {t : Nat} (ht : t < 2 ^ 31) : FX7_leastOutside (nI t) = some (nI (fa_first (fun k => !t.testBit k) 16)) := by
  refine find_fun2 (f := X7_leastOutside_L2 (nI t)) (fun i => nI i) (fun k => !t.testBit k) 16 (fun i => nI i) (fun i hi hp => ?_) (fun i hi hp => ?_) ?_
  · have hx : t.testBit i = true := by simpa using hp
    simp (disch := omega) only [X7_leastOutside_L2, leL16, Nat.not_le.mpr hi, ↓reduceIte, isIn_nI ht, hx, Option.bind_some, bnd, nI_1]
    simp
  · have hx : t.testBit i = false := by simpa using hp
    simp (disch := omega) only [X7_leastOutside_L2, leL16, Nat.not_le.mpr hi, ↓reduceIte, isIn_nI ht, hx, Option.bind_some, bnd, nI_1]
    simp
  · simp (disch := omega) only [X7_leastOutside_L2, leL16, Nat.le_refl, ↓reduceIte]
    rfl
theorem x_leastFree {c At : Nat → Int32} (h : EndsOK n p fs sc F S) (ha : AtOK n p fs sc At) (hc : NumOK n c) {q : Nat} (hq : q < p) : FX3_leastFree (nI n) c At (nI q) = some (nI (fa_first (fun k => !(ex (fun r => E fs sc r q && decide (c r = nI k)) n)) 16)) := by
  have ht : tk fs sc c q n < 2 ^ 31 := Nat.lt_of_lt_of_le (tk_lt hc) (by decide)
  unfold FX3_leastFree
  rw [x_numbersAt h ha hc hq]
  simp only [Option.bind_some]
  rw [x_leastOutside ht]
  simp only [Option.bind_some]
  rw [first_cong (fun k hk => by rw [tk_bit hk hc])]
end ENDS
