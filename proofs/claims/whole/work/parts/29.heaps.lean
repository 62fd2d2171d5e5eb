/-! ===== nets in two heaps ===== -/
theorem find_run {σ ρ : Type} {f : σ → Option (σ ⊕ ρ)} (pk : Nat → σ) (p : Nat → Bool) (n : Nat) (hit : Nat → ρ) (miss : ρ) (h0 : ∀ i, i < n → p i = false → f (pk i) = some (.inl (pk (i + 1)))) (h1 : ∀ i, i < n → p i = true → loopO f (pk i) = some (hit i)) (he : loopO f (pk n) = some miss) : loopO f (pk 0) = some (if fa_first p n < n then hit (fa_first p n) else miss) := by
  have hle := fa_first_le p n
  have key : ∀ k, k ≤ fa_first p n → loopO f (pk 0) = loopO f (pk k) := by
    intro k
    induction k with
    | zero => intro _; rfl
    | succ k ih =>
      intro hk
      rw [ih (by omega), lp_go (h0 k (by omega) (fa_first_no p n k (by omega)))]
  rw [key _ (Nat.le_refl _)]
  by_cases h : fa_first p n < n
  · rw [if_pos h, h1 _ h (fa_first_yes p n h)]
  · rw [if_neg h]
    have : fa_first p n = n := by omega
    rw [this]
    exact he
def Sep (fs sc : Nat → Nat) (n : Nat) (s : Nat → Bool) : Prop := ∀ r, r < n → s (fs r) = !(s (sc r))
def badP (fs sc : Nat → Nat) (z r : Nat) : Bool := z.testBit (fs r) == z.testBit (sc r)
section HEAPS
variable {n p : Nat} {fs sc : Nat → Nat} {F S : Nat → Int32}
theorem bad_sep {z : Nat} : ex (badP fs sc z) n = false ↔ Sep fs sc n (fun j => z.testBit j) := by
  rw [ex_false]
  unfold Sep badP
  constructor
  · intro h r hr
    have := h r hr
    cases z.testBit (fs r) <;> cases hb : z.testBit (sc r) <;> simp_all
  · intro h r hr
    have := h r hr
    dsimp only at this
    rw [this]
    cases z.testBit (sc r) <;> rfl
theorem m_sides (h : EndsOK n p fs sc F S) {z : Nat} (hz : z < 2 ^ 30) : loopO (X8_isTwo_L16 (nI p) (nI n) F S (nI z)) (1, 0) = some (if ex (badP fs sc z) n then .inl (nI (z + 2)) else .inr 1) := by
  have hn := h.1
  have hp := h.2.1
  have key := find_run (f := X8_isTwo_L16 (nI p) (nI n) F S (nI z)) (fun i => ((1 : Int32), nI i)) (badP fs sc z) n (fun _ => .inl (nI (z + 2))) (.inr 1) (fun i hi hq => ?_) (fun i hi hq => ?_) ?_
  · refine key.trans ?_
    unfold ex
    simp only [decide_eq_true_eq]
  · obtain ⟨e1, e2, e3, e4, -⟩ := h.2.2 i hi
    unfold badP at hq
    simp (disch := omega) only [X8_isTwo_L16, nI_leI, Nat.not_le.mpr hi, ↓reduceIte, o10, rd_nI, e1, e2, tb_nI (show z < 2 ^ 31 by omega), bnd, nI_1]
    cases ha : z.testBit (fs i) <;> cases hb : z.testBit (sc i) <;> simp_all
  · obtain ⟨e1, e2, e3, e4, -⟩ := h.2.2 i hi
    unfold badP at hq
    rw [lp_go (s' := ((0 : Int32), nI (i + 1))), lp_end]
    · by_cases hx : n ≤ i + 1
      · simp (disch := omega) only [X8_isTwo_L16, nI_leI, hx, ↓reduceIte, X8_isTwo_J63, bnd]
        show some (Sum.inr (Sum.inl (nI z + nI 2))) = _
        rw [nI_add]
      · simp (disch := omega) only [X8_isTwo_L16, nI_leI, hx, ↓reduceIte, X8_isTwo_J63, bnd]
        show some (Sum.inr (Sum.inl (nI z + nI 2))) = _
        rw [nI_add]
    · simp (disch := omega) only [X8_isTwo_L16, nI_leI, Nat.not_le.mpr hi, ↓reduceIte, o10, rd_nI, e1, e2, tb_nI (show z < 2 ^ 31 by omega), bnd, nI_1]
      cases ha : z.testBit (fs i) <;> cases hb : z.testBit (sc i) <;> simp_all
  · refine lp_end ?_
    simp only [X8_isTwo_L16, Int32.le_refl, ↓reduceIte, X8_isTwo_J63, o10, Option.map_some]
theorem m_isTwo (h : EndsOK n p fs sc F S) : ∃ b : Bool, FX8_isTwo (nI p) (nI n) F S = some (if b then 1 else 0) ∧ (b = true ↔ ∃ s, Sep fs sc n s) := by
  have hn := h.1
  have hp := h.2.1
  have hpow : (2 : Nat) ^ p ≤ 2 ^ 12 := Nat.pow_le_pow_right (by decide) hp
  have h12 : (2 : Nat) ^ 12 = 4096 := by decide
  have hpos : 0 < (2 : Nat) ^ p := Nat.two_pow_pos p
  have key := find_fun (f := X8_isTwo_L2 (nI p) (nI n) F S) (fun i => nI (2 * i)) (fun i => !(ex (badP fs sc (2 * i)) n)) ((2 ^ p + 1) / 2) (fun _ => 1) (if nI n = 0 then 1 else 0) (fun i hi hq => ?_) (fun i hi hq => ?_) ?_
  · refine ⟨decide (fa_first (fun i => !(ex (badP fs sc (2 * i)) n)) ((2 ^ p + 1) / 2) < (2 ^ p + 1) / 2) || decide (n = 0), ?_, ?_⟩
    · refine key.trans ?_
      by_cases h1 : fa_first (fun i => !(ex (badP fs sc (2 * i)) n)) ((2 ^ p + 1) / 2) < (2 ^ p + 1) / 2
      · simp [h1]
      · by_cases h2 : n = 0
        · subst h2; simp; intro _; rfl
        · have : ¬ nI n = 0 := by rw [eqR0 (by omega)]; exact h2
          simp [h1, h2, this]
    · rw [Bool.or_eq_true, decide_eq_true_eq, decide_eq_true_eq]
      constructor
      · rintro (h1 | h1)
        · have := fa_first_yes (fun i => !(ex (badP fs sc (2 * i)) n)) _ h1
          exact ⟨_, bad_sep.mp (by simpa using this)⟩
        · exact ⟨fun _ => true, fun r hr => by omega⟩
      · rintro ⟨s, hs⟩
        left
        obtain ⟨z, hz⟩ : ∃ z, z = mk (fun j => s j ^^ s 0) p := ⟨_, rfl⟩
        have hzl : z < 2 ^ p := by rw [hz]; exact mk_lt _ p
        have hz0 : z.testBit 0 = false := by rw [hz, mk_bit]; simp
        have hev : z % 2 = 0 := by
          have := Nat.testBit_zero z
          rw [hz0] at this
          have h3 := Nat.mod_two_eq_zero_or_one z
          rcases h3 with h3 | h3
          · exact h3
          · rw [h3] at this; simp at this
        have hsep : ex (badP fs sc z) n = false := by
          rw [bad_sep]
          intro r hr
          obtain ⟨-, -, e3, e4, -⟩ := h.2.2 r hr
          dsimp only
          rw [hz, mk_bit, mk_bit, hs r hr]
          simp only [e3, e4, decide_true, Bool.true_and]
          cases s (sc r) <;> cases s 0 <;> rfl
        have : ex (fun i => !(ex (badP fs sc (2 * i)) n)) ((2 ^ p + 1) / 2) = true := by
          refine ex_true.mpr ⟨z / 2, by omega, ?_⟩
          rw [show 2 * (z / 2) = z by omega, hsep]; rfl
        unfold ex at this
        exact of_decide_eq_true this
  · have hx : ex (badP fs sc (2 * i)) n = true := by simpa using hq
    simp (disch := omega) only [X8_isTwo_L2, sh_nI, nI_leI, show ¬ (2 ^ p ≤ 2 * i) by omega, ↓reduceIte, m_sides h, hx]
    rfl
  · have hx : ex (badP fs sc (2 * i)) n = false := by simpa using hq
    simp (disch := omega) only [X8_isTwo_L2, sh_nI, nI_leI, show ¬ (2 ^ p ≤ 2 * i) by omega, ↓reduceIte, m_sides h, hx]
    rfl
  · simp (disch := omega) only [X8_isTwo_L2, sh_nI, nI_leI, show (2 ^ p ≤ 2 * ((2 ^ p + 1) / 2)) by omega, ↓reduceIte, X8_isTwo_J75]
    split <;> rfl
/-! the class: posts across -/
def acm (fs sc : Nat → Nat) (S : Nat) : Nat → Nat
  | 0 => 0
  | i + 1 => (acm fs sc S i ||| (if S.testBit (fs i) then 2 ^ sc i else 0)) ||| (if S.testBit (sc i) then 2 ^ fs i else 0)
theorem acm_bit (S q : Nat) : ∀ i, (acm fs sc S i).testBit q = ex (fun r => (S.testBit (fs r) && decide (sc r = q)) || (S.testBit (sc r) && decide (fs r = q))) i
  | 0 => by simp [acm, ex]
  | i + 1 => by
    rw [acm, ex_succ, ← acm_bit S q i, Nat.testBit_or, Nat.testBit_or, Bool.or_assoc]
    congr 2
    · cases S.testBit (fs i) <;> simp [Nat.testBit_two_pow]
    · cases S.testBit (sc i) <;> simp [Nat.testBit_two_pow]
theorem acm_lt (h : EndsOK n p fs sc F S) (Z : Nat) : ∀ i, i ≤ n → acm fs sc Z i < 2 ^ p
  | 0, _ => Nat.two_pow_pos p
  | i + 1, hi => by
    obtain ⟨-, -, e3, e4, -⟩ := h.2.2 i (by omega)
    rw [acm]
    refine Nat.or_lt_two_pow (Nat.or_lt_two_pow (acm_lt h Z i (by omega)) ?_) ?_
    · split
      · exact Nat.pow_lt_pow_right (by decide) e4
      · exact Nat.two_pow_pos p
    · split
      · exact Nat.pow_lt_pow_right (by decide) e3
      · exact Nat.two_pow_pos p
theorem x_across (h : EndsOK n p fs sc F S) {Z : Nat} (hZ : Z < 2 ^ 31) : FX3_acrossFrom (nI n) F S (nI Z) = some (nI (acm fs sc Z n)) := by
  have hn := h.1
  have hp := h.2.1
  refine for_fun (fun i => (nI (acm fs sc Z i), nI i)) 0 n (Nat.zero_le _) (fun i _ hi => ?_) ?_
  · obtain ⟨e1, e2, e3, e4, -⟩ := h.2.2 i hi
    simp (disch := omega) only [X3_acrossFrom_L4, X3_acrossFrom_J36, nI_leI, Nat.not_le.mpr hi, ↓reduceIte, rd_nI, e1, e2, isIn_nI hZ, Option.bind_some, b1, bnd, nI_1, sh_nI, fa_or, acm]
    cases Z.testBit (fs i) <;> cases Z.testBit (sc i) <;> simp
  · simp only [X3_acrossFrom_L4, Int32.le_refl, ↓reduceIte]
def ClosedH (fs sc : Nat → Nat) (n a b : Nat) : Prop := Sub (acm fs sc a n) b ∧ Sub (acm fs sc b n) a
def Fits (fs sc : Nat → Nat) (n a b : Nat) (s : Nat → Bool) : Prop := Sep fs sc n s ∧ (∀ j, a.testBit j = true → s j = false) ∧ (∀ j, b.testBit j = true → s j = true)
theorem fits_ac {a b : Nat} {s : Nat → Bool} (h : Fits fs sc n a b s) : Fits fs sc n a (b ||| acm fs sc a n) s := by
  refine ⟨h.1, h.2.1, fun j hj => ?_⟩
  rw [Nat.testBit_or, Bool.or_eq_true, acm_bit] at hj
  rcases hj with hj | hj
  · exact h.2.2 j hj
  · obtain ⟨r, hr, h2⟩ := ex_true.mp hj
    have h1 := h.1 r hr
    simp only [Bool.or_eq_true, Bool.and_eq_true, decide_eq_true_eq] at h2
    rcases h2 with ⟨z1, rfl⟩ | ⟨z1, rfl⟩
    · rw [h.2.1 _ z1] at h1
      cases e : s (sc r)
      · rw [e] at h1; cases h1
      · rfl
    · rw [h1, h.2.1 _ z1]; rfl
theorem fits_ac2 {a b : Nat} {s : Nat → Bool} (h : Fits fs sc n a b s) : Fits fs sc n (a ||| acm fs sc b n) b s := by
  refine ⟨h.1, fun j hj => ?_, h.2.2⟩
  rw [Nat.testBit_or, Bool.or_eq_true, acm_bit] at hj
  rcases hj with hj | hj
  · exact h.2.1 j hj
  · obtain ⟨r, hr, h2⟩ := ex_true.mp hj
    have h1 := h.1 r hr
    simp only [Bool.or_eq_true, Bool.and_eq_true, decide_eq_true_eq] at h2
    rcases h2 with ⟨z1, rfl⟩ | ⟨z1, rfl⟩
    · rw [h.2.2 _ z1] at h1
      cases e : s (sc r)
      · rfl
      · rw [e] at h1; cases h1
    · rw [h1, h.2.2 _ z1]; rfl
theorem sub_or_l (a b : Nat) : Sub a (a ||| b) := fun i h => by rw [Nat.testBit_or, h]; rfl
theorem sub_or_r (a b : Nat) : Sub b (a ||| b) := fun i h => by rw [Nat.testBit_or, h]; simp
theorem acm_mono {a b : Nat} (h : ∀ j, a.testBit j = true → b.testBit j = true) : Sub (acm fs sc a n) (acm fs sc b n) := fun i hi => by
  rw [acm_bit] at hi ⊢
  obtain ⟨r, hr, h2⟩ := ex_true.mp hi
  refine ex_true.mpr ⟨r, hr, ?_⟩
  simp only [Bool.or_eq_true, Bool.and_eq_true, decide_eq_true_eq] at h2 ⊢
  rcases h2 with ⟨z1, z2⟩ | ⟨z1, z2⟩
  · exact Or.inl ⟨h _ z1, z2⟩
  · exact Or.inr ⟨h _ z1, z2⟩
theorem x_rounds (h : EndsOK n p fs sc F S) {q a b : Nat} (hq : q < p) (ha : a < 2 ^ p) (hb : b < 2 ^ p) (hin : (a ||| b).testBit q = true) : ∃ a' b', loopO (X3_isInTwoHeaps_L33 (nI p) (nI n) F S (nI q)) (nI a, nI b, 0) = some (.inl (nI a', nI b', nI (q + 1))) ∧ a' < 2 ^ p ∧ b' < 2 ^ p ∧ Sub a a' ∧ Sub b b' ∧ (∀ s, Fits fs sc n a b s → Fits fs sc n a' b' s) ∧ (a' &&& b' ≠ 0 ∨ ClosedH fs sc n a' b') := by
  have hn := h.1
  have hp := h.2.1
  have hpow : (2 : Nat) ^ p ≤ 2 ^ 12 := Nat.pow_le_pow_right (by decide) hp
  have h12 : (2 : Nat) ^ 12 = 4096 := by decide
  have key := for_inv (f := X3_isInTwoHeaps_L33 (nI p) (nI n) F S (nI q)) (fun (z : Nat × Nat) k => (nI z.1, nI z.2, nI k)) 12
    (fun k z => z.1 < 2 ^ p ∧ z.2 < 2 ^ p ∧ Sub a z.1 ∧ Sub b z.2 ∧ (∀ s, Fits fs sc n a b s → Fits fs sc n z.1 z.2 s) ∧ k + 1 ≤ fb_ct (fun j => (z.1 ||| z.2).testBit j) p)
    (fun r => ∃ a' b', r = .inl (nI a', nI b', nI (q + 1)) ∧ a' < 2 ^ p ∧ b' < 2 ^ p ∧ Sub a a' ∧ Sub b b' ∧ (∀ s, Fits fs sc n a b s → Fits fs sc n a' b' s) ∧ (a' &&& b' ≠ 0 ∨ ClosedH fs sc n a' b'))
    (fun k z hk hI => ?_) (fun z hI => ?_) (i := 0) (a := (a, b)) (Nat.zero_le _) ⟨ha, hb, fun _ x => x, fun _ x => x, fun _ x => x, fb_ct_pos.mpr ⟨q, hq, hin⟩⟩
  · obtain ⟨r, hr, a', b', rfl, rest⟩ := key
    exact ⟨a', b', hr, rest⟩
  · obtain ⟨x, y⟩ := z
    obtain ⟨i1, i2, i3, i4, i5, i6⟩ := hI
    dsimp only at i1 i2 i3 i4 i5 i6
    have hy1 : y ||| acm fs sc x n < 2 ^ p := Nat.or_lt_two_pow i2 (acm_lt h x n (Nat.le_refl _))
    have hx1 : x ||| acm fs sc (y ||| acm fs sc x n) n < 2 ^ p := Nat.or_lt_two_pow i1 (acm_lt h _ n (Nat.le_refl _))
    have hu0 : x ||| y < 2 ^ p := Nat.or_lt_two_pow i1 i2
    have hu1 : (x ||| acm fs sc (y ||| acm fs sc x n) n) ||| (y ||| acm fs sc x n) < 2 ^ p := Nat.or_lt_two_pow hx1 hy1
    have hstep : X3_isInTwoHeaps_L33 (nI p) (nI n) F S (nI q) (nI x, nI y, nI k) = if (x ||| acm fs sc (y ||| acm fs sc x n) n) ||| (y ||| acm fs sc x n) = x ||| y then some (.inr (.inl (nI (x ||| acm fs sc (y ||| acm fs sc x n) n), nI (y ||| acm fs sc x n), nI (q + 1)))) else some (.inl (nI (x ||| acm fs sc (y ||| acm fs sc x n) n), nI (y ||| acm fs sc x n), nI (k + 1))) := by
      simp (disch := omega) only [X3_isInTwoHeaps_L33, leL12, Nat.not_le.mpr hk, ↓reduceIte, fa_or, x_across h, Option.bind_some, bnd, nI_1, nI_eq]
    dsimp only
    rw [hstep]
    by_cases e : (x ||| acm fs sc (y ||| acm fs sc x n) n) ||| (y ||| acm fs sc x n) = x ||| y
    · right
      rw [if_pos e]
      refine ⟨_, rfl, _, _, rfl, hx1, hy1, fun j hj => sub_or_l _ _ j (i3 j hj), fun j hj => sub_or_l _ _ j (i4 j hj), fun s hs => fits_ac2 (fits_ac (i5 s hs)), ?_⟩
      rcases Nat.decEq ((x ||| acm fs sc (y ||| acm fs sc x n) n) &&& (y ||| acm fs sc x n)) 0 with hne | h0
      · exact Or.inl hne
      · right
        refine ⟨fun j hj => ?_, fun j hj => sub_or_r _ _ j hj⟩
        refine sub_or_r y (acm fs sc x n) j (acm_mono (fun z hz => ?_) j hj)
        cases hxz : x.testBit z
        · exfalso
          have u1 : ((x ||| acm fs sc (y ||| acm fs sc x n) n) ||| (y ||| acm fs sc x n)).testBit z = true := by rw [Nat.testBit_or, hz]; rfl
          rw [e, Nat.testBit_or, hxz, Bool.false_or] at u1
          have u2 : ((x ||| acm fs sc (y ||| acm fs sc x n) n) &&& (y ||| acm fs sc x n)).testBit z = true := by rw [Nat.testBit_and, hz, Nat.testBit_or, u1]; rfl
          rw [h0, Nat.zero_testBit] at u2; cases u2
        · rfl
    · left
      rw [if_neg e]
      refine ⟨(x ||| acm fs sc (y ||| acm fs sc x n) n, y ||| acm fs sc x n), rfl, hx1, hy1, fun j hj => sub_or_l _ _ j (i3 j hj), fun j hj => sub_or_l _ _ j (i4 j hj), fun s hs => fits_ac2 (fits_ac (i5 s hs)), ?_⟩
      dsimp only
      obtain ⟨j, hj⟩ := Nat.exists_testBit_ne_of_ne e
      have hsub : Sub (x ||| y) ((x ||| acm fs sc (y ||| acm fs sc x n) n) ||| (y ||| acm fs sc x n)) := fun t ht => by
        rw [Nat.testBit_or, Bool.or_eq_true] at ht
        rw [Nat.testBit_or, Bool.or_eq_true]
        rcases ht with ht | ht
        · exact Or.inl (sub_or_l _ _ t ht)
        · exact Or.inr (sub_or_l _ _ t ht)
      have hb2 : (x ||| y).testBit j = false ∧ ((x ||| acm fs sc (y ||| acm fs sc x n) n) ||| (y ||| acm fs sc x n)).testBit j = true := by
        cases e1 : (x ||| y).testBit j
        · cases e2 : ((x ||| acm fs sc (y ||| acm fs sc x n) n) ||| (y ||| acm fs sc x n)).testBit j
          · rw [e1, e2] at hj; exact absurd rfl hj
          · exact ⟨rfl, rfl⟩
        · rw [e1, hsub j e1] at hj; exact absurd rfl hj
      have hjp : j < p := by
        rcases Nat.lt_or_ge j p with z | z
        · exact z
        · have := hb2.2
          rw [Nat.testBit_lt_two_pow (Nat.lt_of_lt_of_le hu1 (Nat.pow_le_pow_right (by decide) z))] at this; cases this
      have := ct_lt (p := fun j => (x ||| y).testBit j) (q := fun j => ((x ||| acm fs sc (y ||| acm fs sc x n) n) ||| (y ||| acm fs sc x n)).testBit j) (n := p) (fun t _ ht => hsub t ht) hjp hb2.1 hb2.2
      omega
  · obtain ⟨-, -, -, -, -, i6⟩ := hI
    have := fb_ct_le (fun j => (z.1 ||| z.2).testBit j) p
    omega
theorem x_isTwo (h : EndsOK n p fs sc F S) : ∃ b : Bool, FX3_isInTwoHeaps (nI p) (nI n) F S = some (if b then 1 else 0) ∧ (b = true ↔ ∃ s, Sep fs sc n s) := by
  have hn := h.1
  have hp := h.2.1
  have hpow : (2 : Nat) ^ p ≤ 2 ^ 12 := Nat.pow_le_pow_right (by decide) hp
  have h12 : (2 : Nat) ^ 12 = 4096 := by decide
  have key := for_inv (f := X3_isInTwoHeaps_L6 (nI p) (nI n) F S) (fun (z : Nat × Nat) k => (nI z.1, nI z.2, nI k)) p
    (fun q z => z.1 < 2 ^ p ∧ z.2 < 2 ^ p ∧ (∀ j, j < q → (z.1 ||| z.2).testBit j = true) ∧ ((∃ s, Sep fs sc n s) → ∃ s, Fits fs sc n z.1 z.2 s) ∧ (z.1 &&& z.2 ≠ 0 ∨ ClosedH fs sc n z.1 z.2))
    (fun r => ∃ b : Bool, r = (if b then (1 : Int32) else 0) ∧ (b = true ↔ ∃ s, Sep fs sc n s))
    (fun k z hk hI => ?_) (fun z hI => ?_) (i := 0) (a := (0, 0)) (Nat.zero_le _) ⟨Nat.two_pow_pos p, Nat.two_pow_pos p, fun j hj => by omega, fun ⟨s, hs⟩ => ⟨s, hs, fun j hj => by simp at hj, fun j hj => by simp at hj⟩, Or.inr ⟨fun j hj => ?_, fun j hj => ?_⟩⟩
  · obtain ⟨r, hr, b, rfl, hb⟩ := key
    exact ⟨b, hr, hb⟩
  · left
    obtain ⟨x, y⟩ := z
    obtain ⟨i1, i2, i3, i4, i5⟩ := hI
    dsimp only at i1 i2 i3 i4 i5
    have hu : x ||| y < 2 ^ p := Nat.or_lt_two_pow i1 i2
    cases hbit : (x ||| y).testBit k
    · have hx' : x ||| 2 ^ k < 2 ^ p := Nat.or_lt_two_pow i1 (Nat.pow_lt_pow_right (by decide) hk)
      obtain ⟨a', b', r1, r2, r3, r4, r5, r6, r7⟩ := x_rounds h hk hx' i2 (by rw [Nat.testBit_or, Nat.testBit_or, Nat.testBit_two_pow]; simp)
      refine ⟨(a', b'), ?_, r2, r3, fun j hj => ?_, fun hs => ?_, r7⟩
      · dsimp only
        simp (disch := omega) only [X3_isInTwoHeaps_L6, nI_leI, Nat.not_le.mpr hk, ↓reduceIte, fa_or, isIn_nI, hbit, Option.bind_some, bnd, sh_nI]
        simp only [Bool.false_eq_true, ↓reduceIte]
        exact r1
      · dsimp only
        rw [Nat.testBit_or, Bool.or_eq_true]
        by_cases hj2 : j = k
        · subst hj2
          exact Or.inl (r4 j (by rw [Nat.testBit_or, Nat.testBit_two_pow]; simp))
        · have := i3 j (by omega)
          rw [Nat.testBit_or, Bool.or_eq_true] at this
          rcases this with t | t
          · exact Or.inl (r4 j (sub_or_l _ _ j t))
          · exact Or.inr (r5 j t)
      · obtain ⟨s, f1, f2, f3⟩ := i4 hs
        rw [Nat.testBit_or, Bool.or_eq_false_iff] at hbit
        have hcl : ClosedH fs sc n x y := by
          rcases i5 with i5 | i5
          · exfalso
            apply i5
            apply Nat.eq_of_testBit_eq
            intro j
            rw [Nat.testBit_and, Nat.zero_testBit]
            cases e1 : x.testBit j
            · rfl
            · cases e2 : y.testBit j
              · rfl
              · have a1 := f2 j e1
                have a2 := f3 j e2
                rw [a1] at a2; cases a2
          · exact i5
        have hcU : ∀ r, r < n → (x ||| y).testBit (fs r) = (x ||| y).testBit (sc r) := by
          intro r hr
          rw [Bool.eq_iff_iff, Nat.testBit_or, Nat.testBit_or, Bool.or_eq_true, Bool.or_eq_true]
          constructor
          · rintro (t | t)
            · exact Or.inr (hcl.1 _ (by rw [acm_bit]; exact ex_true.mpr ⟨r, hr, by simp [t]⟩))
            · exact Or.inl (hcl.2 _ (by rw [acm_bit]; exact ex_true.mpr ⟨r, hr, by simp [t]⟩))
          · rintro (t | t)
            · exact Or.inr (hcl.1 _ (by rw [acm_bit]; exact ex_true.mpr ⟨r, hr, by simp [t]⟩))
            · exact Or.inl (hcl.2 _ (by rw [acm_bit]; exact ex_true.mpr ⟨r, hr, by simp [t]⟩))
        refine ⟨fun j => if (x ||| y).testBit j then s j else (s j ^^ s k), r6 _ ⟨fun r hr => ?_, fun j hj => ?_, fun j hj => ?_⟩⟩
        · have e1 := f1 r hr
          have e2 := hcU r hr
          dsimp only
          rw [e2]
          cases (x ||| y).testBit (sc r)
          · simp only [Bool.false_eq_true, ↓reduceIte, e1]
            cases s (sc r) <;> cases s k <;> rfl
          · simp only [↓reduceIte, e1]
        · rw [Nat.testBit_or, Bool.or_eq_true] at hj
          dsimp only
          rcases hj with t | t
          · rw [Nat.testBit_or, t]; simp [f2 j t]
          · rw [Nat.testBit_two_pow] at t
            have : k = j := of_decide_eq_true t
            subst this
            rw [Nat.testBit_or, hbit.1, hbit.2]
            simp
        · dsimp only
          rw [Nat.testBit_or, hj]
          simp [f3 j hj]
    · obtain ⟨a', b', r1, r2, r3, r4, r5, r6, r7⟩ := x_rounds h hk i1 i2 hbit
      refine ⟨(a', b'), ?_, r2, r3, fun j hj => ?_, fun hs => ?_, r7⟩
      · dsimp only
        simp (disch := omega) only [X3_isInTwoHeaps_L6, nI_leI, Nat.not_le.mpr hk, ↓reduceIte, fa_or, isIn_nI, hbit, Option.bind_some, bnd, sh_nI, o10]
        exact r1
      · dsimp only
        rw [Nat.testBit_or, Bool.or_eq_true]
        have : (x ||| y).testBit j = true := by
          by_cases hj2 : j = k
          · rw [hj2]; exact hbit
          · exact i3 j (by omega)
        rw [Nat.testBit_or, Bool.or_eq_true] at this
        rcases this with t | t
        · exact Or.inl (r4 j t)
        · exact Or.inr (r5 j t)
      · obtain ⟨s, hs2⟩ := i4 hs
        exact ⟨s, r6 s hs2⟩
  · obtain ⟨x, y⟩ := z
    obtain ⟨i1, i2, i3, i4, i5⟩ := hI
    dsimp only at i1 i2 i3 i4 i5
    have hxy : x &&& y < 2 ^ 31 := by
      have : x &&& y ≤ x := Nat.and_le_left
      omega
    refine ⟨if x &&& y = 0 then 1 else 0, ?_, decide (x &&& y = 0), ?_, ?_⟩
    · simp (disch := omega) only [X3_isInTwoHeaps_L6, Int32.le_refl, ↓reduceIte, X3_isInTwoHeaps_J84, fa_and, eqR0]
      split <;> rfl
    · by_cases e : x &&& y = 0 <;> simp [e]
    · rw [decide_eq_true_eq]
      constructor
      · intro e
        have hcl := i5.resolve_left (fun q => q e)
        have hdis : ∀ j, x.testBit j = true → y.testBit j = false := fun j hj => by
          have := congrArg (fun z => z.testBit j) e
          simp only [Nat.testBit_and, hj, Bool.true_and, Nat.zero_testBit] at this
          exact this
        refine ⟨fun j => y.testBit j, fun r hr => ?_⟩
        obtain ⟨-, -, e3, e4, -⟩ := h.2.2 r hr
        have u := i3 (fs r) e3
        rw [Nat.testBit_or, Bool.or_eq_true] at u
        dsimp only
        rcases u with t | t
        · rw [hdis _ t, hcl.1 (sc r) (by rw [acm_bit]; exact ex_true.mpr ⟨r, hr, by simp [t]⟩)]; rfl
        · rw [t, hdis _ (hcl.2 (sc r) (by rw [acm_bit]; exact ex_true.mpr ⟨r, hr, by simp [t]⟩))]; rfl
      · intro hs
        obtain ⟨s, f1, f2, f3⟩ := i4 hs
        apply Nat.eq_of_testBit_eq
        intro j
        rw [Nat.testBit_and, Nat.zero_testBit]
        cases e1 : x.testBit j
        · rfl
        · cases e2 : y.testBit j
          · rfl
          · have a1 := f2 j e1
            rw [f3 j e2] at a1; cases a1
  · rw [acm_bit] at hj
    obtain ⟨r, hr, h2⟩ := ex_true.mp hj
    simp at h2
  · rw [acm_bit] at hj
    obtain ⟨r, hr, h2⟩ := ex_true.mp hj
    simp at h2
theorem isTwo_same (h : EndsOK n p fs sc F S) : ∃ b : Bool, FX3_isInTwoHeaps (nI p) (nI n) F S = some (if b then 1 else 0) ∧ FX8_isTwo (nI p) (nI n) F S = some (if b then 1 else 0) := by
  obtain ⟨b, h1, h2⟩ := x_isTwo h
  obtain ⟨b', h3, h4⟩ := m_isTwo h
  have : b = b' := by rw [Bool.eq_iff_iff, h2, h4]
  subst this
  exact ⟨b, h1, h3⟩
end HEAPS
theorem nop_heaps {pc rc : Int32} {F S c al At Bs : Nat → Int32} {mp mr : Int32} {mF mS mc ml : Nat → Int32} (h : NetR pc rc F S c al At Bs mp mr mF mS mc ml) : ∃ ox om, FX7_heaps pc rc F S = some ox ∧ FX8_heaps mp mr mF mS = some om ∧ ox = om := by
  obtain ⟨⟨rfl, rfl, rfl, rfl, rfl, rfl⟩, p, n, fs, sc, rfl, rfl, hE, hA, hB, hN, hL⟩ := id h
  obtain ⟨b, h1, h2⟩ := isTwo_same hE
  unfold FX7_heaps FX8_heaps FX7_asBit
  rw [h1, h2]
  cases b <;> exact ⟨_, _, rfl, rfl, rfl⟩
