/-! ===== sets as natural numbers, conversions, loops ===== -/
def mk (P : Nat → Bool) : Nat → Nat
  | 0 => 0
  | k + 1 => mk P k ||| (if P k then 2 ^ k else 0)
theorem mk_lt (P : Nat → Bool) : ∀ k, mk P k < 2 ^ k
  | 0 => by simp [mk]
  | k + 1 => by
    have h := mk_lt P k
    have h2 : 2 ^ k < 2 ^ (k + 1) := Nat.pow_lt_pow_right (by decide) (by omega)
    rw [mk]
    refine Nat.or_lt_two_pow (by omega) ?_
    split
    · exact h2
    · exact Nat.two_pow_pos _
theorem mk_bit (P : Nat → Bool) : ∀ (k i : Nat), (mk P k).testBit i = (decide (i < k) && P i)
  | 0, i => by simp [mk]
  | k + 1, i => by
    rw [mk, Nat.testBit_or, mk_bit P k i]
    by_cases hP : P k = true
    · rw [if_pos hP, Nat.testBit_two_pow]
      by_cases hi : k = i
      · subst hi; simp [hP]
      · have : (i < k + 1) ↔ (i < k) := by omega
        simp [this, hi]
    · rw [if_neg hP, Nat.zero_testBit, Bool.or_false]
      by_cases hi : i = k
      · subst hi; simp [hP]
      · have : (i < k + 1) ↔ (i < k) := by omega
        simp [this]
theorem bits_eq {a b k : Nat} (ha : a < 2 ^ k) (hb : b < 2 ^ k) (h : ∀ i, i < k → a.testBit i = b.testBit i) : a = b := by
  apply Nat.eq_of_testBit_eq
  intro i
  rcases Nat.lt_or_ge i k with hi | hi
  · exact h i hi
  · have hp : 2 ^ k ≤ 2 ^ i := Nat.pow_le_pow_right (by decide) hi
    rw [Nat.testBit_lt_two_pow (by omega), Nat.testBit_lt_two_pow (by omega)]
theorem mk_cong {P Q : Nat → Bool} {k : Nat} (h : ∀ i, i < k → P i = Q i) : mk P k = mk Q k :=
  bits_eq (mk_lt P k) (mk_lt Q k) (fun i hi => by rw [mk_bit, mk_bit, h i hi])
theorem mk_of {S k : Nat} (h : S < 2 ^ k) : S = mk (fun i => S.testBit i) k :=
  bits_eq h (mk_lt _ k) (fun i hi => by rw [mk_bit]; simp [hi])
theorem mk_zero {P : Nat → Bool} {k : Nat} : mk P k = 0 ↔ ∀ i, i < k → P i = false := by
  constructor
  · intro h i hi
    have := mk_bit P k i
    rw [h, Nat.zero_testBit] at this
    simpa [hi] using this.symm
  · intro h
    exact bits_eq (mk_lt P k) (Nat.two_pow_pos k) (fun i hi => by rw [mk_bit, h i hi]; simp)
/-! set difference -/
def sd (S T : Nat) : Nat := S ^^^ (S &&& T)
theorem sd_bit (S T i : Nat) : (sd S T).testBit i = (S.testBit i && !T.testBit i) := by
  unfold sd
  rw [Nat.testBit_xor, Nat.testBit_and]
  cases S.testBit i <;> cases T.testBit i <;> rfl
theorem and_lt_l {a b k : Nat} (h : a < 2 ^ k) : a &&& b < 2 ^ k := Nat.lt_of_le_of_lt Nat.and_le_left h
theorem sd_lt {S T k : Nat} (h : S < 2 ^ k) : sd S T < 2 ^ k := Nat.xor_lt_two_pow h (and_lt_l h)
/-! Int32 to Nat -/
theorem bt_nI {n i : Nat} (hi : i < 32) : bt (nI n) i = n.testBit i := by
  show (BitVec.ofNat 32 n).getLsbD i = _
  rw [BitVec.getLsbD_ofNat]
  simp [hi]
theorem andnot_nI (S T : Nat) : nI S &&& (nI T ^^^ (-1 : Int32)) = nI (sd S T) := by
  apply b_ext
  intro i hi
  rw [b_and, b_xor, b_m1 i hi, bt_nI hi, bt_nI hi, bt_nI hi, sd_bit]
  cases S.testBit i <;> cases T.testBit i <;> rfl
theorem sh_nI {i : Nat} (hi : i < 31) : (1 : Int32) <<< (nI i &&& (31 : Int32)) = nI (2 ^ i) := by
  have h : (2 : Nat) ^ i < 2 ^ 31 := Nat.pow_lt_pow_right (by decide) hi
  have := pk_shlN (n := 1) (nI i &&& 31) i (s_l i (by omega)) (by omega)
  rw [Nat.one_mul] at this
  exact this
theorem sh2_nI {i : Nat} (hi : i < 30) : (2 : Int32) <<< (nI i &&& (31 : Int32)) = nI (2 ^ (i + 1)) := by
  have h : (2 : Nat) ^ i < 2 ^ 30 := Nat.pow_lt_pow_right (by decide) hi
  have := pk_shlN (n := 2) (nI i &&& 31) i (s_l i (by omega)) (by omega)
  refine Eq.trans this ?_
  rw [Nat.pow_succ, Nat.mul_comm]
theorem shr_nI {n i : Nat} (hn : n < 2 ^ 31) (hi : i < 31) : nI n >>> (nI i &&& (31 : Int32)) = nI (n / 2 ^ i) := pk_shrN hn _ i (s_l i (by omega))
theorem bit1_nI (n : Nat) : nI n &&& (1 : Int32) = nI (n % 2) := fa_mask n 1
theorem tb_nI {n i : Nat} (hn : n < 2 ^ 31) (hi : i < 31) : (nI n >>> (nI i &&& (31 : Int32))) &&& (1 : Int32) = if n.testBit i then 1 else 0 := by
  rw [shr_nI hn hi, bit1_nI, Nat.testBit_eq_decide_div_mod_eq]
  have h := Nat.mod_two_eq_zero_or_one (n / 2 ^ i)
  rcases h with h | h <;> rw [h] <;> rfl
theorem isIn_nI {n i : Nat} (hn : n < 2 ^ 31) (hi : i < 31) : FX7_isIn (nI n) (nI i) = some (if n.testBit i then 1 else 0) := by
  unfold FX7_isIn
  rw [tb_nI hn hi]
  cases n.testBit i <;> rfl
theorem ones_nI {k : Nat} (hk : k < 31) : ((1 : Int32) <<< (nI k &&& (31 : Int32))) - (1 : Int32) = nI (2 ^ k - 1) := by
  rw [sh_nI hk]
  exact pk_sub (b := 1) (Nat.one_le_two_pow)
theorem rd_nI {α β : Type} {f : Nat → α} {n i : Nat} {k : α → Option β} (hi : i < n) (hn : n < 2 ^ 31) : rd f n (nI i) k = k (f i) := by
  unfold rd
  rw [if_neg (nI_in hi hn), nI_clamp (by omega)]
theorem wr_nI {β : Type} {f : Nat → Int32} {n i : Nat} {x : Int32} {k : (Nat → Int32) → Option β} (hi : i < n) (hn : n < 2 ^ 31) : wr f n (nI i) x k = k (upd f i x) := by
  unfold wr
  rw [if_neg (nI_in hi hn), nI_clamp (by omega)]
theorem wrJ_nI {β : Type} {f : Nat → Int64} {n i : Nat} {x : Int64} {k : (Nat → Int64) → Option β} (hi : i < n) (hn : n < 2 ^ 31) : wrJ f n (nI i) x k = k (vp_updL f i x) := by
  unfold wrJ
  rw [if_neg (nI_in hi hn), nI_clamp (by omega)]
theorem dv_nI {β : Type} {a d : Nat} {k : Int32 → Option β} (ha : a < 2 ^ 31) (h0 : 0 < d) (hd : d < 2 ^ 31) : dv (nI a) (nI d) k = k (nI (a / d)) := by
  unfold dv
  rw [if_neg (nI_ne0 h0 hd), pk_div ha h0 hd]
theorem rm_nI {β : Type} {a d : Nat} {k : Int32 → Option β} (ha : a < 2 ^ 31) (h0 : 0 < d) (hd : d < 2 ^ 31) : rm_ (nI a) (nI d) k = k (nI (a % d)) := by
  unfold rm_
  rw [if_neg (nI_ne0 h0 hd), pk_rem ha h0 hd]
theorem upd_at {f : Nat → Int32} {i j : Nat} {x : Int32} : upd f i x j = if j = i then x else f j := rfl
theorem m1_ne {n : Nat} (h : n < 2 ^ 31) : ¬ nI n = (-1 : Int32) := by
  intro e
  have := congrArg Int32.toInt e
  rw [nI_toInt h] at this
  have h2 : (-1 : Int32).toInt = -1 := by decide
  omega
theorem m1_lt {n : Nat} (h : n < 2 ^ 31) : (-1 : Int32) < nI n := by
  rw [fa_lt, nI_toInt h]
  have h2 : (-1 : Int32).toInt = -1 := by decide
  omega
theorem m1_le {n : Nat} (h : n < 2 ^ 31) : ¬ nI n ≤ (-1 : Int32) := by
  rw [fa_le, nI_toInt h]
  have h2 : (-1 : Int32).toInt = -1 := by decide
  omega
/-! loops -/
theorem lp_go {σ ρ : Type} {f : σ → Option (σ ⊕ ρ)} {s s' : σ} (h : f s = some (.inl s')) : loopO f s = loopO f s' := by
  rw [loopO_eq, h]; rfl
theorem lp_end {σ ρ : Type} {f : σ → Option (σ ⊕ ρ)} {s : σ} {r : ρ} (h : f s = some (.inr r)) : loopO f s = some r := by
  rw [loopO_eq, h]; rfl
theorem loopO_inv {σ ρ : Type} {f : σ → Option (σ ⊕ ρ)} (μ : σ → Nat) (I : σ → Prop) (P : ρ → Prop) (h : ∀ s, I s → (∃ s', f s = some (.inl s') ∧ I s' ∧ μ s' < μ s) ∨ (∃ r, f s = some (.inr r) ∧ P r)) : ∀ s, I s → ∃ r, loopO f s = some r ∧ P r := by
  intro s
  induction hn : μ s using Nat.strongRecOn generalizing s with
  | _ n ih =>
    intro hI
    rcases h s hI with ⟨s', h1, h2, h3⟩ | ⟨r, h1, h2⟩
    · rw [lp_go h1]
      exact ih (μ s') (by omega) s' rfl h2
    · exact ⟨r, lp_end h1, h2⟩
theorem for_inv {α σ ρ : Type} {f : σ → Option (σ ⊕ ρ)} (pk : α → Nat → σ) (n : Nat) (I : Nat → α → Prop) (P : ρ → Prop) (hs : ∀ i a, i < n → I i a → (∃ a', f (pk a i) = some (.inl (pk a' (i + 1))) ∧ I (i + 1) a') ∨ (∃ r, f (pk a i) = some (.inr r) ∧ P r)) (he : ∀ a, I n a → ∃ r, f (pk a n) = some (.inr r) ∧ P r) {i : Nat} {a : α} (hi : i ≤ n) (h : I i a) : ∃ r, loopO f (pk a i) = some r ∧ P r := by
  induction hk : n - i generalizing i a with
  | zero =>
    obtain rfl : i = n := by omega
    obtain ⟨r, h1, h2⟩ := he a h
    exact ⟨r, lp_end h1, h2⟩
  | succ k ih =>
    rcases hs i a (by omega) h with ⟨a', h1, h2⟩ | ⟨r, h1, h2⟩
    · rw [lp_go h1]
      exact ih (by omega) h2 (by omega)
    · exact ⟨r, lp_end h1, h2⟩
/-- a loop whose variables at the i-th turn are A i -/
theorem for_fun {σ ρ : Type} {f : σ → Option (σ ⊕ ρ)} (A : Nat → σ) (i n : Nat) {r : ρ} (hi : i ≤ n) (hs : ∀ j, i ≤ j → j < n → f (A j) = some (.inl (A (j + 1)))) (he : f (A n) = some (.inr r)) : loopO f (A i) = some r := by
  induction hk : n - i generalizing i with
  | zero =>
    obtain rfl : i = n := by omega
    exact lp_end he
  | succ k ih =>
    rw [lp_go (hs i (Nat.le_refl _) (by omega))]
    exact ih (i + 1) (by omega) (fun j h1 h2 => hs j (by omega) h2) (by omega)
/-- a loop that goes forward to the first hit -/
theorem find_fun {σ ρ : Type} {f : σ → Option (σ ⊕ ρ)} (pk : Nat → σ) (p : Nat → Bool) (n : Nat) (hit : Nat → ρ) (miss : ρ) (h0 : ∀ i, i < n → p i = false → f (pk i) = some (.inl (pk (i + 1)))) (h1 : ∀ i, i < n → p i = true → f (pk i) = some (.inr (hit i))) (he : f (pk n) = some (.inr miss)) : loopO f (pk 0) = some (if fa_first p n < n then hit (fa_first p n) else miss) := by
  have hle := fa_first_le p n
  have key : ∀ k, k ≤ fa_first p n → loopO f (pk 0) = loopO f (pk k) := by
    intro k
    induction k with
    | zero => intro _; rfl
    | succ k ih =>
      intro hk
      rw [ih (by omega), lp_go (h0 k (by omega) (fa_first_no p n k (by omega)))]
  rw [key _ (Nat.le_refl _)]
  by_cases h : fa_first p n < n
  · rw [if_pos h, lp_end (h1 _ h (fa_first_yes p n h))]
  · rw [if_neg h]
    have : fa_first p n = n := by omega
    rw [this]
    exact lp_end he
theorem ex_eq {α : Type} {o : Option α} {v : α} (h : ∃ r, o = some r ∧ r = v) : o = some v := by
  obtain ⟨r, h1, rfl⟩ := h
  exact h1
theorem first_cong {p q : Nat → Bool} {n : Nat} (h : ∀ k, k < n → p k = q k) : fa_first p n = fa_first q n := by
  have h1 := fa_first_le p n
  have h2 := fa_first_le q n
  rcases Nat.lt_trichotomy (fa_first p n) (fa_first q n) with e | e | e
  · have a := fa_first_yes p n (by omega)
    have b := fa_first_no q n _ e
    rw [h _ (by omega)] at a
    rw [a] at b; cases b
  · exact e
  · have a := fa_first_yes q n (by omega)
    have b := fa_first_no p n _ e
    rw [h _ (by omega)] at b
    rw [a] at b; cases b
/-! bits counted -/
theorem and_split {a b m c : Nat} (ha : a < 256) (hc : c < 256) : (256 * b + a) &&& (256 * m + c) = 256 * (b &&& m) + (a &&& c) := by
  apply Nat.eq_of_testBit_eq
  intro i
  have e : (256 : Nat) = 2 ^ 8 := rfl
  have hac : a &&& c < 2 ^ 8 := and_lt_l ha
  rw [Nat.testBit_and, e, Nat.testBit_two_pow_mul_add b ha, Nat.testBit_two_pow_mul_add m hc, Nat.testBit_two_pow_mul_add (b &&& m) hac]
  split
  · rw [Nat.testBit_and]
  · rw [Nat.testBit_and]
def pc8 (a : Nat) : Nat := fb_ct (fun i => a.testBit i) 8
def s1 (x m : Nat) : Nat := x - (x / 2 &&& m)
def s2 (x m : Nat) : Nat := (x &&& m) + (x / 4 &&& m)
def s3 (x m : Nat) : Nat := (x + x / 16) &&& m
theorem s1_b : ∀ a, a < 256 → ∀ c, c < 2 → ((a / 2 + 128 * c) &&& 85) = (a / 2 &&& 85) ∧ (a / 2 &&& 85) ≤ a ∧ a - (a / 2 &&& 85) < 171 := by decide +kernel
theorem s1_s {a b m : Nat} (ha : a < 256) (hb : (b / 2 &&& m) ≤ b) : s1 (256 * b + a) (256 * m + 85) = 256 * s1 b m + s1 a 85 := by
  unfold s1
  have e : (256 * b + a) / 2 = 256 * (b / 2) + (a / 2 + 128 * (b % 2)) := by omega
  have hc := s1_b a ha (b % 2) (by omega)
  rw [e, and_split (by omega) (by decide), hc.1]
  omega
theorem s2_b : ∀ a, a < 256 → ∀ c, c < 4 → ((a / 4 + 64 * c) &&& 51) = (a / 4 &&& 51) ∧ (a &&& 51) + (a / 4 &&& 51) < 256 := by decide +kernel
theorem s2_s {a b m : Nat} (ha : a < 256) : s2 (256 * b + a) (256 * m + 51) = 256 * s2 b m + s2 a 51 := by
  unfold s2
  have e : (256 * b + a) / 4 = 256 * (b / 4) + (a / 4 + 64 * (b % 4)) := by omega
  have hc := s2_b a ha (b % 4) (by omega)
  rw [e, and_split ha (by decide), and_split (by omega) (by decide), hc.1]
  omega
theorem s3_b : ∀ a, a < 256 → ∀ c, c < 5 → (¬ (a / 16 ≤ 4 ∧ a % 16 ≤ 4) ∨ (((a + (a / 16 + 16 * c)) &&& 15) = ((a + a / 16) &&& 15) ∧ a + (a / 16 + 16 * c) < 256)) := by decide +kernel
theorem s3_s {a b m : Nat} (ha : a < 256) (h1 : a / 16 ≤ 4) (h2 : a % 16 ≤ 4) (h3 : b % 16 ≤ 4) : s3 (256 * b + a) (256 * m + 15) = 256 * s3 b m + s3 a 15 := by
  unfold s3
  have e : (256 * b + a) + (256 * b + a) / 16 = 256 * (b + b / 16) + (a + (a / 16 + 16 * (b % 16))) := by omega
  have hc := (s3_b a ha (b % 16) (by omega)).resolve_left (fun q => q ⟨h1, h2⟩)
  rw [e, and_split hc.2 (by decide), hc.1]
theorem s_byte : ∀ a, a < 256 → s3 (s2 (s1 a 85) 51) 15 = pc8 a ∧ s1 a 85 < 256 ∧ s2 (s1 a 85) 51 < 256 ∧ s2 (s1 a 85) 51 / 16 ≤ 4 ∧ s2 (s1 a 85) 51 % 16 ≤ 4 ∧ pc8 a ≤ 8 := by decide +kernel
theorem pc_split {a b : Nat} (ha : a < 256) (k : Nat) : fb_ct (fun i => (256 * b + a).testBit i) (8 + k) = pc8 a + fb_ct (fun i => b.testBit i) k := by
  rw [fb_ct_split]
  have e : (256 : Nat) = 2 ^ 8 := rfl
  congr 1
  · exact fb_ct_cong (fun i hi => by rw [e, Nat.testBit_two_pow_mul_add b ha, if_pos hi])
  · exact fb_ct_cong (fun i hi => by rw [e, Nat.testBit_two_pow_mul_add b ha, if_neg (by omega)]; congr 1; omega)
def pcn (S : Nat) : Nat := fb_ct (fun i => S.testBit i) 32
theorem s_word {S : Nat} (hS : S < 2 ^ 32) : ∃ c0 c1 c2 c3 : Nat, c0 ≤ 8 ∧ c1 ≤ 8 ∧ c2 ≤ 8 ∧ c3 ≤ 8 ∧ pcn S = c0 + c1 + c2 + c3 ∧ s3 (s2 (s1 S 1431655765) 858993459) 252645135 = c0 + 256 * (c1 + 256 * (c2 + 256 * c3)) ∧ (S / 2 &&& 1431655765) ≤ S := by
  obtain ⟨a0, a1, a2, a3, h0, h1, h2, h3, rfl⟩ : ∃ a0 a1 a2 a3 : Nat, a0 < 256 ∧ a1 < 256 ∧ a2 < 256 ∧ a3 < 256 ∧ S = 256 * (256 * (256 * a3 + a2) + a1) + a0 := ⟨S % 256, S / 256 % 256, S / 65536 % 256, S / 16777216, by omega, by omega, by omega, by omega, by omega⟩
  have b0 := s_byte a0 h0
  have b1 := s_byte a1 h1
  have b2 := s_byte a2 h2
  have b3 := s_byte a3 h3
  have l3 : (a3 / 2 &&& 85) ≤ a3 := (s1_b a3 h3 0 (by omega)).2.1
  have e1 := s1_s (b := a3) (m := 85) h2 l3
  have k2 : ∀ {a b m : Nat}, a < 256 → (b / 2 &&& m) ≤ b → ((256 * b + a) / 2 &&& (256 * m + 85)) ≤ 256 * b + a := fun {a b m} ha hb => by
    have e : (256 * b + a) / 2 = 256 * (b / 2) + (a / 2 + 128 * (b % 2)) := by omega
    have hc := s1_b a ha (b % 2) (by omega)
    rw [e, and_split (by omega) (by decide), hc.1]
    omega
  have l2 := k2 (m := 85) h2 l3
  have e2 := s1_s (m := 256 * 85 + 85) h1 l2
  have l1 := k2 (m := 256 * 85 + 85) h1 l2
  have e3 := s1_s (m := 256 * (256 * 85 + 85) + 85) h0 l1
  have l0 := k2 (m := 256 * (256 * 85 + 85) + 85) h0 l1
  rw [e1] at e2
  rw [e2] at e3
  refine ⟨pc8 a0, pc8 a1, pc8 a2, pc8 a3, b0.2.2.2.2.2, b1.2.2.2.2.2, b2.2.2.2.2.2, b3.2.2.2.2.2, ?_, ?_, l0⟩
  · unfold pcn
    rw [show (32 : Nat) = 8 + 24 from rfl, pc_split h0, show (24 : Nat) = 8 + 16 from rfl, pc_split h1, show (16 : Nat) = 8 + 8 from rfl, pc_split h2]
    unfold pc8
    omega
  · rw [show (1431655765 : Nat) = 256 * (256 * (256 * 85 + 85) + 85) + 85 from rfl, e3, show (858993459 : Nat) = 256 * (256 * (256 * 51 + 51) + 51) + 51 from rfl, s2_s b0.2.1, s2_s b1.2.1, s2_s b2.2.1, show (252645135 : Nat) = 256 * (256 * (256 * 15 + 15) + 15) + 15 from rfl]
    rw [s3_s b0.2.2.1 b0.2.2.2.1 b0.2.2.2.2.1 (by have := b1.2.2.2.2.1; omega), s3_s b1.2.2.1 b1.2.2.2.1 b1.2.2.2.2.1 (by have := b2.2.2.2.2.1; omega), s3_s b2.2.2.1 b2.2.2.2.1 b2.2.2.2.2.1 (by have := b3.2.2.2.2.1; omega), b0.1, b1.1, b2.1, b3.1]
    omega
theorem bc_nI {S : Nat} (hS : S < 2 ^ 32) : FJ6_bitCount_0f7a4 (nI S) = some (nI (pcn S)) := by
  obtain ⟨c0, c1, c2, c3, h0, h1, h2, h3, hp, hs, hl⟩ := s_word hS
  have u : ∀ {n k : Nat}, n < 2 ^ 32 → k < 32 → ((nI n).toUInt32 >>> ((nI k).toUInt32 &&& Int32.toUInt32 31)).toInt32 = nI (n / 2 ^ k) := fun {n k} hn hk => pk_ushrN hn (nI k) k (s_u k hk)
  have hx2 : ∀ y m : Nat, m ≤ 858993459 → s2 y m < 2 ^ 32 := fun y m hm => by
    unfold s2
    have a1 : y &&& m ≤ m := Nat.and_le_right
    have a2 : y / 4 &&& m ≤ m := Nat.and_le_right
    omega
  unfold FJ6_bitCount_0f7a4 bnd
  dsimp only
  have e1 : nI S - (((nI S).toUInt32 >>> (((1 : Int32)).toUInt32 &&& Int32.toUInt32 31)).toInt32 &&& (1431655765 : Int32)) = nI (s1 S 1431655765) := by
    rw [show (1 : Int32) = nI 1 from rfl, u hS (by omega), show (1431655765 : Int32) = nI 1431655765 from rfl, fa_and, pk_sub (by simpa using hl)]
    rfl
  have l1 : s1 S 1431655765 < 2 ^ 32 := by unfold s1; omega
  rw [e1]
  have e2 : (nI (s1 S 1431655765) &&& (858993459 : Int32)) + (((nI (s1 S 1431655765)).toUInt32 >>> (((2 : Int32)).toUInt32 &&& Int32.toUInt32 31)).toInt32 &&& (858993459 : Int32)) = nI (s2 (s1 S 1431655765) 858993459) := by
    rw [show (2 : Int32) = nI 2 from rfl, u l1 (by omega), show (858993459 : Int32) = nI 858993459 from rfl, fa_and, fa_and, nI_add]
    rfl
  rw [e2]
  have l2 := hx2 (s1 S 1431655765) 858993459 (Nat.le_refl _)
  have e3 : (nI (s2 (s1 S 1431655765) 858993459) + ((nI (s2 (s1 S 1431655765) 858993459)).toUInt32 >>> (((4 : Int32)).toUInt32 &&& Int32.toUInt32 31)).toInt32) &&& (252645135 : Int32) = nI (s3 (s2 (s1 S 1431655765) 858993459) 252645135) := by
    rw [show (4 : Int32) = nI 4 from rfl, u l2 (by omega), show (252645135 : Int32) = nI 252645135 from rfl, nI_add, fa_and]
    rfl
  rw [e3, hs]
  have e4 : ∀ z : Nat, z < 2 ^ 32 → nI z + ((nI z).toUInt32 >>> (((8 : Int32)).toUInt32 &&& Int32.toUInt32 31)).toInt32 = nI (z + z / 256) := fun z hz => by
    rw [show (8 : Int32) = nI 8 from rfl, u hz (by omega), nI_add]
  rw [e4 _ (by omega)]
  have e5 : ∀ z : Nat, z < 2 ^ 32 → nI z + ((nI z).toUInt32 >>> (((16 : Int32)).toUInt32 &&& Int32.toUInt32 31)).toInt32 = nI (z + z / 65536) := fun z hz => by
    rw [show (16 : Int32) = nI 16 from rfl, u hz (by omega), nI_add]
  rw [e5 _ (by omega), show (63 : Int32) = nI (2 ^ 6 - 1) from rfl, fa_mask, hp]
  have d1 : (c0 + 256 * (c1 + 256 * (c2 + 256 * c3))) / 256 = c1 + 256 * (c2 + 256 * c3) := by omega
  have d2 : (c0 + 256 * (c1 + 256 * (c2 + 256 * c3)) + (c1 + 256 * (c2 + 256 * c3))) / 65536 = c2 + c3 + 256 * c3 := by omega
  rw [d1, d2]
  congr 2
  omega
theorem pcn_mk (P : Nat → Bool) {k : Nat} (hk : k ≤ 32) : pcn (mk P k) = fb_ct P k := by
  unfold pcn
  have e := fb_ct_split (fun i => (mk P k).testBit i) k (32 - k)
  rw [show k + (32 - k) = 32 by omega] at e
  have z0 : fb_ct (fun j => (mk P k).testBit (k + j)) (32 - k) = 0 := fb_ct_zero.mpr (fun i hi => by rw [mk_bit, decide_eq_false (by omega)]; rfl)
  have z1 : fb_ct (fun i => (mk P k).testBit i) k = fb_ct P k := fb_ct_cong (fun i hi => by rw [mk_bit]; simp [hi])
  rw [e, z0, z1, Nat.add_zero]
theorem pcn_le {S k : Nat} (h : S < 2 ^ k) (hk : k ≤ 32) : pcn S ≤ k := by
  rw [mk_of h, pcn_mk _ hk]
  exact fb_ct_le _ _
