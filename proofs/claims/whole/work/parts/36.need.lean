/-! ===== heaps of posts: the roads inside, what they need ===== -/
theorem nI_dn (i : Nat) : nI (i + 1) + -1 = nI i := by
  rw [show nI (i + 1) = nI i + 1 from (nI_1 i).symm]
  grind
theorem low_dec2 : ∀ a, a < 64 → ∀ b, b < 64 → nI (64 * a + b) &&& -nI (64 * a + b) = nI (if 64 * a + b = 0 then 0 else 2 ^ fa_first (fun i => (64 * a + b).testBit i) 12) := by decide +kernel
theorem low_dec (S : Nat) (h : S < 4096) : nI S &&& -nI S = nI (if S = 0 then 0 else 2 ^ fa_first (fun i => S.testBit i) 12) := by
  have := low_dec2 (S / 64) (by omega) (S % 64) (by omega)
  rw [show 64 * (S / 64) + S % 64 = S by omega] at this
  exact this
theorem xor_bit (Z i j : Nat) : (Z ^^^ 2 ^ i).testBit j = (Z.testBit j ^^ decide (j = i)) := fb_bit_flip Z i j
theorem xor_low {Y k : Nat} (h : Y.testBit k = true) : Y ^^^ 2 ^ k < Y := by
  have e : Y ^^^ 2 ^ k = Y &&& (Y ^^^ 2 ^ k) := by
    apply Nat.eq_of_testBit_eq
    intro j
    rw [Nat.testBit_and, xor_bit]
    by_cases q : j = k
    · rw [q, h]; simp
    · cases Y.testBit j <;> simp [q]
  have hle : Y ^^^ 2 ^ k ≤ Y := by
    rw [e]; exact Nat.and_le_left
  refine Nat.lt_of_le_of_ne hle (fun q => ?_)
  have := xor_bit Y k k
  rw [q, h] at this
  simp at this
theorem place_dec : ∀ i, i < 12 → pcn (2 ^ i - 1) = i := by decide +kernel
theorem x_place {i : Nat} (hi : i < 12) : FX7_placeOf (nI (2 ^ i)) = some (nI i) := by
  have hp : 0 < 2 ^ i := Nat.two_pow_pos i
  have h12 : (2 : Nat) ^ i ≤ 2 ^ 12 := Nat.pow_le_pow_right (by decide) (by omega)
  unfold FX7_placeOf
  obtain ⟨m, hm⟩ : ∃ m, 2 ^ i = m + 1 := ⟨2 ^ i - 1, by omega⟩
  have e := place_dec i hi
  rw [hm] at e ⊢
  rw [nI_pred, bc_nI (by omega)]
  rw [show m + 1 - 1 = m by omega] at e
  rw [e]
  rfl
section NEED
variable {n p : Nat} {fs sc : Nat → Nat} {F S : Nat → Int32}
def insP (fs sc : Nat → Nat) (Z r : Nat) : Bool := Z.testBit (fs r) && Z.testBit (sc r)
def ins (fs sc : Nat → Nat) (n Z : Nat) : Nat := fb_ct (insP fs sc Z) n
theorem ins_le (Z : Nat) : ins fs sc n Z ≤ n := fb_ct_le _ _
def ndn (fs sc : Nat → Nat) (n Z : Nat) : Nat := (ins fs sc n Z + pcn Z / 2 - 1) / (pcn Z / 2)
/-- inclusion and exclusion for one pair -/
theorem ins_rec (hE : EndsOK n p fs sc F S) {Z i j : Nat} (hi : Z.testBit i = true) (hj : Z.testBit j = true) (hij : i ≠ j) : ins fs sc n (Z ^^^ 2 ^ i) + ins fs sc n (Z ^^^ 2 ^ j) + fb_ct (fun r => E fs sc r i && E fs sc r j) n = ins fs sc n Z + ins fs sc n (Z ^^^ 2 ^ i ^^^ 2 ^ j) := by
  have h3 := hE.2.2
  clear hE
  unfold ins
  induction n with
  | zero => simp [fb_ct]
  | succ m ih =>
    have ih' := ih (fun r hr => h3 r (by omega))
    obtain ⟨-, -, -, -, hd⟩ := h3 m (by omega)
    simp only [fb_ct_succ]
    have key : (if insP fs sc (Z ^^^ 2 ^ i) m then 1 else 0) + (if insP fs sc (Z ^^^ 2 ^ j) m then 1 else 0) + (if (E fs sc m i && E fs sc m j) = true then 1 else 0) = (if insP fs sc Z m then 1 else 0) + (if insP fs sc (Z ^^^ 2 ^ i ^^^ 2 ^ j) m then 1 else 0) := by
      unfold insP E
      simp only [xor_bit]
      by_cases a1 : fs m = i
      · subst a1
        by_cases a3 : sc m = j
        · subst a3
          simp [hi, hj, hij, Ne.symm hij]
        · cases hb : Z.testBit (sc m) <;> simp [hi, hij, a3, Ne.symm hd, hb]
      · by_cases a2 : fs m = j
        · subst a2
          by_cases a3 : sc m = i
          · subst a3
            simp [hi, hj, hij, Ne.symm hij]
          · cases hb : Z.testBit (sc m) <;> simp [hj, hij, Ne.symm hij, a3, Ne.symm hd, hb]
        · cases hb : Z.testBit (fs m)
          · simp [a1, a2, hb]
            exact fun h1 h2 => hij (h1.symm.trans h2)
          · by_cases a3 : sc m = i
            · subst a3
              simp [hi, hij, a1, a2, hb]
            · by_cases a4 : sc m = j
              · subst a4
                simp [hj, Ne.symm hij, a1, a2, a3, hb]
              · cases hc : Z.testBit (sc m) <;> simp [a1, a2, a3, a4, hb, hc]
    omega
theorem ins_one (hE : EndsOK n p fs sc F S) (i : Nat) : ins fs sc n (2 ^ i) = 0 := by
  unfold ins
  rw [fb_ct_zero]
  intro r hr
  obtain ⟨-, -, -, -, hd⟩ := hE.2.2 r hr
  unfold insP
  rw [Nat.testBit_two_pow, Nat.testBit_two_pow]
  by_cases h1 : i = fs r
  · have : ¬ i = sc r := fun h => hd (h1.symm.trans h)
    simp [this]
  · simp [h1]
theorem ins_zero : ins fs sc n 0 = 0 := by
  unfold ins
  rw [fb_ct_zero]
  intro r hr
  unfold insP
  simp
theorem low_bit {Z k : Nat} (hZ : Z < 2 ^ k) (h0 : Z ≠ 0) (hk : k ≤ 12) : fa_first (fun i => Z.testBit i) 12 < k ∧ Z.testBit (fa_first (fun i => Z.testBit i) 12) = true := by
  have hx : ∃ i, i < k ∧ Z.testBit i = true := by
    refine Classical.byContradiction (fun hno => h0 ?_)
    refine bits_eq (k := k) hZ (Nat.two_pow_pos k) (fun i hi => ?_)
    rw [Nat.zero_testBit]
    cases hh : Z.testBit i
    · rfl
    · exact absurd ⟨i, hi, hh⟩ hno
  obtain ⟨i, h1, h2⟩ := hx
  have hle : fa_first (fun i => Z.testBit i) 12 ≤ i := by
    rcases Nat.lt_or_ge i (fa_first (fun i => Z.testBit i) 12) with q | q
    · have := fa_first_no _ 12 i q
      rw [h2] at this
      exact Bool.noConfusion this
    · exact q
  have := fa_first_yes (fun i => Z.testBit i) 12 (by omega)
  exact ⟨by omega, this⟩
theorem low_nI {Z : Nat} (hZ : Z < 4096) : nI Z &&& -nI Z = nI (if Z = 0 then 0 else 2 ^ fa_first (fun i => Z.testBit i) 12) := low_dec Z hZ
theorem x_between {At : Nat → Int32} (hn : n ≤ 24) (hp : p ≤ 12) (hA : AtOK n p fs sc At) {i j : Nat} (hi : i < p) (hj : j < p) : FX2_between At (nI (2 ^ i)) (nI (2 ^ j)) = some (nI (fb_ct (fun r => E fs sc r i && E fs sc r j) n)) := by
  have h := ct_and hn (mk_lt (fun r => E fs sc r i) n) (fun r => E fs sc r j)
  have e : fb_ct (fun r => (mk (fun r => E fs sc r i) n).testBit r && E fs sc r j) n = fb_ct (fun r => E fs sc r i && E fs sc r j) n := fb_ct_cong (fun k hk => by rw [mk_bit]; simp [hk])
  rw [e] at h
  unfold FX2_between
  simp (disch := omega) only [x_place, Option.bind_some, rd_nI, hA i hi, hA j hj, h]
theorem x_inside {At H : Nat → Int32} (hE : EndsOK n p fs sc F S) (hA : AtOK n p fs sc At) : ∃ H', FX2_countInside H (nI p) At = some H' ∧ ∀ Z, Z < 2 ^ p → H' Z = nI (ins fs sc n Z) := by
  have hn := hE.1
  have hp := hE.2.1
  have h12 : (2 : Nat) ^ p ≤ 4096 := Nat.pow_le_pow_right (n := 2) (by decide) hp
  have hp1 : 0 < 2 ^ p := Nat.two_pow_pos p
  have key := for_inv (f := X2_countInside_L17 At (nI (2 ^ p - 1))) (fun (g : Nat → Int32) Z => (g, nI Z)) (2 ^ p) (fun i g => 1 ≤ i ∧ ∀ Z, Z < i → g Z = nI (ins fs sc n Z)) (fun g => ∀ Z, Z < 2 ^ p → g Z = nI (ins fs sc n Z)) (fun Z g hZ hI => ?_) (fun g hI => ?_) (i := 1) (a := upd H 0 0) hp1 ⟨Nat.le_refl _, fun Z hZ => ?_⟩
  · obtain ⟨r, h1, h2⟩ := key
    refine ⟨r, ?_, h2⟩
    unfold FX2_countInside FX3_allPosts
    rw [ones_nI (by omega), Option.bind_some, show (0 : Int32) = nI 0 from rfl, wr_nI (by decide) (by decide)]
    exact h1
  · left
    obtain ⟨h1, hg⟩ := hI
    have hZ0 : Z ≠ 0 := by omega
    obtain ⟨i, hi⟩ : ∃ i, i = fa_first (fun i => Z.testBit i) 12 := ⟨_, rfl⟩
    obtain ⟨i1, i2⟩ := low_bit hZ hZ0 hp
    rw [← hi] at i1 i2
    have l1 : nI Z &&& -nI Z = nI (2 ^ i) := by rw [low_nI (by omega), if_neg hZ0, ← hi]
    have hnle : ¬ nI (2 ^ p - 1) < nI Z := by rw [nI_ltI (by omega) (by omega)]; omega
    have hY := xor_low i2
    obtain ⟨Y, eY⟩ : ∃ Y, Y = Z ^^^ 2 ^ i := ⟨_, rfl⟩
    rw [← eY] at hY
    by_cases hY0 : Y = 0
    · refine ⟨upd g Z 0, ?_, by omega, fun W hW => ?_⟩
      · have l2 : nI 0 &&& -nI 0 = (0 : Int32) := by decide
        simp (disch := omega) only [X2_countInside_L17, hnle, ↓reduceIte, bnd_at, l1, fb_xorI, ← eY, hY0, l2, wr_nI, nI_1]
      · rw [upd_at]
        by_cases e : W = Z
        · rw [if_pos e, e]
          have : Z = 2 ^ i := by
            rw [hY0] at eY
            have := congrArg (fun q => q ^^^ 2 ^ i) eY
            simp only [Nat.zero_xor, Nat.xor_assoc, Nat.xor_self, Nat.xor_zero] at this
            exact this.symm
          rw [this, ins_one hE]
          rfl
        · rw [if_neg e]; exact hg W (by omega)
    · obtain ⟨j, hj⟩ : ∃ j, j = fa_first (fun i => Y.testBit i) 12 := ⟨_, rfl⟩
      obtain ⟨j1, j2⟩ := low_bit (Nat.lt_trans hY hZ) hY0 hp
      rw [← hj] at j1 j2
      have l2 : nI Y &&& -nI Y = nI (2 ^ j) := by rw [low_nI (by omega), if_neg hY0, ← hj]
      have hij : i ≠ j := fun e => by
        rw [eY, xor_bit, ← e, i2] at j2
        simp at j2
      have hjZ : Z.testBit j = true := by
        rw [eY, xor_bit] at j2
        simpa [Ne.symm hij] using j2
      have hr := ins_rec hE i2 hjZ hij
      rw [← eY] at hr
      have hW := xor_low hjZ
      have hV := xor_low j2
      have hpj : ¬ nI (2 ^ j) = 0 := by
        have hj12 : (2 : Nat) ^ j < 2 ^ 12 := Nat.pow_lt_pow_right (by decide) (by omega)
        have := Nat.two_pow_pos j
        rw [eqR0 (by omega)]; omega
      have b1 := ins_le (fs := fs) (sc := sc) (n := n) Y
      have b2 := ins_le (fs := fs) (sc := sc) (n := n) (Z ^^^ 2 ^ j)
      have b3 := ins_le (fs := fs) (sc := sc) (n := n) (Y ^^^ 2 ^ j)
      refine ⟨upd g Z (nI (ins fs sc n Z)), ?_, by omega, fun W hW => ?_⟩
      · have ev : nI (ins fs sc n Y) + nI (ins fs sc n (Z ^^^ 2 ^ j)) - nI (ins fs sc n (Y ^^^ 2 ^ j)) + nI (fb_ct (fun r => E fs sc r i && E fs sc r j) n) = nI (ins fs sc n Z) := by
          have : nI (ins fs sc n Y) + nI (ins fs sc n (Z ^^^ 2 ^ j)) + nI (fb_ct (fun r => E fs sc r i && E fs sc r j) n) = nI (ins fs sc n Z) + nI (ins fs sc n (Y ^^^ 2 ^ j)) := by
            rw [nI_add, nI_add, nI_add, hr]
          grind
        simp (disch := omega) only [X2_countInside_L17, hnle, ↓reduceIte, bnd_at, l1, fb_xorI, ← eY, l2, hpj, rd_nI, hg Y hY, hg (Z ^^^ 2 ^ j) hW, hg (Y ^^^ 2 ^ j) (by omega), x_between hn hp hA i1 j1, Option.bind_some, wr_nI, nI_1, ev]
      · rw [upd_at]
        by_cases e : W = Z
        · rw [if_pos e, e]
        · rw [if_neg e]; exact hg W (by omega)
  · have hlt : nI (2 ^ p - 1) < nI (2 ^ p) := by rw [nI_ltI (by omega) (by omega)]; omega
    refine ⟨g, ?_, hI.2⟩
    simp only [X2_countInside_L17, hlt, ↓reduceIte]
  · have : Z = 0 := by omega
    rw [this, upd_at, if_pos rfl, ins_zero]
    rfl
end NEED
