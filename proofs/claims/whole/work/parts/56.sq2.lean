/-! ===== the square: the class's row ===== -/
section SQ2
variable {N : Nat} {tk : Nat → Nat} {Tk : Nat → Int32}
def dgt (a N c : Nat) : Nat := a / 10 ^ (N - 1 - c) % 10
def numD (d : Nat → Nat) : Nat → Nat
  | 0 => 0
  | c + 1 => numD d c * 10 + d c
theorem numD_lt {d : Nat → Nat} : ∀ {c : Nat}, (∀ j, j < c → d j < 10) → numD d c < 10 ^ c
  | 0, _ => by simp [numD]
  | c + 1, h => by
    have := numD_lt (c := c) (fun j hj => h j (by omega))
    have := h c (by omega)
    rw [numD, Nat.pow_succ]
    omega
theorem numD_div {d : Nat → Nat} {c : Nat} : ∀ (k : Nat), (∀ j, j < c + k → d j < 10) → numD d (c + k) / 10 ^ k = numD d c
  | 0, _ => by simp
  | k + 1, h => by
    have ih := numD_div (c := c) k (fun j hj => h j (by omega))
    have := h (c + k) (by omega)
    rw [show c + (k + 1) = (c + k) + 1 by omega, numD, Nat.pow_succ, Nat.mul_comm (10 ^ k) 10, ← Nat.div_div_eq_div_mul, show (numD d (c + k) * 10 + d (c + k)) / 10 = numD d (c + k) by omega, ih]
theorem dgt_numD {d : Nat → Nat} (h : ∀ j, j < N → d j < 10) {c : Nat} (hc : c < N) : dgt (numD d N) N c = d c := by
  unfold dgt
  have := numD_div (d := d) (c := c + 1) (N - 1 - c) (fun j hj => h j (by omega))
  rw [show c + 1 + (N - 1 - c) = N by omega] at this
  rw [this, numD]
  have := h c hc
  omega
theorem dgt_lt (a N c : Nat) : dgt a N c < 10 := Nat.mod_lt _ (by decide)
theorem numD_9 {d : Nat → Nat} (hN : N ≤ 9) (h : ∀ j, j < N → d j < 10) {c : Nat} (hc : c ≤ N) : numD d c < 10 ^ 9 := by
  have h1 := numD_lt (d := d) (c := c) (fun j hj => h j (by omega))
  have h2 : (10 : Nat) ^ c ≤ 10 ^ 9 := Nat.pow_le_pow_right (by decide) (by omega)
  omega
theorem x_digit {wy : Nat → Int32} {d : Nat → Nat} {c : Nat} (hN1 : 2 ≤ N) (hN : N ≤ 9) (hT : TkOK N tk Tk) (hw : ∀ Y, Y < 2 ^ N → wy Y = nI (Wn N tk (pcn Y) Y)) (hc : c < N) (hpc : pcn (Sx N d c) = N - c) (hpos : 0 < Wn N tk (N - c) (Sx N d c)) : ∃ v, FX5_leastDigit (nI N) Tk wy (nI c) (nI (Sx N d c)) = some (nI v) ∧ v < N ∧ okD N tk d c v = true ∧ 0 < Wn N tk (N - (c + 1)) (Sx N d c ^^^ 2 ^ v) ∧ ∀ u, u < v → okD N tk d c u = true → Wn N tk (N - (c + 1)) (Sx N d c ^^^ 2 ^ u) = 0 := by
  have h9 : (2 : Nat) ^ N ≤ 512 := Nat.pow_le_pow_right (n := 2) (by decide) hN
  have hS := sx_lt (N := N) d c
  obtain ⟨t1, t2⟩ := hT c hc
  obtain ⟨Z, eZ⟩ : ∃ Z, Z = Sx N d c := ⟨_, rfl⟩
  rw [← eZ] at hS hpc
  unfold okD
  rw [← eZ]
  obtain ⟨good, hg⟩ : ∃ good : Nat → Prop, good = fun v => (Z.testBit v && !(tk c).testBit v) = true ∧ 0 < Wn N tk (N - (c + 1)) (Z ^^^ 2 ^ v) := ⟨_, rfl⟩
  have hex : ∃ v, v < N ∧ good v := by
    obtain ⟨v, v1, v2, v3⟩ := (wn_pos hc).mp hpos
    unfold okD at v2
    rw [← eZ] at v2 v3
    exact ⟨v, v1, by rw [hg]; exact ⟨v2, v3⟩⟩
  have key := for_inv (f := X5_leastDigit_L10 Tk wy (nI c) (nI Z)) (fun (b : Int32) i => (b, (if i < N then nI (N - 1 - i) else (-1 : Int32)))) N (fun i b => (∀ u, N - i ≤ u → u < N → ¬ good u) ∨ ∃ v, b = nI v ∧ N - i ≤ v ∧ v < N ∧ good v ∧ ∀ u, N - i ≤ u → u < v → ¬ good u) (fun b => ∃ v, b = nI v ∧ v < N ∧ good v ∧ ∀ u, u < v → ¬ good u) (fun i b hi hI => ?_) (fun b hI => ?_) (i := 0) (a := 0) (Nat.zero_le _) (Or.inl (fun u h1 h2 => by omega))
  · obtain ⟨o, k1, v, rfl, v1, v2, v3⟩ := key
    rw [hg] at v2
    refine ⟨v, ?_, v1, v2.1, v2.2, fun u hu ho => ?_⟩
    · unfold FX5_leastDigit
      obtain ⟨m, hm⟩ : ∃ m, N = m + 1 := ⟨N - 1, by omega⟩
      rw [if_pos (by omega), Nat.sub_zero] at k1
      rw [bnd_at, hm, nI_pred]
      rw [hm, show m + 1 - 1 = m by omega] at k1
      exact k1
    · have := v3 u hu
      rw [hg] at this
      rcases Nat.eq_zero_or_pos (Wn N tk (N - (c + 1)) (Z ^^^ 2 ^ u)) with z | z
      · exact z
      · exact absurd ⟨ho, z⟩ this
  · left
    rw [if_pos hi]
    obtain ⟨u, hu⟩ : ∃ u, u = N - 1 - i := ⟨_, rfl⟩
    have hu1 : N - i = u + 1 := by omega
    have hu2 : N - (i + 1) = u := by omega
    have hnext : nI u + -1 = if i + 1 < N then nI (N - 1 - (i + 1)) else (-1 : Int32) := by
      by_cases q : i + 1 < N
      · rw [if_pos q, show u = (N - 1 - (i + 1)) + 1 by omega, nI_dn]
      · rw [if_neg q, show u = 0 by omega]; decide
    have hneg : ¬ nI u < (0 : Int32) := by rw [ltR0 (by omega)]; omega
    have hsd : sd Z (tk c) < 2 ^ 31 := by have := sd_lt (T := tk c) hS; omega
    have hsb := sd_bit Z (tk c) u
    rw [hu1] at hI
    rw [hu2, ← hu]
    have no : ¬ good u → (∀ w, u ≤ w → w < N → ¬ good w) ∨ ∃ v, b = nI v ∧ u ≤ v ∧ v < N ∧ good v ∧ ∀ w, u ≤ w → w < v → ¬ good w := fun hn => by
      rcases hI with h | ⟨v, v1, v2, v3, v4, v5⟩
      · left
        intro w h1 h2
        by_cases e : w = u
        · rw [e]; exact hn
        · exact h w (by omega) h2
      · right
        refine ⟨v, v1, by omega, v3, v4, fun w h1 h2 => ?_⟩
        by_cases e : w = u
        · rw [e]; exact hn
        · exact v5 w (by omega) h2
    cases hb : Z.testBit u && !(tk c).testBit u
    · rw [hb] at hsb
      refine ⟨b, ?_, no (fun q => by rw [hg] at q; rw [hb] at q; exact Bool.noConfusion q.1)⟩
      simp (disch := omega) only [X5_leastDigit_L10, hneg, ↓reduceIte, rd_nI, t1, andnot_nI, isIn_nI, hsb, Bool.false_eq_true, Option.bind_some, bnd_at, hnext]
    · rw [hb] at hsb
      have hZu : Z.testBit u = true := by
        simp only [Bool.and_eq_true] at hb
        exact hb.1
      have hlow := xor_low hZu
      have hp := pcn_xor (by omega) hZu
      have hwv := hw (Z ^^^ 2 ^ u) (by omega)
      rw [show pcn (Z ^^^ 2 ^ u) = N - (c + 1) by omega] at hwv
      have hwl := wn_lt (tk := tk) hN (show N - (c + 1) ≤ 9 by omega) (Z ^^^ 2 ^ u)
      by_cases hz : Wn N tk (N - (c + 1)) (Z ^^^ 2 ^ u) ≤ 0
      · refine ⟨b, ?_, no (fun q => by rw [hg] at q; have := q.2; omega)⟩
        simp (disch := omega) only [X5_leastDigit_L10, hneg, ↓reduceIte, rd_nI, t1, andnot_nI, isIn_nI, hsb, Option.bind_some, o10, sh_nI, fb_xorI, hwv, leR0, hz, bnd_at, hnext]
      · refine ⟨nI u, ?_, Or.inr ⟨u, rfl, Nat.le_refl _, by omega, by rw [hg]; exact ⟨hb, by omega⟩, fun w h1 h2 => by omega⟩⟩
        simp (disch := omega) only [X5_leastDigit_L10, hneg, ↓reduceIte, rd_nI, t1, andnot_nI, isIn_nI, hsb, Option.bind_some, o10, sh_nI, fb_xorI, hwv, leR0, hz, bnd_at, hnext]
  · rw [if_neg (Nat.lt_irrefl N)]
    have hm1 : (-1 : Int32) < 0 := by decide
    rw [Nat.sub_self] at hI
    rcases hI with h | ⟨v, v1, v2, v3, v4, v5⟩
    · obtain ⟨v, v1, v2⟩ := hex
      exact absurd v2 (h v (Nat.zero_le _) v1)
    · exact ⟨b, by simp only [X5_leastDigit_L10, hm1, ↓reduceIte], v, v1, v3, v4, fun u hu => v5 u (Nat.zero_le _) hu⟩
theorem x_leastNext {wy : Nat → Int32} (hN1 : 2 ≤ N) (hN : N ≤ 9) (hT : TkOK N tk Tk) (hpos : 0 < Wn N tk N (2 ^ N - 1)) : ∃ (d : Nat → Nat) (wy' : Nat → Int32), FX5_leastNext (nI N) Tk wy = some (nI (numD d N), wy') ∧ (∀ c, c < N → LexAt N tk d c) := by
  have h9 : (2 : Nat) ^ N ≤ 512 := Nat.pow_le_pow_right (n := 2) (by decide) hN
  obtain ⟨wy', k1, k2⟩ := x_fill (wy := wy) hN1 hN hT
  have key := for_inv (f := X5_leastNext_L13 (nI N) Tk wy') (fun (z : Int32 × Int32) i => (z.1, z.2, nI i)) N (fun c z => ∃ d : Nat → Nat, z = (nI (Sx N d c), nI (numD d c)) ∧ pcn (Sx N d c) = N - c ∧ 0 < Wn N tk (N - c) (Sx N d c) ∧ ∀ j, j < c → LexAt N tk d j) (fun o => ∃ d : Nat → Nat, o = (nI (numD d N), wy') ∧ ∀ c, c < N → LexAt N tk d c) (fun c z hc hI => ?_) (fun z hI => ?_) (i := 0) (a := (nI (2 ^ N - 1), 0)) (Nat.zero_le _) ⟨fun _ => 0, by rw [sx_0]; rfl, by rw [sx_0, pcn_full hN]; rfl, by rw [sx_0]; exact hpos, fun j hj => by omega⟩
  · obtain ⟨o, q1, d, rfl, q2⟩ := key
    refine ⟨d, wy', ?_, q2⟩
    unfold FX5_leastNext FX5_allNumbers
    rw [k1, Option.bind_some, ones_nI (by omega), Option.bind_some]
    exact q1
  · left
    obtain ⟨d, rfl, i2, i3, i4⟩ := hI
    obtain ⟨v, v1, v2, v3, v4, v5⟩ := x_digit hN1 hN hT k2 hc i2 i3
    have hge : ¬ nI N ≤ nI c := by rw [nI_leI (by omega) (by omega)]; omega
    have hcS : ∀ i, i ≤ c → Sx N (fun j => if j = c then v else d j) i = Sx N d i := fun i hi => sx_cong (fun j hj => by
      have : ¬ j = c := by omega
      simp [this])
    have hcn : ∀ i, i ≤ c → numD (fun j => if j = c then v else d j) i = numD d i := by
      intro i
      induction i with
      | zero => intro _; rfl
      | succ i ih =>
        intro hi
        rw [numD, numD, ih (by omega)]
        have : ¬ i = c := by omega
        simp [this]
    have hlex : ∀ j, j < c + 1 → LexAt N tk (fun j => if j = c then v else d j) j := fun j hj => by
      unfold LexAt okD
      rw [hcS j (by omega)]
      by_cases e : j = c
      · subst e
        simp only [↓reduceIte]
        exact ⟨v3, v4, v5⟩
      · simp only [e, ↓reduceIte]
        exact i4 j (by omega)
    have hSb : (Sx N (fun j => if j = c then v else d j) c).testBit ((fun j => if j = c then v else d j) c) = true := by
      rw [hcS c (Nat.le_refl _)]
      simp only [↓reduceIte]
      unfold okD at v3
      simp only [Bool.and_eq_true] at v3
      exact v3.1
    have hS1 : Sx N (fun j => if j = c then v else d j) (c + 1) = Sx N d c ^^^ 2 ^ v := by
      rw [sx_succ hSb, hcS c (Nat.le_refl _)]
      simp only [↓reduceIte]
    have hSl := sx_lt (N := N) d c
    have hvb : (Sx N d c).testBit v = true := by
      unfold okD at v3
      simp only [Bool.and_eq_true] at v3
      exact v3.1
    have hpx := pcn_xor (by omega) hvb
    refine ⟨(nI (Sx N d c ^^^ 2 ^ v), nI (numD d c * 10 + v)), ?_, fun j => if j = c then v else d j, ?_, ?_, ?_, hlex⟩
    · unfold X5_leastNext_L13
      simp only [hge, ↓reduceIte, v1, Option.bind_some, bnd_at, nI_1]
      rw [sh_nI (by omega), fb_xorI, show (10 : Int32) = nI 10 from rfl, ml_nI, nI_add]
    · rw [hS1, numD, hcn c (Nat.le_refl _)]
      simp only [↓reduceIte]
    · rw [hS1]; omega
    · rw [hS1]; exact v4
  · obtain ⟨d, rfl, i2, i3, i4⟩ := hI
    refine ⟨_, ?_, d, rfl, i4⟩
    simp only [X5_leastNext_L13, Int32.le_refl, ↓reduceIte]
/-- a row laid into the cells -/
def rowf (cell : Nat → Int32) (h N : Nat) (d : Nat → Nat) : Nat → Int32 := fun i => if 9 * h ≤ i ∧ i < 9 * h + N then nI (d (i - 9 * h)) else cell i
theorem x_append {cell : Nat → Int32} {h a : Nat} (hN1 : 2 ≤ N) (hN : N ≤ 9) (hh : h < 9) (ha : a < 2 ^ 31) (hT : TkOK N tk Tk) : ∃ Tk', FX5_append (nI N) (nI h) cell Tk (nI a) = some (nI (h + 1), rowf cell h N (dgt a N), Tk') ∧ ∀ j, j < N → Tk' j = nI (tk j ||| 2 ^ dgt a N j) := by
  have key := for_inv (f := X5_append_L9 (nI h)) (fun (z : (Nat → Int32) × (Nat → Int32)) i => (z.1, z.2, nI (a / 10 ^ i), (if i < N then nI (N - 1 - i) else (-1 : Int32)))) N (fun i z => (∀ q, z.1 q = if 9 * h + (N - i) ≤ q ∧ q < 9 * h + N then nI (dgt a N (q - 9 * h)) else cell q) ∧ ∀ j, j < N → z.2 j = if N - i ≤ j then nI (tk j ||| 2 ^ dgt a N j) else nI (tk j)) (fun o => o.1 = nI (h + 1) ∧ o.2.1 = rowf cell h N (dgt a N) ∧ ∀ j, j < N → o.2.2 j = nI (tk j ||| 2 ^ dgt a N j)) (fun i z hi hI => ?_) (fun z hI => ?_) (i := 0) (a := (cell, Tk)) (Nat.zero_le _) ⟨fun q => by rw [if_neg (by omega)], fun j hj => by rw [if_neg (by omega)]; exact (hT j hj).1⟩
  · obtain ⟨⟨o1, o2, o3⟩, k1, k2, k3, k4⟩ := key
    simp only at k2 k3 k4
    rw [k2, k3] at k1
    refine ⟨o3, ?_, k4⟩
    unfold FX5_append
    obtain ⟨m, hm⟩ : ∃ m, N = m + 1 := ⟨N - 1, by omega⟩
    rw [bnd_at]
    rw [if_pos (by omega), Nat.sub_zero, Nat.pow_zero, Nat.div_one] at k1
    rw [show nI N - 1 = nI (N - 1) by rw [hm, nI_pred]; rfl]
    exact k1
  · left
    obtain ⟨zc, zt⟩ := z
    obtain ⟨i1, i2⟩ := hI
    simp only at i1 i2
    rw [if_pos hi]
    obtain ⟨c, hc⟩ : ∃ c, c = N - 1 - i := ⟨_, rfl⟩
    have hnext : nI c + -1 = if i + 1 < N then nI (N - 1 - (i + 1)) else (-1 : Int32) := by
      by_cases q : i + 1 < N
      · rw [if_pos q, show c = (N - 1 - (i + 1)) + 1 by omega, nI_dn]
      · rw [if_neg q, show c = 0 by omega]; decide
    have hai : a / 10 ^ i < 2 ^ 31 := Nat.lt_of_le_of_lt (Nat.div_le_self _ _) ha
    have hdg : a / 10 ^ i % 10 = dgt a N c := by unfold dgt; rw [show N - 1 - c = i by omega]
    have hdl := dgt_lt a N c
    have hneg : ¬ nI c < (0 : Int32) := by rw [ltR0 (by omega)]; omega
    have hdiv : a / 10 ^ i / 10 = a / 10 ^ (i + 1) := by rw [Nat.pow_succ, Nat.div_div_eq_div_mul]
    have htc : zt c = nI (tk c) := by rw [i2 c (by omega), if_neg (by omega)]
    rw [← hc, ← hnext]
    refine ⟨(upd zc (9 * h + c) (nI (dgt a N c)), upd zt c (nI (tk c ||| 2 ^ dgt a N c))), ?_, fun q => ?_, fun j hj => ?_⟩
    · unfold X5_append_L9
      simp only [hneg, ↓reduceIte]
      rw [show (10 : Int32) = nI 10 from rfl, rm_nI hai (by decide) (by decide), hdg, show (9 : Int32) = nI 9 from rfl, ml_nI, nI_add, show h * 9 + c = 9 * h + c by omega, wr_nI (by omega) (by decide), rd_nI (by omega) (by decide), htc, sh_nI (by omega), fa_or, wr_nI (by omega) (by decide), dv_nI hai (by decide) (by decide), hdiv, bnd_at]
    · show upd zc (9 * h + c) (nI (dgt a N c)) q = _
      rw [upd_at]
      by_cases e : q = 9 * h + c
      · rw [if_pos e, if_pos (by omega), e, show 9 * h + c - 9 * h = c by omega]
      · rw [if_neg e, i1 q]
        by_cases e2 : 9 * h + (N - i) ≤ q ∧ q < 9 * h + N
        · rw [if_pos e2, if_pos (by omega)]
        · rw [if_neg e2, if_neg (by omega)]
    · show upd zt c _ j = _
      rw [upd_at]
      by_cases e : j = c
      · rw [if_pos e, if_pos (by omega), e]
      · rw [if_neg e, i2 j hj]
        by_cases e2 : N - i ≤ j
        · rw [if_pos e2, if_pos (by omega)]
        · rw [if_neg e2, if_neg (by omega)]
  · obtain ⟨zc, zt⟩ := z
    obtain ⟨i1, i2⟩ := hI
    simp only at i1 i2
    rw [if_neg (Nat.lt_irrefl N)]
    have hm1 : (-1 : Int32) < 0 := by decide
    refine ⟨(nI (h + 1), zc, zt), ?_, rfl, funext fun q => ?_, fun j hj => ?_⟩
    · simp only [X5_append_L9, hm1, ↓reduceIte, bnd_at, nI_1]
    · show zc q = _
      rw [i1 q, Nat.sub_self]
      unfold rowf
      simp only [Nat.add_zero]
    · show zt j = _
      rw [i2 j hj, if_pos (by omega)]
def GoodRow (N : Nat) (tk : Nat → Nat) (a : Nat) : Prop := a / 10 ^ N = 0 ∧ (∀ c, c < N → dgt a N c < N ∧ (tk c).testBit (dgt a N c) = false) ∧ ∀ i j, i < j → j < N → dgt a N i ≠ dgt a N j
theorem x_canStand {a : Nat} (hN1 : 2 ≤ N) (hN : N ≤ 9) (ha : a < 2 ^ 31) (hT : TkOK N tk Tk) : ∃ b : Bool, FX5_canStandNext (nI N) Tk (nI a) = some (if b then 1 else 0) ∧ (b = true ↔ GoodRow N tk a) := by
  have h9 : (2 : Nat) ^ N ≤ 512 := Nat.pow_le_pow_right (n := 2) (by decide) hN
  unfold FX5_canStandNext FX5_allNumbers
  rw [if_pos (nI_pos' ha), ones_nI (by omega), Option.bind_some, bnd_at]
  have key := for_inv (f := X5_canStandNext_L21 Tk) (fun (Z : Nat) i => (nI Z, nI (a / 10 ^ i), (if i < N then nI (N - 1 - i) else (-1 : Int32)))) N (fun i Z => Z < 2 ^ N ∧ (∀ v, Z.testBit v = true ↔ v < N ∧ ∀ j, N - i ≤ j → j < N → dgt a N j ≠ v) ∧ (∀ c, N - i ≤ c → c < N → dgt a N c < N ∧ (tk c).testBit (dgt a N c) = false) ∧ ∀ c j, N - i ≤ c → c < j → j < N → dgt a N c ≠ dgt a N j) (fun o => ∃ b : Bool, o = (if b then 1 else 0) ∧ (b = true ↔ GoodRow N tk a)) (fun i Z hi hI => ?_) (fun Z hI => ?_) (i := 0) (a := 2 ^ N - 1) (Nat.zero_le _) ⟨by have := Nat.two_pow_pos N; omega, fun v => by rw [all_bit]; exact ⟨fun q => ⟨q, fun j h1 h2 => by omega⟩, fun q => q.1⟩, fun c h1 h2 => by omega, fun c j h1 h2 h3 => by omega⟩
  · obtain ⟨o, k1, b, rfl, k2⟩ := key
    refine ⟨b, ?_, k2⟩
    obtain ⟨m, hm⟩ : ∃ m, N = m + 1 := ⟨N - 1, by omega⟩
    rw [if_pos (by omega), Nat.sub_zero, Nat.pow_zero, Nat.div_one] at k1
    rw [show nI N - 1 = nI (N - 1) by rw [hm, nI_pred]; rfl]
    exact k1
  · obtain ⟨i1, i2, i3, i4⟩ := hI
    rw [if_pos hi]
    obtain ⟨c, hc⟩ : ∃ c, c = N - 1 - i := ⟨_, rfl⟩
    have hnext : nI c + -1 = if i + 1 < N then nI (N - 1 - (i + 1)) else (-1 : Int32) := by
      by_cases q : i + 1 < N
      · rw [if_pos q, show c = (N - 1 - (i + 1)) + 1 by omega, nI_dn]
      · rw [if_neg q, show c = 0 by omega]; decide
    have hai : a / 10 ^ i < 2 ^ 31 := Nat.lt_of_le_of_lt (Nat.div_le_self _ _) ha
    have hdg : a / 10 ^ i % 10 = dgt a N c := by unfold dgt; rw [show N - 1 - c = i by omega]
    have hdl := dgt_lt a N c
    have hneg : ¬ nI c < (0 : Int32) := by rw [ltR0 (by omega)]; omega
    have hdiv : a / 10 ^ i / 10 = a / 10 ^ (i + 1) := by rw [Nat.pow_succ, Nat.div_div_eq_div_mul]
    obtain ⟨t1, t2⟩ := hT c (by omega)
    have hsd : sd Z (tk c) < 2 ^ 31 := by have := sd_lt (T := tk c) i1; omega
    have hsb := sd_bit Z (tk c) (dgt a N c)
    rw [← hc, ← hnext]
    have start : X5_canStandNext_L21 Tk (nI Z, nI (a / 10 ^ i), nI c) = if (if (Z.testBit (dgt a N c) && !(tk c).testBit (dgt a N c)) = true then (1 : Int32) else 0) = 0 then some (.inr 0) else some (.inl (nI (Z ^^^ 2 ^ dgt a N c), nI (a / 10 ^ (i + 1)), nI c + -1)) := by
      unfold X5_canStandNext_L21
      simp only [hneg, ↓reduceIte]
      rw [show (10 : Int32) = nI 10 from rfl, rm_nI hai (by decide) (by decide), hdg, rd_nI (by omega) (by decide), t1, andnot_nI, isIn_nI hsd (by omega), hsb, Option.bind_some, sh_nI (by omega), fb_xorI, bnd_at, dv_nI hai (by decide) (by decide), hdiv, bnd_at]
    cases hb : Z.testBit (dgt a N c) && !(tk c).testBit (dgt a N c)
    · right
      refine ⟨0, by rw [start, hb]; rfl, false, rfl, fun z => Bool.noConfusion z, fun hgd => ?_⟩
      obtain ⟨g1, g2, g3⟩ := hgd
      obtain ⟨e1, e2⟩ := g2 c (by omega)
      rw [e2, Bool.not_false, Bool.and_true] at hb
      rw [(i2 (dgt a N c)).mpr ⟨e1, fun j h1 h2 => Ne.symm (g3 c j (by omega) h2)⟩] at hb
      exact hb.symm
    · left
      simp only [Bool.and_eq_true, Bool.not_eq_true'] at hb
      obtain ⟨b1, b2⟩ := hb
      obtain ⟨c1, c2⟩ := (i2 _).mp b1
      have hlow := xor_low b1
      refine ⟨Z ^^^ 2 ^ dgt a N c, by rw [start, b1, b2]; rfl, by omega, fun v => ?_, fun c' h1 h2 => ?_, fun c' j h1 h2 h3 => ?_⟩
      · rw [xor_bit]
        by_cases e : v = dgt a N c
        · rw [e, b1]
          simp only [decide_true, Bool.xor_self, Bool.false_eq_true, false_iff, not_and]
          intro _ hq
          exact hq c (by omega) (by omega) rfl
        · simp only [e, decide_false, Bool.xor_false]
          rw [i2 v]
          refine ⟨fun q => ⟨q.1, fun j h1 h2 => ?_⟩, fun q => ⟨q.1, fun j h1 h2 => q.2 j (by omega) h2⟩⟩
          by_cases e2 : j = c
          · rw [e2]; exact Ne.symm e
          · exact q.2 j (by omega) h2
      · by_cases e : c' = c
        · rw [e]; exact ⟨c1, b2⟩
        · exact i3 c' (by omega) h2
      · by_cases e : c' = c
        · rw [e]
          exact Ne.symm (c2 j (by omega) h3)
        · exact i4 c' j (by omega) h2 h3
  · obtain ⟨i1, i2, i3, i4⟩ := hI
    rw [if_neg (Nat.lt_irrefl N), Nat.sub_self] at *
    have hm1 : (-1 : Int32) < 0 := by decide
    have hai : a / 10 ^ N < 2 ^ 31 := Nat.lt_of_le_of_lt (Nat.div_le_self _ _) ha
    by_cases h0 : a / 10 ^ N = 0
    · refine ⟨1, ?_, true, rfl, fun _ => ⟨h0, fun c hc => i3 c (Nat.zero_le _) hc, fun i j h1 h2 => i4 i j (Nat.zero_le _) h1 h2⟩, fun _ => rfl⟩
      have h0' : nI (a / 10 ^ N) = 0 := by rw [h0]; rfl
      simp only [X5_canStandNext_L21, hm1, ↓reduceIte, X5_canStandNext_J71, eq_true h0', Option.map_some]
    · refine ⟨0, ?_, false, rfl, fun z => Bool.noConfusion z, fun z => absurd z.1 h0⟩
      have h0' : ¬ nI (a / 10 ^ N) = 0 := by rw [eqR0 hai]; exact h0
      simp only [X5_canStandNext_L21, hm1, ↓reduceIte, X5_canStandNext_J71, h0', Option.map_some]
end SQ2
