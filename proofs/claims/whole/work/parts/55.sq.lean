/-! ===== the square: the ways to fill a row ===== -/
section SQ
variable {N : Nat} {tk : Nat → Nat} {Tk : Nat → Int32}
def Wn (N : Nat) (tk : Nat → Nat) : Nat → Nat → Nat
  | 0, _ => 1
  | e + 1, Z => fb_sm (fun v => if Z.testBit v && !(tk (N - (e + 1))).testBit v then Wn N tk e (Z ^^^ 2 ^ v) else 0) N
theorem wn_le (hN : N ≤ 9) : ∀ (e Z : Nat), Wn N tk e Z ≤ 9 ^ e
  | 0, _ => Nat.le_refl _
  | e + 1, Z => by
    rw [Wn]
    have := fb_sm_bound (f := fun v => if Z.testBit v && !(tk (N - (e + 1))).testBit v then Wn N tk e (Z ^^^ 2 ^ v) else 0) (c := 9 ^ e) (n := N) (fun v _ => by
      split
      · exact wn_le hN e _
      · exact Nat.zero_le _)
    refine Nat.le_trans this ?_
    rw [Nat.pow_succ, Nat.mul_comm]
    exact Nat.mul_le_mul_left _ hN
theorem wn_lt (hN : N ≤ 9) {e : Nat} (he : e ≤ 9) (Z : Nat) : Wn N tk e Z < 2 ^ 29 := by
  have h1 := wn_le (tk := tk) hN e Z
  have h2 : (9 : Nat) ^ e ≤ 9 ^ 9 := Nat.pow_le_pow_right (by decide) he
  have h3 : (9 : Nat) ^ 9 < 2 ^ 29 := by decide
  omega
def TkOK (N : Nat) (tk : Nat → Nat) (Tk : Nat → Int32) : Prop := ∀ j, j < N → Tk j = nI (tk j) ∧ tk j < 2 ^ N
theorem pcn_xor {Z v : Nat} (hZ : Z < 2 ^ 32) (hv : Z.testBit v = true) : pcn (Z ^^^ 2 ^ v) + 1 = pcn Z := by
  have hv32 := bit_lt hZ hv
  unfold pcn
  have h := fb_ct_upd (fun i => Z.testBit i) false hv32
  have e : fb_ct (fun i => (Z ^^^ 2 ^ v).testBit i) 32 = fb_ct (fun k => if k = v then false else Z.testBit k) 32 := fb_ct_cong (fun k _ => by
    rw [xor_bit]
    by_cases q : k = v
    · simp [q, hv]
    · simp [q])
  rw [e]
  simp only [hv, ↓reduceIte, Bool.false_eq_true] at h
  omega
theorem x_waysFor {wy : Nat → Int32} {Z c : Nat} (hN : N ≤ 9) (hT : TkOK N tk Tk) (hZ : Z < 2 ^ N) (hc : c < N) (hcz : N - c = pcn Z) (hw : ∀ Y, Y < Z → wy Y = nI (Wn N tk (pcn Y) Y)) : FX5_waysFor (nI N) Tk wy (nI Z) (nI c) = some (nI (Wn N tk (pcn Z) Z)) := by
  have h9 : (2 : Nat) ^ N ≤ 512 := Nat.pow_le_pow_right (n := 2) (by decide) hN
  obtain ⟨t1, t2⟩ := hT c hc
  obtain ⟨e, he⟩ : ∃ e, pcn Z = e + 1 := ⟨pcn Z - 1, by omega⟩
  have hce : N - (e + 1) = c := by omega
  obtain ⟨f, hf⟩ : ∃ f : Nat → Nat, f = fun v => if Z.testBit v && !(tk c).testBit v then Wn N tk e (Z ^^^ 2 ^ v) else 0 := ⟨_, rfl⟩
  have hW : Wn N tk (pcn Z) Z = fb_sm f N := by rw [he, Wn, hce, hf]
  rw [hW]
  unfold FX5_waysFor
  refine for_fun (fun i => (nI (fb_sm f i), nI i)) 0 N (Nat.zero_le _) (fun v _ hv => ?_) ?_
  · have hsd : sd Z (tk c) < 2 ^ 31 := by have := sd_lt (T := tk c) hZ; omega
    have hsb := sd_bit Z (tk c) v
    rw [fb_sm_succ]
    cases hb : Z.testBit v && !(tk c).testBit v
    · have hfv : f v = 0 := by rw [hf]; simp only [hb, Bool.false_eq_true, ↓reduceIte]
      rw [hb] at hsb
      simp (disch := omega) only [X5_waysFor_L5, nI_leI, Nat.not_le.mpr hv, ↓reduceIte, rd_nI, t1, andnot_nI, isIn_nI, hsb, Bool.false_eq_true, Option.bind_some, bnd_at, nI_1, hfv, Nat.add_zero]
    · have hfv : f v = Wn N tk e (Z ^^^ 2 ^ v) := by rw [hf]; simp only [hb, ↓reduceIte]
      rw [hb] at hsb
      simp only [Bool.and_eq_true] at hb
      have hlow := xor_low hb.1
      have hp := pcn_xor (by omega) hb.1
      have hwv := hw (Z ^^^ 2 ^ v) hlow
      rw [show pcn (Z ^^^ 2 ^ v) = e by omega] at hwv
      simp (disch := omega) only [X5_waysFor_L5, nI_leI, Nat.not_le.mpr hv, ↓reduceIte, rd_nI, t1, andnot_nI, isIn_nI, hsb, Option.bind_some, o10, sh_nI, fb_xorI, hwv, nI_add, bnd_at, nI_1, hfv]
  · simp only [X5_waysFor_L5, Int32.le_refl, ↓reduceIte]
theorem x_fill {wy : Nat → Int32} (hN1 : 2 ≤ N) (hN : N ≤ 9) (hT : TkOK N tk Tk) : ∃ wy', FX5_fillWays (nI N) Tk wy = some wy' ∧ ∀ Y, Y < 2 ^ N → wy' Y = nI (Wn N tk (pcn Y) Y) := by
  have h9 : (2 : Nat) ^ N ≤ 512 := Nat.pow_le_pow_right (n := 2) (by decide) hN
  have hp1 : 0 < 2 ^ N := Nat.two_pow_pos N
  have h4 : 2 ^ 2 ≤ 2 ^ N := Nat.pow_le_pow_right (by decide) hN1
  have key := for_inv (f := X5_fillWays_L9 (nI N) Tk) (fun (g : Nat → Int32) i => (g, nI i)) (2 ^ N) (fun i g => 1 ≤ i ∧ ∀ Y, Y < i → g Y = nI (Wn N tk (pcn Y) Y)) (fun g => ∀ Y, Y < 2 ^ N → g Y = nI (Wn N tk (pcn Y) Y)) (fun Z g hZ hI => ?_) (fun g hI => ?_) (i := 1) (a := upd wy 0 1) (by omega) ⟨Nat.le_refl _, fun Y hY => ?_⟩
  · obtain ⟨g, k1, k2⟩ := key
    refine ⟨g, ?_, k2⟩
    unfold FX5_fillWays
    rw [show (0 : Int32) = nI 0 from rfl, wr_nI (by decide) (by decide)]
    exact k1
  · left
    obtain ⟨i1, i2⟩ := hI
    have hpc := pcn_le hZ (by omega)
    have hpos : 1 ≤ pcn Z := by
      obtain ⟨q1, q2⟩ := low_bit hZ (by omega) (by omega)
      have := pcn_xor (by omega) q2
      omega
    have hge : ¬ nI (2 ^ N - 1) < nI Z := by rw [nI_ltI (by omega) (by omega)]; omega
    have hs : nI N - nI (pcn Z) = nI (N - pcn Z) := by
      have : nI (N - pcn Z) + nI (pcn Z) = nI N := by rw [nI_add, show N - pcn Z + pcn Z = N by omega]
      rw [← this]
      grind
    have hw := x_waysFor (wy := g) (c := N - pcn Z) hN hT hZ (by omega) (by omega) i2
    refine ⟨upd g Z (nI (Wn N tk (pcn Z) Z)), ?_, by omega, fun Y hY => ?_⟩
    · simp (disch := omega) only [X5_fillWays_L9, FX5_allNumbers, ones_nI, Option.bind_some, hge, ↓reduceIte, bc_nI, hs, hw, wr_nI, bnd_at, nI_1]
    · rw [upd_at]
      by_cases e : Y = Z
      · rw [if_pos e, e]
      · rw [if_neg e]; exact i2 Y (by omega)
  · refine ⟨g, ?_, hI.2⟩
    have hlt : nI (2 ^ N - 1) < nI (2 ^ N) := by rw [nI_ltI (by omega) (by omega)]; omega
    simp (disch := omega) only [X5_fillWays_L9, FX5_allNumbers, ones_nI, Option.bind_some, hlt, ↓reduceIte]
  · rw [show Y = 0 by omega, upd_at, if_pos rfl, show pcn 0 = 0 by decide, Wn]
    rfl
theorem pcn_full (hN : N ≤ 9) : pcn (2 ^ N - 1) = N := by
  have e : 2 ^ N - 1 = mk (fun _ => true) N := Nat.eq_of_testBit_eq (fun i => by rw [Nat.testBit_two_pow_sub_one, mk_bit]; simp)
  rw [e, pcn_mk _ (by omega)]
  exact fb_ct_all.mpr (fun _ _ => rfl)
theorem x_waysNext {wy : Nat → Int32} (hN1 : 2 ≤ N) (hN : N ≤ 9) (hT : TkOK N tk Tk) : ∃ wy', FX5_waysNext (nI N) Tk wy = some (nI (Wn N tk N (2 ^ N - 1)), wy') := by
  have h9 : (2 : Nat) ^ N ≤ 512 := Nat.pow_le_pow_right (n := 2) (by decide) hN
  have hp1 : 0 < 2 ^ N := Nat.two_pow_pos N
  obtain ⟨wy', k1, k2⟩ := x_fill (wy := wy) hN1 hN hT
  refine ⟨wy', ?_⟩
  unfold FX5_waysNext FX5_allNumbers
  rw [k1, Option.bind_some, ones_nI (by omega), Option.bind_some, rd_nI (by omega) (by decide), k2 _ (by omega), pcn_full hN]
/-- the numbers that the columns below c leave -/
def Sx (N : Nat) (d : Nat → Nat) (c : Nat) : Nat := mk (fun v => !(ex (fun j => decide (d j = v)) c)) N
theorem sx_bit {d : Nat → Nat} {c v : Nat} : (Sx N d c).testBit v = true ↔ v < N ∧ ∀ j, j < c → d j ≠ v := by
  unfold Sx
  rw [mk_bit]
  simp only [Bool.and_eq_true, decide_eq_true_eq, Bool.not_eq_true', ex_false, decide_eq_false_iff_not, ne_eq]
theorem sx_0 (d : Nat → Nat) : Sx N d 0 = 2 ^ N - 1 := Nat.eq_of_testBit_eq (fun i => by
  rw [Nat.testBit_two_pow_sub_one]
  cases h : (Sx N d 0).testBit i
  · have : ¬ i < N := fun q => by
      rw [sx_bit.mpr ⟨q, fun j hj => by omega⟩] at h; exact Bool.noConfusion h
    simp [this]
  · simp [(sx_bit.mp h).1])
theorem sx_succ {d : Nat → Nat} {c : Nat} (h : (Sx N d c).testBit (d c) = true) : Sx N d (c + 1) = Sx N d c ^^^ 2 ^ d c := Nat.eq_of_testBit_eq (fun i => by
  have hs := sx_bit.mp h
  rw [xor_bit]
  by_cases e : i = d c
  · rw [e, h]
    have : ¬ (Sx N d (c + 1)).testBit (d c) = true := fun q => (sx_bit.mp q).2 c (by omega) rfl
    simp at this
    simp [this]
  · simp only [e, decide_false, Bool.xor_false]
    cases q : (Sx N d c).testBit i
    · cases q2 : (Sx N d (c + 1)).testBit i
      · rfl
      · obtain ⟨a, b⟩ := sx_bit.mp q2
        rw [sx_bit.mpr ⟨a, fun j hj => b j (by omega)⟩] at q
        exact Bool.noConfusion q
    · obtain ⟨a, b⟩ := sx_bit.mp q
      exact sx_bit.mpr ⟨a, fun j hj => by
        by_cases z : j = c
        · rw [z]; exact Ne.symm e
        · exact b j (by omega)⟩)
theorem sx_cong {d d' : Nat → Nat} {c : Nat} (h : ∀ j, j < c → d j = d' j) : Sx N d c = Sx N d' c := by
  unfold Sx
  exact mk_cong (fun v _ => by rw [ex_cong (fun j hj => by rw [h j hj])])
theorem sx_lt (d : Nat → Nat) (c : Nat) : Sx N d c < 2 ^ N := mk_lt _ _
def okD (N : Nat) (tk : Nat → Nat) (d : Nat → Nat) (c v : Nat) : Bool := (Sx N d c).testBit v && !(tk c).testBit v
def LexAt (N : Nat) (tk : Nat → Nat) (d : Nat → Nat) (c : Nat) : Prop := okD N tk d c (d c) = true ∧ 0 < Wn N tk (N - (c + 1)) (Sx N d c ^^^ 2 ^ d c) ∧ ∀ v, v < d c → okD N tk d c v = true → Wn N tk (N - (c + 1)) (Sx N d c ^^^ 2 ^ v) = 0
theorem lexAt_one {d d' : Nat → Nat} (h : ∀ c, c < N → LexAt N tk d c) (h' : ∀ c, c < N → LexAt N tk d' c) : ∀ c, c < N → d c = d' c := by
  intro c
  induction c using Nat.strongRecOn with
  | _ c ih =>
    intro hc
    have hS : Sx N d c = Sx N d' c := sx_cong (fun j hj => ih j hj (by omega))
    obtain ⟨a1, a2, a3⟩ := h c hc
    obtain ⟨b1, b2, b3⟩ := h' c hc
    have hok : ∀ v, okD N tk d c v = okD N tk d' c v := fun v => by unfold okD; rw [hS]
    rcases Nat.lt_trichotomy (d c) (d' c) with q | q | q
    · have := b3 (d c) q (by rw [← hok]; exact a1)
      rw [← hS] at this
      omega
    · exact q
    · have := a3 (d' c) q (by rw [hok]; exact b1)
      rw [hS] at this
      omega
theorem wn_pos {d : Nat → Nat} {c : Nat} (hc : c < N) : 0 < Wn N tk (N - c) (Sx N d c) ↔ ∃ v, v < N ∧ okD N tk d c v = true ∧ 0 < Wn N tk (N - (c + 1)) (Sx N d c ^^^ 2 ^ v) := by
  rw [show N - c = (N - (c + 1)) + 1 by omega, Wn, show N - (N - (c + 1) + 1) = c by omega]
  constructor
  · intro h
    refine Classical.byContradiction (fun hno => ?_)
    have : fb_sm (fun v => if (Sx N d c).testBit v && !(tk c).testBit v then Wn N tk (N - (c + 1)) (Sx N d c ^^^ 2 ^ v) else 0) N ≤ N * 0 := fb_sm_bound (fun v hv => by
      split
      · rename_i q
        rcases Nat.eq_zero_or_pos (Wn N tk (N - (c + 1)) (Sx N d c ^^^ 2 ^ v)) with z | z
        · omega
        · exact absurd ⟨v, hv, q, z⟩ hno
      · exact Nat.le_refl _)
    omega
  · rintro ⟨v, v1, v2, v3⟩
    have := fb_sm_part (fun v => if (Sx N d c).testBit v && !(tk c).testBit v then Wn N tk (N - (c + 1)) (Sx N d c ^^^ 2 ^ v) else 0) v1
    unfold okD at v2
    simp only [v2, ↓reduceIte] at this
    omega
end SQ
