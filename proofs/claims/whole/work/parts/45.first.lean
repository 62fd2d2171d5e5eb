/-! ===== Pick: the first colouring, the fewest numbers, critical ===== -/
section FIRST
variable {n p : Nat} {fs sc : Nat → Nat} {F S Bs At : Nat → Int32}
def LexMin (fs sc : Nat → Nat) (n : Nat) (can : Nat → Nat) (col : Nat → Nat) : Prop := ColOK fs sc can (2 ^ n - 1) col ∧ ∀ r, r < n → ∀ m, m < col r → ¬ Ext fs sc n can (fun j => if j = r then m else col j) (r + 1)
theorem lex_one {can col col' : Nat → Nat} (h : LexMin fs sc n can col) (h' : LexMin fs sc n can col') : ∀ r, r < n → col r = col' r := by
  intro r
  induction r using Nat.strongRecOn with
  | _ r ih =>
    intro hr
    have agree : ∀ j, j < r → col j = col' j := fun j hj => ih j hj (by omega)
    rcases Nat.lt_trichotomy (col r) (col' r) with q | q | q
    · exact absurd ⟨col, h.1, fun j hj => by
        show col j = if j = r then col r else col' j
        by_cases e : j = r
        · rw [if_pos e, e]
        · rw [if_neg e]; exact agree j (by omega)⟩ (h'.2 r hr _ q)
    · exact q
    · exact absurd ⟨col', h'.1, fun j hj => by
        show col' j = if j = r then col' r else col j
        by_cases e : j = r
        · rw [if_pos e, e]
        · rw [if_neg e]; exact (agree j (by omega)).symm⟩ (h.2 r hr _ q)
theorem x_copy {P c : Nat → Int32} {a b d : Nat → Int32} {col : Nat → Nat} (hn : n ≤ 12) (hP : ∀ j, j < n → b j = nI (col j)) : loopO (X4_pickFirst_L48 a b d (nI n)) (c, 0) = some (1, a, b, d, fa_fill (fun r => nI (col r)) c n) := by
  have h0 : (c, (0 : Int32)) = (fa_fill (fun r => nI (col r)) c 0, nI 0) := by rw [fa_fill_0]; rfl
  rw [h0]
  refine for_fun (fun i => (fa_fill (fun r => nI (col r)) c i, nI i)) 0 n (Nat.zero_le _) (fun i _ hi => ?_) ?_
  · simp (disch := omega) only [X4_pickFirst_L48, nI_leI, Nat.not_le.mpr hi, ↓reduceIte, rd_nI, hP i hi, wr_nI, bnd_at, nI_1]
    rw [fa_fill_succ (fun r => nI (col r)) c i]
  · simp only [X4_pickFirst_L48, Int32.le_refl, ↓reduceIte]
theorem x_pickFirst {canA left picked c : Nat → Int32} {can : Nat → Nat} (hE : EndsOK n p fs sc F S) (hn : n ≤ 12) (hB : BsOK n fs sc Bs) (hc : CanOK n canA can) : ∃ (b : Bool) (a' b' d' num : Nat → Int32), FX4_pickFirst canA picked left (nI n) F S c Bs = some ((if b then 1 else 0), a', b', d', num) ∧ (b = true ↔ Poss fs sc can (2 ^ n - 1)) ∧ (b = false → num = c) ∧ (b = true → ∃ col, LexMin fs sc n can col ∧ num = fa_fill (fun r => nI (col r)) c n) := by
  have hn12 : (2 : Nat) ^ n ≤ 4096 := Nat.pow_le_pow_right (n := 2) (by decide) hn
  have hp1 : 0 < 2 ^ n := Nat.two_pow_pos n
  unfold FX4_pickFirst FX3_allRoads
  rw [ones_nI (by omega), Option.bind_some]
  obtain ⟨b, l1, p1, p2⟩ := x_possible (left := left) hE hn hB hc (A := 2 ^ n - 1) (by omega)
  rw [p1, Option.bind_some]
  cases hb : b
  · rw [hb] at p2
    rw [if_pos (show ((if false = true then (1 : Int32) else 0), l1).1 = 0 from rfl)]
    exact ⟨false, _, _, _, _, rfl, p2, fun _ => rfl, fun h => Bool.noConfusion h⟩
  · rw [hb] at p2
    rw [if_neg (show ¬ ((if true = true then (1 : Int32) else 0), l1).1 = 0 from (by decide : ¬ (1 : Int32) = 0))]
    have hposs := p2.mp rfl
    have key := for_inv (f := X4_pickFirst_L18 (nI n) F S c Bs) (fun (g : (Nat → Int32) × (Nat → Int32) × (Nat → Int32)) i => (g.1, g.2.1, g.2.2, nI i)) n (fun r g => ∃ col cur, CanOK n g.1 cur ∧ Cur fs sc n can col r cur ∧ Pre fs sc can col r ∧ Ext fs sc n can col r ∧ (∀ j, j < r → g.2.1 j = nI (col j)) ∧ ∀ j, j < r → ∀ m, m < col j → ¬ Ext fs sc n can (fun i => if i = j then m else col i) (j + 1)) (fun o => ∃ a' b' d' col, o = (1, a', b', d', fa_fill (fun r => nI (col r)) c n) ∧ LexMin fs sc n can col) (fun r g hr hI => ?_) (fun g hI => ?_) (i := 0) (a := (canA, picked, l1)) (Nat.zero_le _) ⟨fun _ => 0, can, hc, fun s _ hs k hk => ⟨fun h => ⟨h, fun j hj => by omega⟩, fun h => h.1⟩, ⟨fun j hj => by omega, fun i j hi => by omega⟩, ?_, fun j hj => by omega, fun j hj => by omega⟩
    · obtain ⟨o, k1, a', b', d', col, rfl, k2⟩ := key
      exact ⟨true, a', b', d', _, k1, p2, fun h => Bool.noConfusion h, fun _ => ⟨col, k2, rfl⟩⟩
    · left
      obtain ⟨col, cur, i1, i2, i3, i4, i5, i6⟩ := hI
      obtain ⟨ga, gp, gl⟩ := g
      simp only at i1 i5
      obtain ⟨k, ga', gl', cur', k1, k2, k3, k4, k5, k6, k7⟩ := x_pickLeast (left := gl) hE hn hB hr i1 i2 i3 i4
      refine ⟨(ga', upd gp r (nI k), gl'), ?_, fun j => if j = r then k else col j, cur', k3, k4, k5, k6, fun j hj => ?_, fun j hj m hm => ?_⟩
      · simp (disch := omega) only [X4_pickFirst_L18, nI_leI, Nat.not_le.mpr hr, ↓reduceIte, k1, Option.bind_some, wr_nI, bnd_at, nI_1]
      · show upd gp r (nI k) j = nI (if j = r then k else col j)
        rw [upd_at]
        by_cases e : j = r
        · rw [if_pos e, if_pos e]
        · rw [if_neg e, if_neg e]; exact i5 j (by omega)
      · simp only at hm
        by_cases e : j = r
        · subst e
          rw [if_pos rfl] at hm
          intro hx
          exact k7 m hm (ext_cong (fun i hi => by by_cases q : i = j <;> simp [q]) hx)
        · rw [if_neg e] at hm
          intro hx
          exact i6 j (by omega) m hm (ext_cong (fun i hi => by
            by_cases q : i = j
            · simp [q]
            · simp only [q, ↓reduceIte]
              rw [if_neg (by omega)]) hx)
    · obtain ⟨col, cur, i1, i2, i3, i4, i5, i6⟩ := hI
      obtain ⟨ga, gp, gl⟩ := g
      refine ⟨(1, ga, gp, gl, fa_fill (fun r => nI (col r)) c n), ?_, ga, gp, gl, col, rfl, ⟨fun r hr => i3.1 r (all_bit.mp hr), fun r s hr hs => i3.2 r s (all_bit.mp hr) (all_bit.mp hs)⟩, i6⟩
      simp only [X4_pickFirst_L18, Int32.le_refl, ↓reduceIte]
      rw [x_copy (P := c) hn i5]
      rfl
    · obtain ⟨col, q⟩ := hposs
      exact ⟨col, q, fun j hj => by omega⟩
theorem x_allow {canA : Nat → Int32} (hn : n ≤ 12) {k : Nat} (hk : k ≤ 16) : ∃ a', FX4_allowBelow canA (nI n) (nI k) = some a' ∧ CanOK n a' (fun _ => 2 ^ k - 1) := by
  have hk2 : (2 : Nat) ^ k ≤ 2 ^ 16 := Nat.pow_le_pow_right (by decide) hk
  have hk3 : 0 < 2 ^ k := Nat.two_pow_pos k
  unfold FX4_allowBelow
  have key := for_inv (f := X4_allowBelow_L2 (nI n) (nI k)) (fun (g : Nat → Int32) i => (g, nI i)) n (fun i g => ∀ s, s < i → g s = nI (2 ^ k - 1)) (fun g => ∀ s, s < n → g s = nI (2 ^ k - 1)) (fun i g hi hI => ?_) (fun g hI => ?_) (i := 0) (a := canA) (Nat.zero_le _) (fun s hs => by omega)
  · obtain ⟨g, k1, k2⟩ := key
    exact ⟨g, k1, fun s hs => ⟨k2 s hs, show 2 ^ k - 1 < 2 ^ 16 by omega⟩⟩
  · left
    refine ⟨upd g i (nI (2 ^ k - 1)), ?_, fun s hs => ?_⟩
    · simp (disch := omega) only [X4_allowBelow_L2, nI_leI, Nat.not_le.mpr hi, ↓reduceIte, ones_nI, wr_nI, bnd_at, nI_1]
    · rw [upd_at]
      split
      · rfl
      · exact hI s (by omega)
  · exact ⟨g, by simp only [X4_allowBelow_L2, Int32.le_refl, ↓reduceIte], hI⟩
theorem x_listed {canA al : Nat → Int32} {ls : Nat → Nat} (hn : n ≤ 12) (hl : ∀ r, r < n → ls r < 65536 ∧ al r = nI (ls r)) : ∃ a', FX4_allowListed canA (nI n) al = some a' ∧ CanOK n a' ls := by
  unfold FX4_allowListed
  have key := for_inv (f := X4_allowListed_L2 (nI n) al) (fun (g : Nat → Int32) i => (g, nI i)) n (fun i g => ∀ s, s < i → g s = nI (ls s)) (fun g => ∀ s, s < n → g s = nI (ls s)) (fun i g hi hI => ?_) (fun g hI => ?_) (i := 0) (a := canA) (Nat.zero_le _) (fun s hs => by omega)
  · obtain ⟨g, k1, k2⟩ := key
    exact ⟨g, k1, fun s hs => ⟨k2 s hs, (hl s hs).1⟩⟩
  · left
    refine ⟨upd g i (nI (ls i)), ?_, fun s hs => ?_⟩
    · simp (disch := omega) only [X4_allowListed_L2, nI_leI, Nat.not_le.mpr hi, ↓reduceIte, rd_nI, (hl i hi).2, wr_nI, bnd_at, nI_1]
    · rw [upd_at]
      by_cases e : s = i
      · rw [if_pos e, e]
      · rw [if_neg e]; exact hI s (by omega)
  · exact ⟨g, by simp only [X4_allowListed_L2, Int32.le_refl, ↓reduceIte], hI⟩
/-- numbers below k -/
abbrev blw (k : Nat) : Nat → Nat := fun _ => 2 ^ k - 1
theorem blw_ok {k : Nat} {A : Nat} {col : Nat → Nat} (hk : k ≤ 16) : ColOK fs sc (blw k) A col ↔ (∀ r, A.testBit r = true → col r < k) ∧ ∀ r s, A.testBit r = true → A.testBit s = true → adj fs sc r s = true → col r ≠ col s := by
  constructor
  · rintro ⟨h1, h2⟩
    exact ⟨fun r hr => all_bit.mp (h1 r hr).2, h2⟩
  · rintro ⟨h1, h2⟩
    exact ⟨fun r hr => ⟨by have := h1 r hr; omega, all_bit.mpr (h1 r hr)⟩, h2⟩
theorem poss_up {k k' A : Nat} (hkk : k ≤ k') (hk : k' ≤ 16) (h : Poss fs sc (blw k) A) : Poss fs sc (blw k') A := by
  obtain ⟨col, q⟩ := h
  obtain ⟨h1, h2⟩ := (blw_ok (by omega)).mp q
  exact ⟨col, (blw_ok hk).mpr ⟨fun r hr => by have := h1 r hr; omega, h2⟩⟩
theorem poss_all (hn : n ≤ 12) {A : Nat} (hA : A < 2 ^ n) : Poss fs sc (blw n) A := by
  refine ⟨fun r => r, (blw_ok (by omega)).mpr ⟨fun r hr => bit_lt hA hr, fun r s _ _ ha e => ?_⟩⟩
  have e' : r = s := e
  rw [e', adj_irr] at ha
  exact Bool.noConfusion ha
theorem poss_full (hE : EndsOK n p fs sc F S) (hn : n ≤ 12) {k : Nat} (hk : k ≤ 16) (h : Poss fs sc (blw k) (2 ^ n - 1)) : fulln fs sc n p ≤ k := by
  obtain ⟨col, q⟩ := h
  obtain ⟨h1, h2⟩ := (blw_ok hk).mp q
  refine mxs_bd (fun i hi => ?_)
  have : fb_ct (fun r => E fs sc r i) n ≤ fb_ct (fun _ => true) k := ct_inj (g := col) (fun r hr _ => ⟨h1 r (all_bit.mpr hr), rfl⟩) (fun a b ha hb e1 e2 hab => h2 a b (all_bit.mpr ha) (all_bit.mpr hb) (E_adj e1 e2 hab))
  exact Nat.le_trans this (fb_ct_le _ _)
def LeastK (fs sc : Nat → Nat) (A K : Nat) : Prop := Poss fs sc (blw K) A ∧ ∀ k, k < K → ¬ Poss fs sc (blw k) A
theorem leastK_one {A K K' : Nat} (h : LeastK fs sc A K) (h' : LeastK fs sc A K') : K = K' := by
  rcases Nat.lt_trichotomy K K' with q | q | q
  · exact absurd h.1 (h'.2 K q)
  · exact q
  · exact absurd h'.1 (h.2 K' q)
theorem x_fewest {canA left : Nat → Int32} (hE : EndsOK n p fs sc F S) (hA : AtOK n p fs sc At) (hn : n ≤ 12) (hB : BsOK n fs sc Bs) : ∃ (K : Nat) (a' d' : Nat → Int32), FX4_fewestNumbers canA left (nI p) (nI n) F S At Bs = some (nI K, a', d') ∧ LeastK fs sc (2 ^ n - 1) K := by
  have hp := hE.2.1
  have hn12 : (2 : Nat) ^ n ≤ 4096 := Nat.pow_le_pow_right (n := 2) (by decide) hn
  have hp1 : 0 < 2 ^ n := Nat.two_pow_pos n
  have hfl := fulln_le fs sc n p
  unfold FX4_fewestNumbers
  rw [x_full hE.1 hp hA, Option.bind_some]
  have key := for_inv (f := X4_fewestNumbers_L8 (nI n) F S Bs) (fun (g : (Nat → Int32) × (Nat → Int32)) i => (g.1, g.2, nI i)) n (fun k g => ∀ m, m < k → ¬ Poss fs sc (blw m) (2 ^ n - 1)) (fun o => ∃ K, o.1 = nI K ∧ LeastK fs sc (2 ^ n - 1) K) (fun k g hk hI => ?_) (fun g hI => ?_) (i := fulln fs sc n p) (a := (canA, left)) hfl (fun m hm h => ?_)
  · obtain ⟨⟨v, a, d⟩, k1, K, k2, k3⟩ := key
    simp only at k2
    rw [k2] at k1
    exact ⟨K, a, d, k1, k3⟩
  · obtain ⟨ga, gl⟩ := g
    obtain ⟨ga', a1, a2⟩ := x_allow (canA := ga) hn (k := k) (by omega)
    obtain ⟨b, l1, p1, p2⟩ := x_possible (left := gl) hE hn hB a2 (A := 2 ^ n - 1) (by omega)
    have hst : X4_fewestNumbers_L8 (nI n) F S Bs (ga, gl, nI k) = if (if b then (1 : Int32) else 0) = 0 then some (.inl (ga', l1, nI (k + 1))) else some (.inr (nI k, ga', l1)) := by
      simp (disch := omega) only [X4_fewestNumbers_L8, nI_leI, Nat.not_le.mpr hk, ↓reduceIte, a1, Option.bind_some, FX3_allRoads, ones_nI, p1, bnd_at, nI_1]
    cases hb : b
    · left
      rw [hb] at hst p2
      refine ⟨(ga', l1), ?_, fun m hm h => ?_⟩
      · rw [hst, if_pos (show (if false = true then (1 : Int32) else 0) = 0 by decide)]
      · rcases Nat.lt_or_ge m k with q | q
        · exact hI m q h
        · obtain rfl : m = k := by omega
          exact Bool.noConfusion (p2.mpr h)
    · right
      rw [hb] at hst p2
      refine ⟨(nI k, ga', l1), ?_, k, rfl, p2.mp rfl, hI⟩
      rw [hst, if_neg (show ¬ (if true = true then (1 : Int32) else 0) = 0 by decide)]
  · refine ⟨(nI n, g.1, g.2), ?_, n, rfl, poss_all hn (by omega), hI⟩
    simp only [X4_fewestNumbers_L8, Int32.le_refl, ↓reduceIte]
  · have := poss_full hE hn (by omega) h
    omega
theorem x_critical {canA left : Nat → Int32} (hE : EndsOK n p fs sc F S) (hA : AtOK n p fs sc At) (hn : n ≤ 12) (hB : BsOK n fs sc Bs) : ∃ (b : Bool) (a' d' : Nat → Int32), FX4_isCritical canA left (nI p) (nI n) F S At Bs = some ((if b then 1 else 0), a', d') ∧ (b = true ↔ (¬ Poss fs sc (blw (fulln fs sc n p)) (2 ^ n - 1) ∧ ∀ r, r < n → Poss fs sc (blw (fulln fs sc n p)) ((2 ^ n - 1) ^^^ 2 ^ r))) := by
  have hp := hE.2.1
  have hn12 : (2 : Nat) ^ n ≤ 4096 := Nat.pow_le_pow_right (n := 2) (by decide) hn
  have hp1 : 0 < 2 ^ n := Nat.two_pow_pos n
  have hfl := fulln_le fs sc n p
  unfold FX4_isCritical FX3_allRoads
  rw [x_full hE.1 hp hA, Option.bind_some]
  obtain ⟨ga', a1, a2⟩ := x_allow (canA := canA) hn (k := fulln fs sc n p) (by omega)
  obtain ⟨b, l1, p1, p2⟩ := x_possible (left := left) hE hn hB a2 (A := 2 ^ n - 1) (by omega)
  rw [a1, Option.bind_some, ones_nI (by omega), Option.bind_some, p1, Option.bind_some]
  cases hb : b
  · rw [hb] at p2
    rw [if_pos (show ((if false = true then (1 : Int32) else 0), l1).1 = 0 from rfl)]
    have hno : ¬ Poss fs sc (blw (fulln fs sc n p)) (2 ^ n - 1) := fun h => Bool.noConfusion (p2.mpr h)
    have key := for_inv (f := X4_isCritical_L29 ga' (nI n) F S Bs) (fun (g : Nat → Int32) i => (g, nI i)) n (fun r g => ∀ j, j < r → Poss fs sc (blw (fulln fs sc n p)) ((2 ^ n - 1) ^^^ 2 ^ j)) (fun o => ∃ b : Bool, o.1 = (if b then 1 else 0) ∧ (b = true ↔ ∀ r, r < n → Poss fs sc (blw (fulln fs sc n p)) ((2 ^ n - 1) ^^^ 2 ^ r))) (fun r g hr hI => ?_) (fun g hI => ?_) (i := 0) (a := l1) (Nat.zero_le _) (fun j hj => by omega)
    · obtain ⟨⟨v, a, d⟩, k1, b2, k2, k3⟩ := key
      simp only at k2
      rw [k2] at k1
      exact ⟨b2, a, d, k1, fun h => ⟨hno, k3.mp h⟩, fun h => k3.mpr h.2⟩
    · have hlt : (2 ^ n - 1) ^^^ 2 ^ r < 2 ^ n := Nat.lt_trans (xor_low (all_bit.mpr hr)) (by omega)
      obtain ⟨b2, l2, q1, q2⟩ := x_possible (left := g) hE hn hB a2 hlt
      have hst : X4_isCritical_L29 ga' (nI n) F S Bs (g, nI r) = if (if b2 then (1 : Int32) else 0) = 0 then some (.inr (0, ga', l2)) else some (.inl (l2, nI (r + 1))) := by
        simp (disch := omega) only [X4_isCritical_L29, nI_leI, Nat.not_le.mpr hr, ↓reduceIte, FX3_allRoads, ones_nI, Option.bind_some, bnd_at, nI_1]
        rw [sh_nI (by omega), fb_xorI, q1]
        rfl
      cases hb2 : b2
      · right
        rw [hb2] at hst q2
        exact ⟨(0, ga', l2), by rw [hst, if_pos (show (if false = true then (1 : Int32) else 0) = 0 by decide)], false, rfl, fun h => Bool.noConfusion h, fun h => q2.mpr (h r hr)⟩
      · left
        rw [hb2] at hst q2
        refine ⟨l2, by rw [hst, if_neg (show ¬ (if true = true then (1 : Int32) else 0) = 0 by decide)], fun j hj => ?_⟩
        rcases Nat.lt_or_ge j r with q | q
        · exact hI j q
        · rw [show j = r by omega]; exact q2.mp rfl
    · exact ⟨(1, ga', g), by simp only [X4_isCritical_L29, Int32.le_refl, ↓reduceIte], true, rfl, fun _ => hI, fun _ => rfl⟩
  · rw [hb] at p2
    rw [if_neg (show ¬ ((if true = true then (1 : Int32) else 0), l1).1 = 0 from (by decide : ¬ (1 : Int32) = 0))]
    exact ⟨false, ga', l1, rfl, fun h => Bool.noConfusion h, fun h => absurd (p2.mp rfl) h.1⟩
end FIRST
