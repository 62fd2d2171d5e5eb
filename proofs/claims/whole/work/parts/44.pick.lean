/-! ===== Pick: the least pick, the first colouring ===== -/
section PICK
variable {n p : Nat} {fs sc : Nat → Nat} {F S Bs : Nat → Int32}
theorem above_dec : ∀ n, n < 13 → ∀ r, r < 12 → (nI (2 ^ n - 1)) &&& -(nI (2 ^ (r + 1))) = nI (mk (fun s => decide (r < s)) n) := by decide +kernel
/-- the roads from r on -/
abbrev upm (n r : Nat) : Nat := mk (fun s => decide (r ≤ s)) n
theorem upm_bit {n r i : Nat} : (upm n r).testBit i = true ↔ i < n ∧ r ≤ i := by rw [mk_bit]; simp
theorem all_bit {n i : Nat} : (2 ^ n - 1).testBit i = true ↔ i < n := by rw [Nat.testBit_two_pow_sub_one]; simp
theorem upm_0 (n : Nat) : upm n 0 = 2 ^ n - 1 := Nat.eq_of_testBit_eq (fun i => by rw [mk_bit, Nat.testBit_two_pow_sub_one]; simp)
theorem above_up (n r : Nat) : mk (fun s => decide (r < s)) n = upm n (r + 1) := mk_cong (fun i _ => by congr 1)
/-- what may still be had when the roads below r have the numbers c -/
def Cur (fs sc : Nat → Nat) (n : Nat) (can : Nat → Nat) (c : Nat → Nat) (r : Nat) (cur : Nat → Nat) : Prop := ∀ s, r ≤ s → s < n → ∀ k, k < 16 → ((cur s).testBit k = true ↔ (can s).testBit k = true ∧ ∀ j, j < r → adj fs sc j s = true → c j ≠ k)
def Pre (fs sc : Nat → Nat) (can : Nat → Nat) (c : Nat → Nat) (r : Nat) : Prop := (∀ j, j < r → c j < 16 ∧ (can j).testBit (c j) = true) ∧ ∀ i j, i < r → j < r → adj fs sc i j = true → c i ≠ c j
def Ext (fs sc : Nat → Nat) (n : Nat) (can : Nat → Nat) (c : Nat → Nat) (r : Nat) : Prop := ∃ col, ColOK fs sc can (2 ^ n - 1) col ∧ ∀ j, j < r → col j = c j
theorem ext_iff {can c cur : Nat → Nat} {r : Nat} (hr : r ≤ n) (hcur : Cur fs sc n can c r cur) (hpre : Pre fs sc can c r) : Poss fs sc cur (upm n r) ↔ Ext fs sc n can c r := by
  constructor
  · rintro ⟨col, c1, c2⟩
    refine ⟨fun j => if j < r then c j else col j, ⟨fun j hj => ?_, fun i j hi hj ha => ?_⟩, fun j hj => by simp [hj]⟩
    · have hjn := all_bit.mp hj
      by_cases e : j < r
      · simp only [e, ↓reduceIte]; exact hpre.1 j e
      · simp only [e, ↓reduceIte]
        obtain ⟨a, b⟩ := c1 j (upm_bit.mpr ⟨hjn, by omega⟩)
        exact ⟨a, ((hcur j (by omega) hjn _ a).mp b).1⟩
    · have hin := all_bit.mp hi
      have hjn := all_bit.mp hj
      by_cases e1 : i < r <;> by_cases e2 : j < r
      · simp only [e1, e2, ↓reduceIte]; exact hpre.2 i j e1 e2 ha
      · simp only [e1, e2, ↓reduceIte]
        obtain ⟨a, b⟩ := c1 j (upm_bit.mpr ⟨hjn, by omega⟩)
        exact ((hcur j (by omega) hjn _ a).mp b).2 i e1 ha
      · simp only [e1, e2, ↓reduceIte]
        obtain ⟨a, b⟩ := c1 i (upm_bit.mpr ⟨hin, by omega⟩)
        exact Ne.symm (((hcur i (by omega) hin _ a).mp b).2 j e2 (by rw [adj_symm]; exact ha))
      · simp only [e1, e2, ↓reduceIte]
        exact c2 i j (upm_bit.mpr ⟨hin, by omega⟩) (upm_bit.mpr ⟨hjn, by omega⟩) ha
  · rintro ⟨col, ⟨c1, c2⟩, c3⟩
    refine ⟨col, fun j hj => ?_, fun i j hi hj ha => c2 i j (all_bit.mpr (upm_bit.mp hi).1) (all_bit.mpr (upm_bit.mp hj).1) ha⟩
    obtain ⟨h1, h2⟩ := upm_bit.mp hj
    obtain ⟨a, b⟩ := c1 j (all_bit.mpr h1)
    refine ⟨a, (hcur j h2 h1 _ a).mpr ⟨b, fun i hi ha => ?_⟩⟩
    rw [← c3 i hi]
    exact c2 i j (all_bit.mpr (by omega)) (all_bit.mpr h1) ha
/-- striking one number at some roads -/
theorem x_strike {canA : Nat → Int32} {can : Nat → Nat} (hn : n ≤ 12) (hc : CanOK n canA can) {Z k : Nat} (hZ : Z < 2 ^ 31) (hk : k < 16) : ∃ canA', FX4_strike canA (nI n) (nI Z) (nI k) = some canA' ∧ CanOK n canA' (fun s => if Z.testBit s then can s ^^^ 2 ^ k else can s) := by
  unfold FX4_strike
  have h16 : (2 : Nat) ^ k < 2 ^ 16 := Nat.pow_lt_pow_right (by decide) hk
  have key := for_inv (f := X4_strike_L2 (nI n) (nI Z) (nI k)) (fun (g : Nat → Int32) i => (g, nI i)) n (fun i g => ∀ s, s < n → g s = if s < i then nI (if Z.testBit s then can s ^^^ 2 ^ k else can s) else canA s) (fun g => CanOK n g (fun s => if Z.testBit s then can s ^^^ 2 ^ k else can s)) (fun i g hi hI => ?_) (fun g hI => ?_) (i := 0) (a := canA) (Nat.zero_le _) (fun s hs => by simp)
  · obtain ⟨g, k1, k2⟩ := key
    exact ⟨g, k1, k2⟩
  · left
    obtain ⟨c1, c2⟩ := hc i hi
    have hgi : g i = nI (can i) := by
      have := hI i hi
      rw [if_neg (by omega), c1] at this
      exact this
    cases hb : Z.testBit i
    · refine ⟨g, ?_, fun s hs => ?_⟩
      · simp (disch := omega) only [X4_strike_L2, nI_leI, Nat.not_le.mpr hi, ↓reduceIte, isIn_nI hZ, hb, Bool.false_eq_true, Option.bind_some, bnd_at, nI_1]
      · by_cases e : s = i
        · rw [if_pos (by omega), e, hgi, hb]; rfl
        · rw [hI s hs]
          by_cases q : s < i
          · rw [if_pos q, if_pos (show s < i + 1 by omega)]
          · rw [if_neg q, if_neg (show ¬ s < i + 1 by omega)]
    · refine ⟨upd g i (nI (can i ^^^ 2 ^ k)), ?_, fun s hs => ?_⟩
      · simp (disch := omega) only [X4_strike_L2, nI_leI, Nat.not_le.mpr hi, ↓reduceIte, isIn_nI hZ, hb, Option.bind_some, o10, rd_nI, hgi, sh_nI, fb_xorI, wr_nI, bnd_at, nI_1]
      · rw [upd_at]
        by_cases e : s = i
        · rw [if_pos e, if_pos (by omega), e, hb]; rfl
        · rw [if_neg e, hI s hs]
          by_cases q : s < i
          · rw [if_pos q, if_pos (show s < i + 1 by omega)]
          · rw [if_neg q, if_neg (show ¬ s < i + 1 by omega)]
  · refine ⟨g, ?_, fun s hs => ⟨by rw [hI s hs, if_pos hs], ?_⟩⟩
    · simp only [X4_strike_L2, Int32.le_refl, ↓reduceIte]
    · have := (hc s hs).2
      show (if Z.testBit s then can s ^^^ 2 ^ k else can s) < 2 ^ 16
      split
      · exact Nat.xor_lt_two_pow this h16
      · exact this
theorem cur_step {can c cur : Nat → Nat} {r k : Nat} (hr : r < n) (hcur : Cur fs sc n can c r cur) (hcl : ∀ s, s < n → cur s < 2 ^ 16) : Cur fs sc n can (fun j => if j = r then k else c j) (r + 1) (fun s => if (mk (fun s => (nb fs sc n r &&& upm n (r + 1)).testBit s && (cur s).testBit k) n).testBit s then cur s ^^^ 2 ^ k else cur s) := by
  intro s hs hsn m hm
  have hb : (mk (fun s => (nb fs sc n r &&& upm n (r + 1)).testBit s && (cur s).testBit k) n).testBit s = (adj fs sc r s && (cur s).testBit k) := by
    rw [mk_bit, Nat.testBit_and, mk_bit, mk_bit]
    have : r + 1 ≤ s := hs
    simp [hsn, this]
  have hold := hcur s (by omega) hsn m hm
  have hnew : (∀ j, j < r + 1 → adj fs sc j s = true → (if j = r then k else c j) ≠ m) ↔ (∀ j, j < r → adj fs sc j s = true → c j ≠ m) ∧ (adj fs sc r s = true → k ≠ m) := by
    constructor
    · intro h
      refine ⟨fun j hj ha => ?_, fun ha => ?_⟩
      · have := h j (by omega) ha
        rw [if_neg (by omega)] at this
        exact this
      · have := h r (by omega) ha
        rw [if_pos rfl] at this
        exact this
    · rintro ⟨h1, h2⟩ j hj ha
      by_cases e : j = r
      · rw [if_pos e]; rw [e] at ha; exact h2 ha
      · rw [if_neg e]; exact h1 j (by omega) ha
  rw [hnew, ← and_assoc, ← hold]
  simp only [hb]
  cases ha : adj fs sc r s
  · simp
  · cases hk : (cur s).testBit k
    · simp only [Bool.and_false, Bool.false_eq_true, ↓reduceIte, true_implies]
      exact ⟨fun h => ⟨h, fun e => by rw [← e, hk] at h; exact Bool.noConfusion h⟩, fun h => h.1⟩
    · simp only [Bool.and_true, ↓reduceIte, true_implies, xor_bit]
      by_cases e : m = k
      · subst e
        simp [hk]
      · simp [e, Ne.symm e]
theorem pre_step {can c cur : Nat → Nat} {r k : Nat} (hr : r < n) (hk : k < 16) (hcur : Cur fs sc n can c r cur) (hpre : Pre fs sc can c r) (hb : (cur r).testBit k = true) : Pre fs sc can (fun j => if j = r then k else c j) (r + 1) := by
  obtain ⟨h1, h2⟩ := (hcur r (Nat.le_refl _) hr k hk).mp hb
  refine ⟨fun j hj => ?_, fun i j hi hj ha => ?_⟩
  · by_cases e : j = r
    · simp only [e, ↓reduceIte]; exact ⟨hk, h1⟩
    · simp only [e, ↓reduceIte]; exact hpre.1 j (by omega)
  · by_cases e1 : i = r <;> by_cases e2 : j = r
    · rw [e1, e2, adj_irr] at ha; exact Bool.noConfusion ha
    · simp only [e1, e2, ↓reduceIte]
      rw [e1, adj_symm] at ha
      exact Ne.symm (h2 j (by omega) ha)
    · simp only [e1, e2, ↓reduceIte]
      rw [e2] at ha
      exact h2 i (by omega) ha
    · simp only [e1, e2, ↓reduceIte]
      exact hpre.2 i j (by omega) (by omega) ha
theorem ext_cong {can c c' : Nat → Nat} {r : Nat} (h : ∀ j, j < r → c j = c' j) (hx : Ext fs sc n can c r) : Ext fs sc n can c' r := by
  obtain ⟨col, h1, h2⟩ := hx
  exact ⟨col, h1, fun j hj => (h2 j hj).trans (h j hj)⟩
theorem x_pickLeast {canA left : Nat → Int32} {can c cur : Nat → Nat} (hE : EndsOK n p fs sc F S) (hn : n ≤ 12) (hB : BsOK n fs sc Bs) {r : Nat} (hr : r < n) (hc : CanOK n canA cur) (hcur : Cur fs sc n can c r cur) (hpre : Pre fs sc can c r) (hext : Ext fs sc n can c r) : ∃ (k : Nat) (canA' left' : Nat → Int32) (cur' : Nat → Nat), FX4_pickLeast canA left (nI n) F S Bs (nI r) = some (nI k, canA', left') ∧ k < 16 ∧ CanOK n canA' cur' ∧ Cur fs sc n can (fun j => if j = r then k else c j) (r + 1) cur' ∧ Pre fs sc can (fun j => if j = r then k else c j) (r + 1) ∧ Ext fs sc n can (fun j => if j = r then k else c j) (r + 1) ∧ ∀ m, m < k → ¬ Ext fs sc n can (fun j => if j = r then m else c j) (r + 1) := by
  have hn12 : (2 : Nat) ^ n ≤ 4096 := Nat.pow_le_pow_right (n := 2) (by decide) hn
  have hupl : upm n (r + 1) < 2 ^ n := mk_lt _ _
  have hnbl : nb fs sc n r &&& upm n (r + 1) < 2 ^ n := and_lt_l (mk_lt _ _)
  unfold FX4_pickLeast FX3_allRoads
  rw [ones_nI (by omega), Option.bind_some, sh2_nI (by omega), above_dec n (by omega) r (by omega), above_up, bnd_at]
  have key := for_inv (f := X4_pickLeast_L15 (nI n) F S Bs (nI r) (nI (upm n (r + 1)))) (fun (g : (Nat → Int32) × (Nat → Int32)) k => (g.1, g.2, nI k)) 16 (fun k g => CanOK n g.1 cur ∧ ∀ m, m < k → ¬ Ext fs sc n can (fun j => if j = r then m else c j) (r + 1)) (fun o => ∃ k cur', o.1 = nI k ∧ k < 16 ∧ CanOK n o.2.1 cur' ∧ Cur fs sc n can (fun j => if j = r then k else c j) (r + 1) cur' ∧ Pre fs sc can (fun j => if j = r then k else c j) (r + 1) ∧ Ext fs sc n can (fun j => if j = r then k else c j) (r + 1) ∧ ∀ m, m < k → ¬ Ext fs sc n can (fun j => if j = r then m else c j) (r + 1)) (fun k g hk hI => ?_) (fun g hI => ?_) (i := 0) (a := (canA, left)) (Nat.zero_le _) ⟨hc, fun m hm => by omega⟩
  · obtain ⟨⟨v, a, b⟩, k1, k, cur', k2, k3⟩ := key
    simp only at k2 k3
    rw [k2] at k1
    exact ⟨k, a, b, cur', k1, k3⟩
  · obtain ⟨h1, h2⟩ := hI
    obtain ⟨ga, gl⟩ := g
    simp only at h1
    obtain ⟨c1, c2⟩ := h1 r hr
    have hz : ¬ (16 : Int32) ≤ nI k := by rw [leL16 (by omega)]; omega
    cases hb : (cur r).testBit k
    · left
      refine ⟨(ga, gl), ?_, h1, fun m hm => ?_⟩
      · simp (disch := omega) only [X4_pickLeast_L15, hz, ↓reduceIte, rd_nI, c1, isIn_nI, hb, Bool.false_eq_true, Option.bind_some, bnd_at, nI_1]
      · rcases Nat.lt_or_ge m k with q | q
        · exact h2 m q
        · obtain rfl : m = k := by omega
          rintro ⟨col, ⟨q1, q2⟩, q3⟩
          have e : col r = m := by
            have := q3 r (by omega)
            simp only [↓reduceIte] at this
            exact this
          have hcr := (q1 r (all_bit.mpr hr)).2
          rw [e] at hcr
          have := (hcur r (Nat.le_refl _) hr m hk).mpr ⟨hcr, fun j hj ha => by
            have e2 : col j = c j := by
              have := q3 j (by omega)
              simp only [show ¬ j = r by omega, ↓reduceIte] at this
              exact this
            rw [← e2, ← e]
            exact q2 j r (all_bit.mpr (by omega)) (all_bit.mpr hr) ha⟩
          rw [hb] at this
          exact Bool.noConfusion this
    · obtain ⟨Z, eZ⟩ : ∃ Z, Z = mk (fun s => (nb fs sc n r &&& upm n (r + 1)).testBit s && (cur s).testBit k) n := ⟨_, rfl⟩
      have hZl : Z < 2 ^ n := by rw [eZ]; exact mk_lt _ _
      obtain ⟨ga', s1, s2⟩ := x_strike hn h1 (Z := Z) (k := k) (by omega) hk
      have hcs := cur_step (k := k) hr hcur (fun s hs => (h1 s hs).2)
      have hps := pre_step hr hk hcur hpre hb
      obtain ⟨b, gl', p1, p2⟩ := x_possible (left := gl) hE hn hB s2 (A := upm n (r + 1)) hupl
      rw [eZ] at p2
      rw [ext_iff (by omega) hcs hps] at p2
      have hstep : X4_pickLeast_L15 (nI n) F S Bs (nI r) (nI (upm n (r + 1))) (ga, gl, nI k) = if (if b then (1 : Int32) else 0) = 0 then ((FX4_strike ga' (nI n) (nI Z) (nI k)).bind (fun o10 => some (.inl (o10, gl', nI (k + 1))))) else (some (.inr (nI k, ga', gl'))) := by
        simp (disch := omega) only [X4_pickLeast_L15, hz, ↓reduceIte, rd_nI, c1, isIn_nI, hb, Option.bind_some, o10, hB r hr, fa_and, x_that hn h1 (A := nb fs sc n r &&& upm n (r + 1)) (by omega) hk, ← eZ, s1, p1, bnd_at, nI_1]
      cases hb2 : b
      · left
        rw [hb2] at hstep p2
        obtain ⟨ga'', t1, t2⟩ := x_strike hn s2 (Z := Z) (k := k) (by omega) hk
        refine ⟨(ga'', gl'), ?_, fun s hs => ?_, fun m hm => ?_⟩
        · rw [hstep, if_pos (show (if false = true then (1 : Int32) else 0) = 0 by decide), t1]; rfl
        · obtain ⟨u1, u2⟩ := t2 s hs
          have : (if Z.testBit s then (if Z.testBit s then cur s ^^^ 2 ^ k else cur s) ^^^ 2 ^ k else (if Z.testBit s then cur s ^^^ 2 ^ k else cur s)) = cur s := by
            cases Z.testBit s
            · simp
            · simp [Nat.xor_assoc]
          exact ⟨u1.trans (congrArg nI this), (h1 s hs).2⟩
        · rcases Nat.lt_or_ge m k with q | q
          · exact h2 m q
          · obtain rfl : m = k := by omega
            intro hx
            exact Bool.noConfusion (p2.mpr hx)
      · right
        rw [hb2] at hstep p2
        refine ⟨(nI k, ga', gl'), ?_, k, _, rfl, hk, s2, ?_, hps, p2.mp rfl, h2⟩
        · rw [hstep, if_neg (show ¬ (if true = true then (1 : Int32) else 0) = 0 by decide)]
        · rw [eZ]; exact hcs
  · exfalso
    obtain ⟨col, q1, q2⟩ := hext
    have := (q1.1 r (all_bit.mpr hr)).1
    exact hI.2 (col r) this ⟨col, q1, fun j hj => by
      show col j = if j = r then col r else c j
      by_cases e : j = r
      · rw [if_pos e, e]
      · rw [if_neg e]; exact q2 j (by omega)⟩
end PICK
