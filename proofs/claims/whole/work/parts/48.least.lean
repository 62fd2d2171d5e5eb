/-! ===== least, first, critical: the calls ===== -/
section LEAST
variable {n p : Nat} {fs sc : Nat → Nat} {F S : Nat → Int32} {s k A : Nat}
theorem inv_0 {o : (Nat → Int32) × (Nat → Int32) × (Nat → Int32) × (Nat → Int32)} (h : LookOK fs sc n o) : Inv n s (fun _ => 0) 0 0 o.1 o.2.2.1 o.2.2.2 := by
  obtain ⟨h1, h2, h3, h4⟩ := h
  refine ⟨fun j hj hs => ?_, fun v hv => ?_, fun j hj => ?_⟩
  · rw [h1 j hj, if_neg (by omega), if_neg (fun q => q.2 rfl)]
  · rw [h3 v hv, mk_zero.mpr (fun i _ => by unfold havB; simp)]
    rfl
  · rw [show j = 0 by omega, h4]
    rfl
theorem m_tries {l2 : Int32} (hE : EndsOK n p fs sc F S) (hn : n ≤ 12) (hk : k ≤ 16) (hA : ∀ i, A.testBit i = true ↔ i < n ∧ i ≠ s) (hl2 : ∀ d, d ≤ 12 → (nI d = l2 ↔ d = s)) (tr th hv ms : Nat → Int32) : ∃ o, FX8_tries (nI n) F S tr th hv ms (nI k) l2 = some o ∧ ((o.1 = 0 ∧ ¬ Poss fs sc (blw k) A) ∨ (o.1 = 1 ∧ ∃ col, ColOK fs sc (blw k) A col ∧ (∀ r, r < n → r ≠ s → ∀ m, m < col r → ¬ ExtA fs sc s k A (fun j => if j = r then m else col j) (r + 1)) ∧ ∀ r, r < n → r ≠ s → o.2.1 r = nI (col r))) := by
  obtain ⟨o, k1, k2⟩ := m_look hE tr th hv ms
  unfold FX8_tries
  rw [k1, Option.bind_some]
  rcases search (fs := fs) (sc := sc) (s := s) (k := k) (A := A) (th := o.2.1) (l2 := l2) hn hk hA k2.2.1 hl2 n 0 (by omega) (Nat.zero_le _) (fun _ => 0) ⟨fun j hj => by omega, fun i j hi => by omega⟩ k 0 o.1 o.2.2.1 o.2.2.2 (by omega) (fun _ => rfl) (fun _ _ => ⟨by omega, by omega⟩) (inv_0 k2) (fun m hm => by omega) with ⟨tr', hv', ms', col, q1, q2, q3, q4, q5⟩ | ⟨q1, q2⟩
  · exact ⟨_, q1, Or.inr ⟨rfl, col, q2, fun r hr hs => q4 r (Nat.zero_le _) hr hs, q5⟩⟩
  · rcases q2 with ⟨j, _, _, _, j1, _⟩ | ⟨-, tr', hv', ms', j2⟩
    · omega
    · refine ⟨_, j2, Or.inl ⟨rfl, fun hp => q1 ?_⟩⟩
      obtain ⟨col, c⟩ := hp
      exact ⟨col, c, fun j hj => by omega⟩
theorem m_leastOf {l2 : Int32} (hE : EndsOK n p fs sc F S) (hn : n ≤ 12) (hAn : A < 2 ^ n) (hA : ∀ i, A.testBit i = true ↔ i < n ∧ i ≠ s) (hl2 : ∀ d, d ≤ 12 → (nI d = l2 ↔ d = s)) (tr th hv ms : Nat → Int32) : ∃ K o, FX8_leastOf (nI n) F S tr th hv ms l2 = some (nI K, o) ∧ LeastK fs sc A K ∧ K ≤ n := by
  unfold FX8_leastOf
  have key := for_inv (f := X8_leastOf_L2 (nI n) F S l2) (fun (g : (Nat → Int32) × (Nat → Int32) × (Nat → Int32) × (Nat → Int32)) i => (g.1, g.2.1, g.2.2.1, g.2.2.2, nI i)) n (fun k g => ∀ m, m < k → ¬ Poss fs sc (blw m) A) (fun o => ∃ K, o.1 = nI K ∧ LeastK fs sc A K ∧ K ≤ n) (fun k g hk hI => ?_) (fun g hI => ?_) (i := 0) (a := (tr, th, hv, ms)) (Nat.zero_le _) (fun m hm => by omega)
  · obtain ⟨⟨v, o⟩, k1, K, k2, k3⟩ := key
    simp only at k2
    rw [k2] at k1
    exact ⟨K, o, k1, k3⟩
  · obtain ⟨o, t1, t2⟩ := m_tries (k := k) hE hn (by omega) hA hl2 g.1 g.2.1 g.2.2.1 g.2.2.2
    have hst : X8_leastOf_L2 (nI n) F S l2 (g.1, g.2.1, g.2.2.1, g.2.2.2, nI k) = if o.1 = 0 then some (.inl (o.2.1, o.2.2.1, o.2.2.2.1, o.2.2.2.2, nI (k + 1))) else some (.inr (nI k, o.2.1, o.2.2.1, o.2.2.2.1, o.2.2.2.2)) := by
      unfold X8_leastOf_L2
      simp only [t1, Option.bind_some, bnd_at, nI_1]
    rcases t2 with ⟨t2, t3⟩ | ⟨t2, col, t3, -⟩
    · left
      refine ⟨(o.2.1, o.2.2.1, o.2.2.2.1, o.2.2.2.2), by rw [hst, if_pos t2], fun m hm => ?_⟩
      rcases Nat.lt_or_ge m k with q | q
      · exact hI m q
      · rw [show m = k by omega]; exact t3
    · right
      exact ⟨_, by rw [hst, if_neg (by rw [t2]; decide)], k, rfl, ⟨⟨col, t3⟩, hI⟩, by omega⟩
  · obtain ⟨o, t1, t2⟩ := m_tries (k := n) hE hn (by omega) hA hl2 g.1 g.2.1 g.2.2.1 g.2.2.2
    have hst : X8_leastOf_L2 (nI n) F S l2 (g.1, g.2.1, g.2.2.1, g.2.2.2, nI n) = if o.1 = 0 then some (.inl (o.2.1, o.2.2.1, o.2.2.2.1, o.2.2.2.2, nI (n + 1))) else some (.inr (nI n, o.2.1, o.2.2.1, o.2.2.2.1, o.2.2.2.2)) := by
      unfold X8_leastOf_L2
      simp only [t1, Option.bind_some, bnd_at, nI_1]
    rcases t2 with ⟨t2, t3⟩ | ⟨t2, col, t3, -⟩
    · exact absurd (poss_all hn hAn) t3
    · exact ⟨_, by rw [hst, if_neg (by rw [t2]; decide)], n, rfl, ⟨⟨col, t3⟩, hI⟩, Nat.le_refl _⟩
theorem all_act {i : Nat} (hn : n ≤ 12) : (2 ^ n - 1).testBit i = true ↔ i < n ∧ i ≠ 99 := by
  rw [all_bit]; omega
theorem m1_none (d : Nat) (hd : d ≤ 12) : nI d = (-1 : Int32) ↔ d = 99 := ⟨fun h => absurd h (m1_ne (by omega)), fun h => by omega⟩
theorem but_act {i r : Nat} (hr : r < n) : ((2 ^ n - 1) ^^^ 2 ^ r).testBit i = true ↔ i < n ∧ i ≠ r := by
  rw [xor_bit, Nat.testBit_two_pow_sub_one]
  by_cases e : i = r
  · subst e; simp [hr]
  · simp [e]
theorem least_le {K m : Nat} (hm : m ≤ 16) (h : LeastK fs sc A K) : K ≤ m ↔ Poss fs sc (blw m) A := by
  constructor
  · intro q; exact poss_up q hm h.1
  · intro q
    rcases Nat.lt_or_ge m K with z | z
    · exact absurd q (h.2 m z)
    · exact z
end LEAST
theorem nop_least {pc rc : Int32} {F S c al At Bs : Nat → Int32} {mp mr : Int32} {mF mS mc ml : Nat → Int32} (h : NetR pc rc F S c al At Bs mp mr mF mS mc ml) (p1 p2 p3 tr th hv ms : Nat → Int32) : ∃ ox om, FX7_least p1 p2 p3 pc rc F S c al At Bs = some ox ∧ FX8_least mr mF mS tr th hv ms = some om ∧ ox.1 = om.1 := by
  obtain ⟨⟨rfl, rfl, rfl, rfl, rfl, rfl⟩, p, n, fs, sc, rfl, rfl, hE, hA, hB, hN, hL⟩ := id h
  have hn := hE.1
  have hp1 : 0 < 2 ^ n := Nat.two_pow_pos n
  unfold FX7_least FX8_least
  by_cases h12 : n ≤ 12
  · rw [if_pos ((leR12 (by omega)).mpr h12), if_pos ((leR12 (by omega)).mpr h12)]
    obtain ⟨K, a, d, k1, k2⟩ := x_fewest (canA := p1) (left := p3) hE hA h12 hB
    obtain ⟨K', o, m1, m2, -⟩ := m_leastOf (A := 2 ^ n - 1) (s := 99) (l2 := -1) hE h12 (by omega) (fun i => all_act h12) m1_none tr th hv ms
    rw [k1, m1]
    exact ⟨_, _, rfl, rfl, by rw [leastK_one k2 m2]⟩
  · rw [if_neg (fun z => h12 ((leR12 (by omega)).mp z)), if_neg (fun z => h12 ((leR12 (by omega)).mp z))]
    exact ⟨_, _, rfl, rfl, rfl⟩
theorem m_copy {n : Nat} {a b d e c : Nat → Int32} {col : Nat → Nat} (hn : n ≤ 24) (hP : ∀ j, j < n → a j = nI (col j)) : loopO (X8_first_L35 (nI n) a b d e) (c, 0) = some (1, fa_fill (fun r => nI (col r)) c n, a, b, d, e) := by
  have h0 : (c, (0 : Int32)) = (fa_fill (fun r => nI (col r)) c 0, nI 0) := by rw [fa_fill_0]; rfl
  rw [h0]
  refine for_fun (fun i => (fa_fill (fun r => nI (col r)) c i, nI i)) 0 n (Nat.zero_le _) (fun i _ hi => ?_) ?_
  · simp (disch := omega) only [X8_first_L35, nI_leI, Nat.not_le.mpr hi, ↓reduceIte, rd_nI, hP i hi, wr_nI, bnd_at, nI_1]
    rw [fa_fill_succ (fun r => nI (col r)) c i]
  · simp only [X8_first_L35, Int32.le_refl, ↓reduceIte]
theorem fill_num {n : Nat} {c : Nat → Int32} {col : Nat → Nat} (h : ∀ r, r < n → col r < 16) : NumOK n (fa_fill (fun r => nI (col r)) c n) := fun r hr => Or.inr ⟨col r, h r hr, fa_fill_in hr⟩
theorem fill_cong {n : Nat} {c : Nat → Int32} {col col' : Nat → Nat} (h : ∀ r, r < n → col r = col' r) : fa_fill (fun r => nI (col r)) c n = fa_fill (fun r => nI (col' r)) c n := by
  funext j
  unfold fa_fill
  by_cases q : j < n
  · rw [if_pos q, if_pos q]
    show nI (col j) = nI (col' j)
    rw [h j q]
  · rw [if_neg q, if_neg q]
theorem nop_first {pc rc : Int32} {F S c al At Bs : Nat → Int32} {mp mr : Int32} {mF mS mc ml : Nat → Int32} (h : NetR pc rc F S c al At Bs mp mr mF mS mc ml) (p1 p2 p3 tr th hv ms : Nat → Int32) (a1 : Int32) : ∃ ox om, FX7_first p1 p2 p3 pc rc F S c al At Bs a1 = some ox ∧ FX8_first mr mF mS mc tr th hv ms a1 = some om ∧ ox.1 = om.1 ∧ NetR pc rc F S ox.2.2.2.2 al At Bs mp mr mF mS om.2.1 ml := by
  obtain ⟨⟨rfl, rfl, rfl, rfl, rfl, rfl⟩, p, n, fs, sc, rfl, rfl, hE, hA, hB, hN, hL⟩ := id h
  have hn := hE.1
  have hp1 : 0 < 2 ^ n := Nat.two_pow_pos n
  unfold FX7_first FX8_first FX8_in
  by_cases h0 : a1 < 0
  · simp only [h0, ↓reduceIte, Option.bind_some]; exact ⟨_, _, rfl, rfl, rfl, h⟩
  · by_cases h16 : (16 : Int32) < a1
    · have h16' : ¬ a1 ≤ 16 := by rw [fa_le]; rw [fa_lt] at h16; omega
      simp only [h0, h16, h16', ↓reduceIte, Option.bind_some]; exact ⟨_, _, rfl, rfl, rfl, h⟩
    · have h16' : a1 ≤ 16 := by rw [fa_le]; rw [fa_lt] at h16; omega
      simp only [h0, h16, h16', ↓reduceIte, Option.bind_some, o10]
      by_cases h12 : n ≤ 12
      · rw [if_pos ((leR12 (by omega)).mpr h12), if_pos ((leR12 (by omega)).mpr h12)]
        obtain ⟨k, hk31, rfl⟩ := nI_of h0
        have hk : k ≤ 16 := (leR16 hk31).mp h16'
        obtain ⟨ca, q1, q2⟩ := x_allow (canA := p1) h12 hk
        obtain ⟨b, a', b', d', num, x1, x2, x3, x4⟩ := x_pickFirst (picked := p2) (left := p3) (c := mc) hE h12 hB q2
        obtain ⟨o, m1, m2⟩ := m_tries (A := 2 ^ n - 1) (s := 99) (l2 := -1) (k := k) hE h12 hk (fun i => all_act h12) m1_none tr th hv ms
        rw [q1, Option.bind_some, x1, Option.bind_some, m1, Option.bind_some]
        rcases m2 with ⟨m2, m3⟩ | ⟨m2, col, m3, m4, m5⟩
        · have hb : b = false := by
            cases hb : b
            · rfl
            · exact absurd (x2.mp hb) m3
          rw [if_pos m2, hb, x3 hb]
          exact ⟨_, _, rfl, rfl, rfl, h⟩
        · have hb : b = true := x2.mpr ⟨col, m3⟩
          obtain ⟨col', l1, l2⟩ := x4 hb
          have hlex : LexMin fs sc n (blw k) col := ⟨m3, fun r hr m hm hx => m4 r hr (by omega) m hm (by
            obtain ⟨cc, c1, c2⟩ := hx
            exact ⟨cc, c1, fun j hj _ => c2 j hj⟩)⟩
          rw [if_neg (show ¬ o.1 = 0 by rw [m2]; decide), m_copy hn (fun j hj => m5 j hj (by omega)), hb, l2, fill_cong (lex_one l1 hlex)]
          refine ⟨_, _, rfl, rfl, rfl, ⟨rfl, rfl, rfl, rfl, rfl, rfl⟩, p, n, fs, sc, rfl, rfl, hE, hA, hB, fill_num (fun r hr => (m3.1 r (all_bit.mpr hr)).1), hL⟩
      · rw [if_neg (fun z => h12 ((leR12 (by omega)).mp z)), if_neg (fun z => h12 ((leR12 (by omega)).mp z))]
        exact ⟨_, _, rfl, rfl, rfl, h⟩
theorem nop_critical {pc rc : Int32} {F S c al At Bs : Nat → Int32} {mp mr : Int32} {mF mS mc ml : Nat → Int32} (h : NetR pc rc F S c al At Bs mp mr mF mS mc ml) (p1 p2 p3 tr th hv ms : Nat → Int32) : ∃ ox om, FX7_critical p1 p2 p3 pc rc F S c al At Bs = some ox ∧ FX8_critical mp mr mF mS tr th hv ms = some om ∧ ox.1 = om.1 := by
  obtain ⟨⟨rfl, rfl, rfl, rfl, rfl, rfl⟩, p, n, fs, sc, rfl, rfl, hE, hA, hB, hN, hL⟩ := id h
  have hn := hE.1
  have hp1 : 0 < 2 ^ n := Nat.two_pow_pos n
  have hfl := fulln_le fs sc n p
  unfold FX7_critical FX8_critical
  by_cases h12 : n ≤ 12
  · rw [if_pos ((leR12 (by omega)).mpr h12), if_pos ((leR12 (by omega)).mpr h12)]
    obtain ⟨b, a, d, k1, k2⟩ := x_critical (canA := p1) (left := p3) hE hA h12 hB
    obtain ⟨K, o, m1, m2, m3⟩ := m_leastOf (A := 2 ^ n - 1) (s := 99) (l2 := -1) hE h12 (by omega) (fun i => all_act h12) m1_none tr th hv ms
    rw [k1, m_full hE, m1]
    have hx : ∀ b : Bool, FX7_asBit (if b then (1 : Int32) else 0) = some (if b then 1 else 0) := fun b => by cases b <;> rfl
    simp only [Option.bind_some, hx]
    have hle := least_le (m := fulln fs sc n p) (by omega) m2
    by_cases hlt : fulln fs sc n p < K
    · rw [if_pos ((nI_ltI (by omega) (by omega)).mpr hlt)]
      have key := for_inv (f := X8_critical_L30 (nI n) mF mS (nI (fulln fs sc n p))) (fun (g : (Nat → Int32) × (Nat → Int32) × (Nat → Int32) × (Nat → Int32)) i => (g.1, g.2.1, g.2.2.1, g.2.2.2, nI i)) n (fun r g => ∀ j, j < r → Poss fs sc (blw (fulln fs sc n p)) ((2 ^ n - 1) ^^^ 2 ^ j)) (fun o => ∃ b : Bool, o.1 = (if b then 1 else 0) ∧ (b = true ↔ ∀ r, r < n → Poss fs sc (blw (fulln fs sc n p)) ((2 ^ n - 1) ^^^ 2 ^ r))) (fun r g hr hI => ?_) (fun g hI => ?_) (i := 0) (a := (o.1, o.2.1, o.2.2.1, o.2.2.2)) (Nat.zero_le _) (fun j hj => by omega)
      · obtain ⟨om, l1, b2, l2, l3⟩ := key
        refine ⟨_, om, rfl, l1, ?_⟩
        rw [l2]
        have : b = b2 := by
          have e : b = true ↔ b2 = true := by
            rw [k2, l3]
            exact ⟨fun z => z.2, fun z => ⟨fun hp => by have := hle.mpr hp; omega, z⟩⟩
          cases b <;> cases b2 <;> simp_all
        rw [this]
      · have hlt2 : (2 ^ n - 1) ^^^ 2 ^ r < 2 ^ n := Nat.lt_trans (xor_low (all_bit.mpr hr)) (by omega)
        obtain ⟨K', o', q1, q2, q3⟩ := m_leastOf (A := (2 ^ n - 1) ^^^ 2 ^ r) (s := r) (l2 := nI r) hE h12 hlt2 (fun i => but_act hr) (fun d hd => nI_eq (by omega) (by omega)) g.1 g.2.1 g.2.2.1 g.2.2.2
        have hle2 := least_le (m := fulln fs sc n p) (by omega) q2
        have hge : ¬ nI n ≤ nI r := by rw [nI_leI (by omega) (by omega)]; omega
        have hst : X8_critical_L30 (nI n) mF mS (nI (fulln fs sc n p)) (g.1, g.2.1, g.2.2.1, g.2.2.2, nI r) = if nI K' ≤ nI (fulln fs sc n p) then some (.inl (o'.1, o'.2.1, o'.2.2.1, o'.2.2.2, nI (r + 1))) else some (.inr (0, o'.1, o'.2.1, o'.2.2.1, o'.2.2.2)) := by
          unfold X8_critical_L30
          simp only [hge, ↓reduceIte, q1, Option.bind_some, bnd_at, nI_1]
        by_cases hk : K' ≤ fulln fs sc n p
        · left
          refine ⟨(o'.1, o'.2.1, o'.2.2.1, o'.2.2.2), by rw [hst, if_pos ((nI_leI (by omega) (by omega)).mpr hk)], fun j hj => ?_⟩
          rcases Nat.lt_or_ge j r with z | z
          · exact hI j z
          · rw [show j = r by omega]; exact hle2.mp hk
        · right
          exact ⟨_, by rw [hst, if_neg (fun z => hk ((nI_leI (by omega) (by omega)).mp z))], false, rfl, fun z => Bool.noConfusion z, fun z => absurd (hle2.mpr (z r hr)) hk⟩
      · exact ⟨(1, g.1, g.2.1, g.2.2.1, g.2.2.2), by simp only [X8_critical_L30, Int32.le_refl, ↓reduceIte], true, rfl, fun _ => hI, fun _ => rfl⟩
    · rw [if_neg (fun z => hlt ((nI_ltI (by omega) (by omega)).mp z))]
      have hb : b = false := by
        cases hb : b
        · rfl
        · exact absurd (hle.mp (by omega)) (k2.mp hb).1
      exact ⟨_, _, rfl, rfl, by rw [hb]; rfl⟩
  · rw [if_neg (fun z => h12 ((leR12 (by omega)).mp z)), if_neg (fun z => h12 ((leR12 (by omega)).mp z))]
    exact ⟨_, _, rfl, rfl, rfl⟩
