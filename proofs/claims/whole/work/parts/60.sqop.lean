/-! ===== the square: the calls ===== -/
def SqR (sde ht : Int32) (cell tk : Nat → Int32) (ms mr mn : Int32) (msq : Nat → Int32) : Prop := (ms = sde ∧ mr = ht ∧ msq = cell) ∧ ((sde = -1 ∧ ht = 0) ∨ ∃ (N h : Nat) (sq : Nat → Nat → Nat), 2 ≤ N ∧ N ≤ 9 ∧ h ≤ N ∧ sde = nI N ∧ ht = nI h ∧ Latin sq h N ∧ SqOK sq h N cell ∧ TkOK N (tkOf sq h N) tk ∧ (mn = -1 ∨ (h < N ∧ mn = nI (Wn N (tkOf sq h N) N (2 ^ N - 1)))))
theorem sqR_0 : SqR (-1) 0 (fun _ => 0) (fun _ => 0) (-1) 0 (-1) (fun _ => 0) := ⟨⟨rfl, rfl, rfl⟩, Or.inl ⟨rfl, rfl⟩⟩
theorem nop_square {sde ht : Int32} {cell tk : Nat → Int32} {ms mr mn : Int32} {msq : Nat → Int32} (h : SqR sde ht cell tk ms mr mn msq) (a1 : Int32) : ∃ ox om, FX7_square sde ht tk a1 = some ox ∧ FX8_square ms mr mn a1 = some om ∧ ox.1 = om.1 ∧ SqR ox.2.1 ox.2.2.1 cell ox.2.2.2 om.2.1 om.2.2.1 om.2.2.2 msq := by
  obtain ⟨⟨rfl, rfl, rfl⟩, h2⟩ := id h
  unfold FX7_square FX8_square FX8_in
  by_cases q1 : a1 < 2
  · simp only [q1, ↓reduceIte, Option.bind_some]
    exact ⟨_, _, rfl, rfl, rfl, h⟩
  · by_cases q2 : a1 ≤ 9
    · have q2' : ¬ (9 : Int32) < a1 := by rw [fa_lt]; rw [fa_le] at q2; omega
      simp only [q1, q2, q2', ↓reduceIte, Option.bind_some, o10]
      obtain ⟨N, hN31, rfl⟩ := nI_of (x := a1) (by rw [fa_lt] at *; rw [show (2 : Int32).toInt = 2 by decide] at q1; rw [show (0 : Int32).toInt = 0 by decide]; omega)
      have hN1 : 2 ≤ N := by rw [ltR2 hN31] at q1; omega
      have hN : N ≤ 9 := (leR9 hN31).mp q2
      unfold FX5_begin
      have key := for_inv (f := X5_begin_L17 (nI N) 0 ms) (fun (g : Nat → Int32) i => (g, nI i)) N (fun i g => ∀ j, j < i → g j = 0) (fun o => ∃ g : Nat → Int32, o = (ms, nI N, 0, g) ∧ ∀ j, j < N → g j = 0) (fun i g hi hI => ?_) (fun g hI => ?_) (i := 0) (a := tk) (Nat.zero_le _) (fun j hj => by omega)
      · obtain ⟨o, k1, g, rfl, k2⟩ := key
        refine ⟨(ms, nI N, 0, g), (ms, nI N, 0, -1), ?_, rfl, rfl, ⟨rfl, rfl, rfl⟩, Or.inr ⟨N, 0, fun _ _ => 0, hN1, hN, Nat.zero_le _, rfl, rfl, ⟨fun i c hi => by omega, fun i c c' hi => by omega, fun i i' c h1 h2 => by omega⟩, fun i c hi => by omega, fun j hj => ?_, Or.inl rfl⟩⟩
        · show (loopO (X5_begin_L17 (nI N) 0 ms) (tk, nI 0)).bind _ = _
          rw [k1]
          rfl
        · have e : tkOf (fun _ _ => 0) 0 N j = 0 := by
            unfold tkOf
            exact mk_zero.mpr (fun v _ => by rw [ex_false]; intro i hi; omega)
          rw [e]
          exact ⟨k2 j hj, Nat.two_pow_pos N⟩
      · left
        refine ⟨upd g i 0, ?_, fun j hj => ?_⟩
        · simp (disch := omega) only [X5_begin_L17, nI_leI, Nat.not_le.mpr hi, ↓reduceIte, wr_nI, bnd_at, nI_1]
        · rw [upd_at]
          by_cases e : j = i
          · rw [if_pos e]
          · rw [if_neg e]; exact hI j (by omega)
      · exact ⟨_, by simp only [X5_begin_L17, Int32.le_refl, ↓reduceIte], g, rfl, hI⟩
    · have q2' : (9 : Int32) < a1 := by rw [fa_lt]; rw [fa_le] at q2; omega
      simp only [q1, q2, q2', ↓reduceIte, Option.bind_some]
      exact ⟨_, _, rfl, rfl, rfl, h⟩
section SQOP
variable {N h : Nat} {sq : Nat → Nat → Nat}
/-- a good row stands on -/
theorem sq_more {d : Nat → Nat} {cell Tk Tk' : Nat → Int32} (hN1 : 2 ≤ N) (hN : N ≤ 9) (hh : h < N) (hL : Latin sq h N) (hS : SqOK sq h N cell) (hT : TkOK N (tkOf sq h N) Tk) (h1 : ∀ c, c < N → d c < N ∧ (tkOf sq h N c).testBit (d c) = false) (h2 : ∀ i j, i < j → j < N → d i ≠ d j) (h3 : ∀ j, j < N → Tk' j = nI (tkOf sq h N j ||| 2 ^ d j)) : Latin (fun i c => if i = h then d c else sq i c) (h + 1) N ∧ SqOK (fun i c => if i = h then d c else sq i c) (h + 1) N (rowf cell h N d) ∧ TkOK N (tkOf (fun i c => if i = h then d c else sq i c) (h + 1) N) Tk' := by
  obtain ⟨l1, l2, l3⟩ := hL
  refine ⟨⟨fun i c hi hc => ?_, fun i c c' hi hc hc' => ?_, fun i i' c hi hi' hc => ?_⟩, fun i c hi hc => ?_, fun j hj => ?_⟩
  · show (if i = h then d c else sq i c) < N
    by_cases e : i = h
    · rw [if_pos e]; exact (h1 c hc).1
    · rw [if_neg e]; exact l1 i c (by omega) hc
  · show (if i = h then d c else sq i c) ≠ (if i = h then d c' else sq i c')
    by_cases e : i = h
    · rw [if_pos e, if_pos e]; exact h2 c c' hc hc'
    · rw [if_neg e, if_neg e]; exact l2 i c c' (by omega) hc hc'
  · show (if i = h then d c else sq i c) ≠ (if i' = h then d c else sq i' c)
    rw [if_neg (by omega)]
    by_cases e : i' = h
    · rw [if_pos e]
      intro q
      have := (h1 c hc).2
      unfold tkOf at this
      rw [mk_bit, ← q] at this
      have hx : ex (fun z => decide (sq z c = sq i c)) h = true := ex_true.mpr ⟨i, by omega, by simp⟩
      rw [hx] at this
      simp [l1 i c (by omega) hc] at this
    · rw [if_neg e]; exact l3 i i' c hi (by omega) hc
  · show rowf cell h N d (9 * i + c) = nI (if i = h then d c else sq i c) ∧ (if i = h then d c else sq i c) < N
    unfold rowf
    by_cases e : i = h
    · rw [if_pos (by omega), if_pos e, e, show 9 * h + c - 9 * h = c by omega]
      exact ⟨rfl, (h1 c hc).1⟩
    · rw [if_neg (by omega), if_neg e]
      exact hS i c (by omega) hc
  · have e : tkOf (fun i c => if i = h then d c else sq i c) (h + 1) N j = tkOf sq h N j ||| 2 ^ d j := by
      unfold tkOf
      refine bits_eq (k := N) (mk_lt _ _) (Nat.or_lt_two_pow (mk_lt _ _) (Nat.pow_lt_pow_right (by decide) (h1 j hj).1)) (fun v hv => ?_)
      rw [fb_bit_set, mk_bit, mk_bit, ex_succ]
      have e2 : ex (fun i => decide ((if i = h then d j else sq i j) = v)) h = ex (fun i => decide (sq i j = v)) h := ex_cong (fun i hi => by rw [if_neg (by omega)])
      rw [e2]
      simp only [↓reduceIte, hv, decide_true, Bool.true_and]
      congr 1
      by_cases q : d j = v
      · simp [q]
      · simp [q, Ne.symm q]
    rw [e]
    exact ⟨h3 j hj, Nat.or_lt_two_pow (mk_lt _ _) (Nat.pow_lt_pow_right (by decide) (h1 j hj).1)⟩
theorem row_cong {cell : Nat → Int32} {d d' : Nat → Nat} (hd : ∀ c, c < N → d c = d' c) : rowf cell h N d = rowf cell h N d' := by
  funext i
  unfold rowf
  by_cases q : 9 * h ≤ i ∧ i < 9 * h + N
  · rw [if_pos q, if_pos q, hd _ (by omega)]
  · rw [if_neg q, if_neg q]
theorem num_cong {d d' : Nat → Nat} : ∀ {c : Nat}, (∀ j, j < c → d j = d' j) → numD d c = numD d' c
  | 0, _ => rfl
  | c + 1, hd => by rw [numD, numD, num_cong (fun j hj => hd j (by omega)), hd c (by omega)]
end SQOP
theorem room_no {N h : Nat} (hN : N ≤ 9) (hh : h ≤ N) : FX5_hasRoom (nI N) (nI h) = some (if decide (h < N) then 1 else 0) := by
  unfold FX5_hasRoom
  by_cases q : h < N
  · rw [if_neg (by rw [nI_leI (by omega) (by omega)]; omega)]
    simp [q]
  · rw [if_pos (by rw [nI_leI (by omega) (by omega)]; omega)]
    simp [q]
theorem nop_hold {sde ht : Int32} {cell tk : Nat → Int32} {ms mr mn : Int32} {msq : Nat → Int32} (h : SqR sde ht cell tk ms mr mn msq) (nxt : Nat → Int32) (a1 : Int32) : ∃ ox om, FX7_hold sde ht cell tk a1 = some ox ∧ FX8_hold ms mr mn msq nxt a1 = some om ∧ ox.1 = om.1 ∧ SqR sde ox.2.1 ox.2.2.1 ox.2.2.2 ms om.2.1 om.2.2.1 om.2.2.2.1 := by
  obtain ⟨⟨rfl, rfl, rfl⟩, h2⟩ := id h
  rcases h2 with ⟨rfl, rfl⟩ | ⟨N, hh, sq, hN1, hN, hle, rfl, rfl, hL, hS, hT, hn⟩
  · exact ⟨(-2, 0, msq, tk), (-2, 0, mn, msq, nxt), rfl, rfl, rfl, h⟩
  · unfold FX7_hold
    rw [room_no hN hle, Option.bind_some]
    by_cases hlt : hh < N
    · rw [show decide (hh < N) = true from decide_eq_true hlt, if_neg (show ¬ (if true = true then (1 : Int32) else 0) = 0 by decide)]
      by_cases h0 : a1 < 0
      · have h0' : ¬ (0 : Int32) ≤ a1 := by rw [fa_le]; rw [fa_lt] at h0; omega
        have e1 : FX5_canStandNext (nI N) tk a1 = some 0 := by
          unfold FX5_canStandNext
          rw [if_neg h0']
        have e2 : FX8_hold (nI N) (nI hh) mn msq nxt a1 = some (-2, nI hh, mn, msq, nxt) := by
          unfold FX8_hold
          rw [if_neg (by rw [ltR0 (by omega)]; omega), if_neg (by rw [nI_eq (by omega) (by omega)]; omega), if_neg h0']
        rw [e1, e2]
        exact ⟨_, _, rfl, rfl, rfl, h⟩
      · obtain ⟨a, ha, rfl⟩ := nI_of h0
        obtain ⟨b, x1, x2⟩ := x_canStand hN1 hN ha hT
        obtain ⟨b', nxt', m1, m2⟩ := m_hold (nxt := nxt) (nr := mn) hN1 hN hlt hS ha
        have hb : b = b' := by
          have e : b = true ↔ b' = true := by rw [x2, m2]
          cases b <;> cases b' <;> simp_all
        subst hb
        rw [x1, Option.bind_some, m1]
        cases hb : b
        · exact ⟨_, _, rfl, rfl, rfl, h⟩
        · obtain ⟨g1, g2, g3⟩ := x2.mp hb
          obtain ⟨Tk', t1, t2⟩ := x_append (cell := msq) hN1 hN (show hh < 9 by omega) ha hT
          rw [if_neg (show ¬ (if true = true then (1 : Int32) else 0) = 0 by decide), t1]
          obtain ⟨s1, s2, s3⟩ := sq_more hN1 hN hlt hL hS hT g2 g3 t2
          exact ⟨_, _, rfl, rfl, rfl, ⟨rfl, rfl, rfl⟩, Or.inr ⟨N, hh + 1, _, hN1, hN, by omega, rfl, rfl, s1, s2, s3, Or.inl rfl⟩⟩
    · have e2 : FX8_hold (nI N) (nI hh) mn msq nxt a1 = some (-2, nI hh, mn, msq, nxt) := by
        unfold FX8_hold
        rw [if_neg (by rw [ltR0 (by omega)]; omega), if_pos (by rw [show hh = N by omega])]
      rw [show decide (hh < N) = false from decide_eq_false hlt, e2]
      exact ⟨_, _, rfl, rfl, rfl, h⟩
theorem nop_on {sde ht : Int32} {cell tk : Nat → Int32} {ms mr mn : Int32} {msq : Nat → Int32} (h : SqR sde ht cell tk ms mr mn msq) (wy nxt : Nat → Int32) : ∃ ox om, FX7_on sde ht cell tk wy = some ox ∧ FX8_on ms mr mn msq nxt = some om ∧ ox.1 = om.1 ∧ SqR sde ox.2.1 ox.2.2.1 ox.2.2.2.1 ms om.2.1 om.2.2.1 om.2.2.2.1 := by
  obtain ⟨⟨rfl, rfl, rfl⟩, h2⟩ := id h
  rcases h2 with ⟨rfl, rfl⟩ | ⟨N, hh, sq, hN1, hN, hle, rfl, rfl, hL, hS, hT, hn⟩
  · exact ⟨(-2, 0, msq, tk, wy), (-2, 0, mn, msq, nxt), rfl, rfl, rfl, h⟩
  · unfold FX7_on FX8_on
    rw [room_no hN hle, Option.bind_some, if_neg (show ¬ nI N < (0 : Int32) by rw [ltR0 (by omega)]; omega)]
    by_cases hlt : hh < N
    · rw [show decide (hh < N) = true from decide_eq_true hlt, if_neg (show ¬ (if true = true then (1 : Int32) else 0) = 0 by decide), if_neg (show ¬ nI hh = nI N by rw [nI_eq (by omega) (by omega)]; omega)]
      have hpos := row_more hN hlt hL
      obtain ⟨d, wy', x1, x2⟩ := x_leastNext (wy := wy) hN1 hN hT hpos
      obtain ⟨nxt', d', m1, m2, m3⟩ := m_first hN1 hN (show hh < 9 by omega) hS hpos nxt
      have hdd := lexAt_one x2 m2
      have hdN : ∀ c, c < N → d c < N ∧ (tkOf sq hh N c).testBit (d c) = false := fun c hc => by
        have := (x2 c hc).1
        unfold okD at this
        simp only [Bool.and_eq_true, Bool.not_eq_true'] at this
        exact ⟨(sx_bit.mp this.1).1, this.2⟩
      have hdi : ∀ i j, i < j → j < N → d i ≠ d j := fun i j h1 h2 => by
        have := (x2 j h2).1
        unfold okD at this
        simp only [Bool.and_eq_true] at this
        exact (sx_bit.mp this.1).2 i h1
      have hd10 : ∀ j, j < N → d j < 10 := fun j hj => by have := (hdN j hj).1; omega
      have ha := numD_9 hN hd10 (Nat.le_refl N)
      have ha31 : numD d N < 2 ^ 31 := Nat.lt_trans ha (by decide)
      obtain ⟨Tk', t1, t2⟩ := x_append (cell := msq) (a := numD d N) hN1 hN (show hh < 9 by omega) ha31 hT
      have hdg : ∀ c, c < N → dgt (numD d N) N c = d c := fun c hc => dgt_numD hd10 hc
      rw [x1, Option.bind_some]
      rw [show (nI (numD d N), wy').1 = nI (numD d N) from rfl, t1, Option.bind_some, m1, Option.bind_some]
      rw [show (nI 1, nxt').2 = nxt' from rfl, m_number hN (show hh < 9 by omega) m3]
      obtain ⟨s1, s2, s3⟩ := sq_more (Tk' := Tk') hN1 hN hlt hL hS hT hdN hdi (fun j hj => by rw [t2 j hj, hdg j hj])
      refine ⟨_, _, rfl, rfl, ?_, ⟨rfl, rfl, ?_⟩, Or.inr ⟨N, hh + 1, _, hN1, hN, by omega, rfl, rfl, s1, ?_, s3, Or.inl rfl⟩⟩
      · show nI (numD d N) = nI (numD d' N)
        rw [num_cong hdd]
      · show rowf msq hh N d' = rowf msq hh N (dgt (numD d N) N)
        exact row_cong (fun c hc => by rw [hdg c hc, hdd c hc])
      · show SqOK _ _ _ (rowf msq hh N (dgt (numD d N) N))
        rw [row_cong hdg]
        exact s2
    · rw [show decide (hh < N) = false from decide_eq_false hlt, if_pos (show nI hh = nI N by rw [show hh = N by omega])]
      exact ⟨_, _, rfl, rfl, rfl, h⟩
theorem nop_rows {sde ht : Int32} {cell tk : Nat → Int32} {ms mr mn : Int32} {msq : Nat → Int32} (h : SqR sde ht cell tk ms mr mn msq) (wy nxt : Nat → Int32) : ∃ ox om, FX7_rows sde ht tk wy = some ox ∧ FX8_rows ms mr mn msq nxt = some om ∧ ox.1 = om.1 ∧ SqR sde ht cell tk ms mr om.2.1 msq := by
  obtain ⟨⟨rfl, rfl, rfl⟩, h2⟩ := id h
  rcases h2 with ⟨rfl, rfl⟩ | ⟨N, hh, sq, hN1, hN, hle, rfl, rfl, hL, hS, hT, hn⟩
  · exact ⟨(-2, wy), (-2, mn, nxt), rfl, rfl, rfl, h⟩
  · unfold FX7_rows FX8_rows
    rw [room_no hN hle, Option.bind_some, if_neg (show ¬ nI N < (0 : Int32) by rw [ltR0 (by omega)]; omega)]
    by_cases hlt : hh < N
    · rw [show decide (hh < N) = true from decide_eq_true hlt, if_neg (show ¬ (if true = true then (1 : Int32) else 0) = 0 by decide), if_neg (show ¬ nI hh = nI N by rw [nI_eq (by omega) (by omega)]; omega)]
      obtain ⟨wy', x1⟩ := x_waysNext (wy := wy) hN1 hN hT
      rw [x1]
      have hwl := wn_lt (tk := tkOf sq hh N) hN hN (2 ^ N - 1)
      rcases hn with rfl | ⟨-, rfl⟩
      · obtain ⟨nxt', m1⟩ := m_rowcount hN1 hN (show hh < 9 by omega) hS nxt
        rw [if_neg (by decide), m1]
        exact ⟨_, _, rfl, rfl, rfl, ⟨rfl, rfl, rfl⟩, Or.inr ⟨N, hh, sq, hN1, hN, hle, rfl, rfl, hL, hS, hT, Or.inr ⟨hlt, rfl⟩⟩⟩
      · rw [if_pos (nI_pos' (by omega))]
        exact ⟨_, _, rfl, rfl, rfl, ⟨rfl, rfl, rfl⟩, Or.inr ⟨N, hh, sq, hN1, hN, hle, rfl, rfl, hL, hS, hT, Or.inr ⟨hlt, rfl⟩⟩⟩
    · rw [show decide (hh < N) = false from decide_eq_false hlt, if_pos (show nI hh = nI N by rw [show hh = N by omega])]
      exact ⟨_, _, rfl, rfl, rfl, h⟩
theorem nop_at {sde ht : Int32} {cell tk : Nat → Int32} {ms mr mn : Int32} {msq : Nat → Int32} (h : SqR sde ht cell tk ms mr mn msq) (a1 a2 : Int32) : ∃ ox om, FX7_at sde ht cell a1 a2 = some ox ∧ FX8_at ms mr msq a1 a2 = some om ∧ ox = om := by
  obtain ⟨⟨rfl, rfl, rfl⟩, h2⟩ := id h
  unfold FX7_at FX8_at FX8_in
  have hz : (0 : Int32).toInt = 0 := by decide
  by_cases h0 : a1 < 0
  · simp only [h0, ↓reduceIte, Option.bind_some]
    exact ⟨_, _, rfl, rfl, rfl⟩
  · rcases h2 with ⟨rfl, rfl⟩ | ⟨N, hh, sq, hN1, hN, hle, rfl, rfl, hL, hS, hT, hn⟩
    · have e1 : (0 : Int32) ≤ a1 := by rw [fa_le]; rw [fa_lt] at h0; omega
      have e2 : ¬ a1 ≤ 0 - 1 := by rw [fa_le, show ((0 : Int32) - 1).toInt = -1 by decide]; rw [fa_le] at e1; omega
      have e2' : (0 : Int32) - 1 < a1 := by rw [fa_lt, show ((0 : Int32) - 1).toInt = -1 by decide]; rw [fa_le] at e1; omega
      simp only [h0, e1, e2, e2', ↓reduceIte, Option.bind_some]
      exact ⟨_, _, rfl, rfl, rfl⟩
    · obtain ⟨i, hi, rfl⟩ := nI_of h0
      have m1i : ∀ k : Nat, k ≤ 9 → (nI k - 1).toInt = (k : Int) - 1 := fun k hk => by
        rw [fb_subI (by rw [nI_toInt (by omega), show (1 : Int32).toInt = 1 by decide]; omega) (by rw [nI_toInt (by omega), show (1 : Int32).toInt = 1 by decide]; omega), nI_toInt (by omega), show (1 : Int32).toInt = 1 by decide]
      by_cases hir : i < hh
      · have e1 : ¬ nI hh ≤ nI i := by rw [nI_leI (by omega) (by omega)]; omega
        have e2 : nI i ≤ nI hh - 1 := by rw [fa_le, m1i hh (by omega), nI_toInt hi]; omega
        have e2' : ¬ nI hh - 1 < nI i := by rw [fa_lt, m1i hh (by omega), nI_toInt hi]; omega
        simp only [h0, e1, e2, e2', ↓reduceIte, Option.bind_some, o10]
        by_cases g0 : a2 < 0
        · simp only [g0, ↓reduceIte, Option.bind_some]
          exact ⟨_, _, rfl, rfl, rfl⟩
        · obtain ⟨c, hc, rfl⟩ := nI_of g0
          by_cases hcn : c < N
          · have e3 : nI c < nI N := by rw [nI_ltI (by omega) (by omega)]; exact hcn
            have e4 : nI c ≤ nI N - 1 := by rw [fa_le, m1i N (by omega), nI_toInt hc]; omega
            have e4' : ¬ nI N - 1 < nI c := by rw [fa_lt, m1i N (by omega), nI_toInt hc]; omega
            simp only [g0, e3, e4, e4', ↓reduceIte, Option.bind_some, o10]
            rw [show (9 : Int32) = nI 9 from rfl, ml_nI, ml_nI, nI_add, nI_add, show i * 9 + c = 9 * i + c by omega, rd_nI (by omega) (by decide)]
            exact ⟨_, _, rfl, rfl, rfl⟩
          · have e3 : ¬ nI c < nI N := by rw [nI_ltI (by omega) (by omega)]; exact hcn
            have e4 : ¬ nI c ≤ nI N - 1 := by rw [fa_le, m1i N (by omega), nI_toInt hc]; omega
            have e4' : nI N - 1 < nI c := by rw [fa_lt, m1i N (by omega), nI_toInt hc]; omega
            simp only [g0, e3, e4, e4', ↓reduceIte, Option.bind_some]
            exact ⟨_, _, rfl, rfl, rfl⟩
      · have e1 : nI hh ≤ nI i := by rw [nI_leI (by omega) (by omega)]; omega
        have e2 : ¬ nI i ≤ nI hh - 1 := by rw [fa_le, m1i hh (by omega), nI_toInt hi]; omega
        have e2' : nI hh - 1 < nI i := by rw [fa_lt, m1i hh (by omega), nI_toInt hi]; omega
        simp only [h0, e1, e2, e2', ↓reduceIte, Option.bind_some]
        exact ⟨_, _, rfl, rfl, rfl⟩
