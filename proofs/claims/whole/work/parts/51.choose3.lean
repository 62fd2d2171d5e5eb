/-! ===== choose: both sides ===== -/
section CHOOSE3
variable {n p : Nat} {fs sc : Nat → Nat} {F S : Nat → Int32}
theorem m_copy2 {a b d e f g c : Nat → Int32} {col : Nat → Nat} (hn : n ≤ 24) (hP : ∀ j, j < n → a j = nI (col j)) : loopO (X8_choose_L130 (nI n) a b d e f g) (c, 0) = some (1, fa_fill (fun r => nI (col r)) c n, a, b, d, e, f, g) := by
  have h0 : (c, (0 : Int32)) = (fa_fill (fun r => nI (col r)) c 0, nI 0) := by rw [fa_fill_0]; rfl
  rw [h0]
  refine for_fun (fun i => (fa_fill (fun r => nI (col r)) c i, nI i)) 0 n (Nat.zero_le _) (fun i _ hi => ?_) ?_
  · simp (disch := omega) only [X8_choose_L130, nI_leI, Nat.not_le.mpr hi, ↓reduceIte, rd_nI, hP i hi, wr_nI, bnd_at, nI_1]
    rw [fa_fill_succ (fun r => nI (col r)) c i]
  · simp only [X8_choose_L130, Int32.le_refl, ↓reduceIte]
theorem m_choose_ok {c ml tr th hv ms only can : Nat → Int32} {ls : Nat → Nat} (hE : EndsOK n p fs sc F S) (hn : n ≤ 8) (hml : ∀ j, j < n → ls j < 65536 ∧ ml j = nI (ls j)) : ∃ (b : Bool) (num : Nat → Int32) (o : (Nat → Int32) × (Nat → Int32) × (Nat → Int32) × (Nat → Int32) × (Nat → Int32) × (Nat → Int32)), FX8_choose (nI n) F S c ml tr th hv ms only can = some ((if b then 1 else 0), num, o) ∧ (b = true ↔ Poss fs sc ls (2 ^ n - 1)) ∧ (b = false → num = c) ∧ (b = true → ∃ col, LexMin fs sc n ls col ∧ num = fa_fill (fun r => nI (col r)) c n) := by
  unfold FX8_choose
  rw [if_pos ((leR8 (by omega)).mpr hn)]
  obtain ⟨o, q1, q2⟩ := m_look hE tr th hv ms
  rw [q1, Option.bind_some]
  obtain ⟨q3, hth, -, -⟩ := q2
  have goal := for_inv (f := X8_choose_L18 (nI n) c ml o.1 o.2.1 o.2.2.1 o.2.2.2 can) (fun (g : Nat → Int32) i => (g, nI i)) n (fun i g => ∀ j, j < i → g j = nI (ls j)) (fun r => ∃ (b : Bool) (num : Nat → Int32) (o : (Nat → Int32) × (Nat → Int32) × (Nat → Int32) × (Nat → Int32) × (Nat → Int32) × (Nat → Int32)), r = ((if b then 1 else 0), num, o) ∧ (b = true ↔ Poss fs sc ls (2 ^ n - 1)) ∧ (b = false → num = c) ∧ (b = true → ∃ col, LexMin fs sc n ls col ∧ num = fa_fill (fun r => nI (col r)) c n)) (fun i g hi hI => ?_) (fun g hI => ?_) (i := 0) (a := only) (Nat.zero_le _) (fun j hj => by omega)
  · obtain ⟨r, k1, b, num, o', rfl, k2⟩ := goal
    exact ⟨b, num, o', k1, k2⟩
  · left
    refine ⟨upd g i (nI (ls i)), ?_, fun j hj => ?_⟩
    · simp (disch := omega) only [X8_choose_L18, nI_leI, Nat.not_le.mpr hi, ↓reduceIte, rd_nI, (hml i hi).2, wr_nI, bnd_at, nI_1]
    · rw [upd_at]
      by_cases e : j = i
      · rw [if_pos e, e]
      · rw [if_neg e]; exact hI j (by omega)
  · have hJ : ∀ x, X8_choose_J44 (nI n) c ml o.1 o.2.1 o.2.2.1 o.2.2.2 g can = some x → X8_choose_L18 (nI n) c ml o.1 o.2.1 o.2.2.1 o.2.2.2 can (g, nI n) = some (.inr x) := fun x hx => by
      simp only [X8_choose_L18, Int32.le_refl, ↓reduceIte]
      rw [hx]
      rfl
    obtain ⟨b, can', a1, a2⟩ := m_allCan (fs := fs) (sc := sc) (on := ls) hn hth (fun j hj => ⟨hI j hj, (hml j hj).1⟩) can
    cases hb : b
    · rw [hb] at a1 a2
      refine ⟨_, hJ ((if false then 1 else 0), c, o.1, o.2.1, o.2.2.1, o.2.2.2, g, can') ?_, false, c, (o.1, o.2.1, o.2.2.1, o.2.2.2, g, can'), rfl, a2, fun _ => rfl, fun z => Bool.noConfusion z⟩
      unfold X8_choose_J44
      rw [a1, Option.bind_some, if_pos (show ((if false = true then (1 : Int32) else 0), can').1 = 0 from rfl)]
      rfl
    · rw [hb] at a1 a2
      obtain ⟨cc, hcc⟩ := a2.mp rfl
      have key := for_inv (f := X8_choose_L55 (nI n) c ml o.2.1 o.2.2.1 o.2.2.2) (fun (z : (Nat → Int32) × (Nat → Int32) × (Nat → Int32)) i => (z.1, z.2.1, z.2.2, nI i)) n (fun r z => ∃ col, Pre fs sc ls col r ∧ Ext fs sc n ls col r ∧ (∀ j, j < n → z.2.1 j = nI (fix ls col r j)) ∧ (∀ j, j < r → z.1 j = nI (col j)) ∧ ∀ j, j < r → ∀ m, m < col j → ¬ Ext fs sc n ls (fun i => if i = j then m else col i) (j + 1)) (fun x => ∃ (a b' d : Nat → Int32) (col : Nat → Nat), x = (1, fa_fill (fun r => nI (col r)) c n, a, o.2.1, o.2.2.1, o.2.2.2, b', d) ∧ LexMin fs sc n ls col) (fun r z hr hJ2 => ?_) (fun z hJ2 => ?_) (i := 0) (a := (o.1, g, can')) (Nat.zero_le _) ⟨fun _ => 0, ⟨fun j hj => by omega, fun i j hi => by omega⟩, ⟨cc, hcc, fun j hj => by omega⟩, fun j hj => by unfold fix; rw [if_neg (by omega)]; exact hI j hj, fun j hj => by omega, fun j hj => by omega⟩
      · obtain ⟨x, k1, a, b', d, col, rfl, k2⟩ := key
        refine ⟨_, hJ _ ?_, true, fa_fill (fun r => nI (col r)) c n, (a, o.2.1, o.2.2.1, o.2.2.2, b', d), rfl, a2, fun z => Bool.noConfusion z, fun _ => ⟨col, k2, rfl⟩⟩
        unfold X8_choose_J44
        rw [a1, Option.bind_some, if_neg (show ¬ ((if true = true then (1 : Int32) else 0), can').1 = 0 from (by decide : ¬ (1 : Int32) = 0))]
        exact k1
      · left
        obtain ⟨col, j1, j2, j3, j4, j5⟩ := hJ2
        obtain ⟨zt, zo, zc⟩ := z
        obtain ⟨k, only', can'', p1, p2, p3, p4, p5⟩ := m_pick (num := c) (tr := zt) (hv := o.2.2.1) (ms := o.2.2.2) (can := zc) (N := nI n) hn hth hml hr j1 j2 j3
        refine ⟨(upd zt r (nI k), only', can''), ?_, fun j => if j = r then k else col j, p2, p3, p5, fun j hj => ?_, fun j hj m hm => ?_⟩
        · unfold X8_choose_L55
          rw [if_neg (show ¬ nI n ≤ (zt, zo, zc, nI r).2.2.2 from by show ¬ nI n ≤ nI r; rw [nI_leI (by omega) (by omega)]; omega)]
          exact p1
        · show upd zt r (nI k) j = nI (if j = r then k else col j)
          rw [upd_at]
          by_cases e : j = r
          · rw [if_pos e, if_pos e]
          · rw [if_neg e, if_neg e]; exact j4 j (by omega)
        · simp only at hm
          by_cases e : j = r
          · subst e
            rw [if_pos rfl] at hm
            intro hx
            exact p4 m hm (ext_cong (fun i hi => by by_cases q : i = j <;> simp [q]) hx)
          · rw [if_neg e] at hm
            intro hx
            exact j5 j (by omega) m hm (ext_cong (fun i hi => by
              by_cases q : i = j
              · simp [q]
              · simp only [q, ↓reduceIte]
                rw [if_neg (by omega)]) hx)
      · obtain ⟨col, j1, j2, j3, j4, j5⟩ := hJ2
        obtain ⟨zt, zo, zc⟩ := z
        refine ⟨(1, fa_fill (fun r => nI (col r)) c n, zt, o.2.1, o.2.2.1, o.2.2.2, zo, zc), ?_, zt, zo, zc, col, rfl, ⟨fun r hr => j1.1 r (all_bit.mp hr), fun r s hr hs => j1.2 r s (all_bit.mp hr) (all_bit.mp hs)⟩, j5⟩
        unfold X8_choose_L55
        rw [if_pos (show nI n ≤ (zt, zo, zc, nI n).2.2.2 from Int32.le_refl _)]
        rw [m_copy2 hE.1 j4]
        rfl
end CHOOSE3
theorem nop_choose {pc rc : Int32} {F S c al At Bs : Nat → Int32} {mp mr : Int32} {mF mS mc ml : Nat → Int32} (h : NetR pc rc F S c al At Bs mp mr mF mS mc ml) (p1 p2 p3 tr th hv ms only can : Nat → Int32) : ∃ ox om, FX7_choose p1 p2 p3 pc rc F S c al At Bs = some ox ∧ FX8_choose mr mF mS mc ml tr th hv ms only can = some om ∧ ox.1 = om.1 ∧ NetR pc rc F S ox.2.2.2.2 al At Bs mp mr mF mS om.2.1 ml := by
  obtain ⟨⟨rfl, rfl, rfl, rfl, rfl, rfl⟩, p, n, fs, sc, rfl, rfl, hE, hA, hB, hN, hL⟩ := id h
  have hn := hE.1
  by_cases h8 : n ≤ 8
  · obtain ⟨ls, hls⟩ : ∃ ls : Nat → Nat, ∀ j, j < n → ls j < 65536 ∧ ml j = nI (ls j) := by
      refine ⟨fun j => fa_first (fun k => decide (ml j = nI k)) 65536, fun j hj => ?_⟩
      obtain ⟨k, k1, k2⟩ := hL j hj
      have hx : fa_first (fun k => decide (ml j = nI k)) 65536 < 65536 := by
        have : ex (fun k => decide (ml j = nI k)) 65536 = true := ex_true.mpr ⟨k, k1, decide_eq_true k2⟩
        unfold ex at this
        exact of_decide_eq_true this
      exact ⟨hx, of_decide_eq_true (fa_first_yes (fun k => decide (ml j = nI k)) 65536 hx)⟩
    obtain ⟨b', num', o', m1, m2, m3, m4⟩ := m_choose_ok (c := mc) (tr := tr) (th := th) (hv := hv) (ms := ms) (only := only) (can := can) hE h8 hls
    obtain ⟨ca, q1, q2⟩ := x_listed (canA := p1) (show n ≤ 12 by omega) hls
    obtain ⟨b, a', b2, d', num, x1, x2, x3, x4⟩ := x_pickFirst (picked := p2) (left := p3) (c := mc) hE (show n ≤ 12 by omega) hB q2
    unfold FX7_choose
    rw [if_pos ((leR8 (by omega)).mpr h8), q1, Option.bind_some, x1, Option.bind_some, m1]
    have hbb : b = b' := by
      have e : b = true ↔ b' = true := by rw [x2, m2]
      cases b <;> cases b' <;> simp_all
    subst hbb
    cases hb : b
    · rw [x3 hb, m3 hb]
      exact ⟨_, _, rfl, rfl, rfl, h⟩
    · obtain ⟨col, l1, l2⟩ := x4 hb
      obtain ⟨col', l3, l4⟩ := m4 hb
      rw [l2, l4, fill_cong (lex_one l3 l1)]
      exact ⟨_, _, rfl, rfl, rfl, ⟨rfl, rfl, rfl, rfl, rfl, rfl⟩, p, n, fs, sc, rfl, rfl, hE, hA, hB, fill_num (fun r hr => (l1.1.1 r (all_bit.mpr hr)).1), hL⟩
  · unfold FX7_choose FX8_choose
    rw [if_neg (fun z => h8 ((leR8 (by omega)).mp z)), if_neg (fun z => h8 ((leR8 (by omega)).mp z))]
    exact ⟨_, _, rfl, rfl, rfl, h⟩
