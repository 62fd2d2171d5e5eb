/-! ===== the square: the model's first row, hold ===== -/
section SQ4
variable {N h : Nat} {sq : Nat → Nat → Nat} {sqA : Nat → Int32}
theorem found_first (hN1 : 2 ≤ N) (hN : N ≤ 9) (hh : h < 9) (hS : SqOK sq h N sqA) : ∀ (e c : Nat), N - (c + 1) = e → c < N → ∀ (φ : Nat → Nat) (y x : Nat) (nxt : Nat → Int32), N - x = y → x ≤ N → (∀ j, j < c → nxt j = nI (φ j) ∧ φ j < 2 ^ 31) → nxt c + 1 = nI x → 0 < fb_sm (gv N (tkOf sq h N) φ c) N - fb_sm (gv N (tkOf sq h N) φ c) x → (∀ u, u < x → gv N (tkOf sq h N) φ c u = 0) → ∃ (nxt' : Nat → Int32) (d : Nat → Nat), loopO (X8_found_L11 (nI N) (nI h) sqA (nI 1)) (nxt, nI 0, nI c) = some (nI 1, nxt') ∧ (∀ j, j < c → d j = φ j) ∧ (∀ j, c ≤ j → j < N → LexAt N (tkOf sq h N) d j) ∧ ∀ j, j < N → nxt' j = nI (d j) := by
  have lexc : ∀ (c v : Nat) (φ d : Nat → Nat), (∀ j, j < c → d j = φ j) → d c = v → okD N (tkOf sq h N) φ c v = true → 0 < gv N (tkOf sq h N) φ c v → (∀ u, u < v → gv N (tkOf sq h N) φ c u = 0) → LexAt N (tkOf sq h N) d c := fun c v φ d h1 h2 h3 h4 h5 => by
    have hSx : Sx N d c = Sx N φ c := sx_cong h1
    unfold LexAt okD
    rw [hSx, h2]
    refine ⟨h3, ?_, fun u hu hok => ?_⟩
    · unfold gv at h4
      rw [h3] at h4
      exact h4
    · have := h5 u hu
      unfold gv okD at this
      rw [hok] at this
      exact this
  intro e
  induction e with
  | zero =>
    intro c he hc φ y x nxt hy hx hφ hxc hpos hno
    rcases found_step hN1 hN hh hS hc hx (show 0 < 2 ^ 30 by decide) (show 1 < 2 ^ 31 by decide) hφ hxc with ⟨h1, h2⟩ | ⟨v, v1, v2, v3, v4, v5⟩
    · rw [gv_flat N hx h1] at hpos
      omega
    · rw [if_neg (by omega), if_pos rfl] at v5
      have hg : gv N (tkOf sq h N) φ c v = 1 := by unfold gv; rw [v3, he]; rfl
      refine ⟨upd nxt c (nI v), fun j => if j = c then v else φ j, lp_end v5, fun j hj => by simp only [show ¬ j = c by omega, ↓reduceIte], fun j h1 h2 => ?_, fun j hj => ?_⟩
      · obtain rfl : j = c := by omega
        refine lexc j v φ _ (fun i hi => by simp only [show ¬ i = j by omega, ↓reduceIte]) (by simp only [↓reduceIte]) v3 (by omega) (fun u hu => ?_)
        rcases Nat.lt_or_ge u x with q | q
        · exact hno u q
        · unfold gv; rw [v4 u q hu]; rfl
      · rw [upd_at]
        by_cases e2 : j = c
        · simp only [e2, ↓reduceIte]
        · simp only [e2, ↓reduceIte]
          exact (hφ j (by omega)).1
  | succ e ih =>
    intro c he hc φ y
    induction y using Nat.strongRecOn with
    | _ y ihy =>
      intro x nxt hy hx hφ hxc hpos hno
      rcases found_step hN1 hN hh hS hc hx (show 0 < 2 ^ 30 by decide) (show 1 < 2 ^ 31 by decide) hφ hxc with ⟨h1, h2⟩ | ⟨v, v1, v2, v3, v4, v5⟩
      · rw [gv_flat N hx h1] at hpos
        omega
      · have hg : gv N (tkOf sq h N) φ c v = Wn N (tkOf sq h N) (N - (c + 1)) (Sx N φ c ^^^ 2 ^ v) := by unfold gv; rw [v3]; rfl
        have h1 := gv_flat v v1 v4
        have h2 : fb_sm (gv N (tkOf sq h N) φ c) (v + 1) = fb_sm (gv N (tkOf sq h N) φ c) x + gv N (tkOf sq h N) φ c v := by rw [fb_sm_succ, h1]
        have hlow : ∀ u, u < v → gv N (tkOf sq h N) φ c u = 0 := fun u hu => by
          rcases Nat.lt_or_ge u x with q | q
          · exact hno u q
          · unfold gv; rw [v4 u q hu]; rfl
        rw [if_pos (by omega)] at v5
        rw [lp_go v5]
        have hsum := gv_sum (N := N) (tk := tkOf sq h N) (φ := fun j => if j = c then v else φ j) (c := c + 1) (by omega)
        rw [sx_ext v3, ← hg] at hsum
        have hφ' : ∀ j, j < c + 1 → upd (upd nxt c (nI v)) (c + 1) (-1) j = nI ((fun j => if j = c then v else φ j) j) ∧ (fun j => if j = c then v else φ j) j < 2 ^ 31 := fun j hj => by
          rw [upd_at, if_neg (by omega), upd_at]
          by_cases e2 : j = c
          · rw [if_pos e2]; simp only [e2, ↓reduceIte]; exact ⟨trivial, by omega⟩
          · rw [if_neg e2]; simp only [e2, ↓reduceIte]; exact hφ j (by omega)
        have hx' : upd (upd nxt c (nI v)) (c + 1) (-1) (c + 1) + 1 = nI 0 := by rw [upd_at, if_pos rfl]; decide
        rcases Nat.eq_zero_or_pos (gv N (tkOf sq h N) φ c v) with hz | hz
        · obtain ⟨n1, q1, q2⟩ := found_count (L := 1) hN1 hN hh hS (by decide) (N - (c + 1 + 1)) (c + 1) rfl (by omega) (fun j => if j = c then v else φ j) N 0 0 _ (by omega) (by omega) hφ' hx' (by rw [hsum, show fb_sm (gv N (tkOf sq h N) (fun j => if j = c then v else φ j) (c + 1)) 0 = 0 from rfl]; omega)
          rw [q2, nI_dn, hsum, hz, show 0 + (0 - fb_sm (gv N (tkOf sq h N) (fun j => if j = c then v else φ j) (c + 1)) 0) = 0 by omega]
          exact ihy (N - (v + 1)) (by omega) (v + 1) n1 rfl (by omega) (fun j hj => by
            have := q1 j (by omega)
            simp only [show ¬ j = c by omega, ↓reduceIte] at this
            exact ⟨this, (hφ j hj).2⟩) (by
            have := q1 c (by omega)
            simp only [↓reduceIte] at this
            rw [this, nI_1]) (by omega) (fun u hu => by
            rcases Nat.lt_or_ge u v with q | q
            · exact hlow u q
            · rw [show u = v by omega]; exact hz)
        · obtain ⟨nxt', d, r1, r2, r3, r4⟩ := ih (c + 1) (by omega) (by omega) (fun j => if j = c then v else φ j) N 0 _ (by omega) (by omega) hφ' hx' (by rw [hsum, show fb_sm (gv N (tkOf sq h N) (fun j => if j = c then v else φ j) (c + 1)) 0 = 0 from rfl]; omega) (fun u hu => by omega)
          have hdj : ∀ j, j < c → d j = φ j := fun j hj => by
            have := r2 j (by omega)
            simp only [show ¬ j = c by omega, ↓reduceIte] at this
            exact this
          have hdc : d c = v := by
            have := r2 c (by omega)
            simp only [↓reduceIte] at this
            exact this
          refine ⟨nxt', d, r1, hdj, fun j h3 h4 => ?_, r4⟩
          by_cases e2 : j = c
          · rw [e2]; exact lexc c v φ d hdj hdc v3 hz hlow
          · exact r3 j (by omega) h4
theorem m_first (hN1 : 2 ≤ N) (hN : N ≤ 9) (hh : h < 9) (hS : SqOK sq h N sqA) (hpos : 0 < Wn N (tkOf sq h N) N (2 ^ N - 1)) (nxt : Nat → Int32) : ∃ (nxt' : Nat → Int32) (d : Nat → Nat), FX8_found (nI N) (nI h) sqA nxt 1 = some (nI 1, nxt') ∧ (∀ j, j < N → LexAt N (tkOf sq h N) d j) ∧ ∀ j, j < N → nxt' j = nI (d j) := by
  have hs := gv_sum (N := N) (tk := tkOf sq h N) (φ := fun _ => 0) (c := 0) (by omega)
  rw [sx_0, Nat.sub_zero] at hs
  obtain ⟨n', d, q1, q2, q3, q4⟩ := found_first hN1 hN hh hS (N - 1) 0 rfl (by omega) (fun _ => 0) N 0 (upd nxt 0 (-1)) (by omega) (by omega) (fun j hj => by omega) (by rw [upd_at, if_pos rfl]; decide) (by
    rw [hs, show fb_sm (gv N (tkOf sq h N) (fun _ => 0) 0) 0 = 0 from rfl]
    omega) (fun u hu => by omega)
  refine ⟨n', d, ?_, fun j hj => q3 j (Nat.zero_le _) hj, q4⟩
  unfold FX8_found
  rw [show (0 : Int32) = nI 0 from rfl, wr_nI (by decide) (by decide)]
  exact q1
theorem m_stands {nxt : Nat → Int32} {d : Nat → Nat} {nr : Int32} (hN : N ≤ 9) (hh : h < 9) (hd : ∀ j, j < N → nxt j = nI (d j)) : FX8_stands (nI N) (nI h) nr sqA nxt = some (nI (h + 1), -1, rowf sqA h N d) := by
  have h0 : (sqA, (0 : Int32)) = (rowf sqA h 0 d, nI 0) := by
    congr 1
    funext i
    unfold rowf
    rw [if_neg (by omega)]
  unfold FX8_stands
  rw [h0]
  refine for_fun (fun i => (rowf sqA h i d, nI i)) 0 N (Nat.zero_le _) (fun c _ hc => ?_) ?_
  · have hge : ¬ nI N ≤ nI c := by rw [nI_leI (by omega) (by omega)]; omega
    have e : upd (rowf sqA h c d) (9 * h + c) (nI (d c)) = rowf sqA h (c + 1) d := by
      funext i
      rw [upd_at]
      unfold rowf
      by_cases q : i = 9 * h + c
      · rw [if_pos q, if_pos (by omega), q, show 9 * h + c - 9 * h = c by omega]
      · rw [if_neg q]
        by_cases q2 : 9 * h ≤ i ∧ i < 9 * h + c
        · rw [if_pos q2, if_pos (by omega)]
        · rw [if_neg q2, if_neg (by omega)]
    simp (disch := omega) only [X8_stands_L2, hge, ↓reduceIte, rd_nI, hd c hc, show (9 : Int32) = nI 9 from rfl, ml_nI, nI_add, wr_nI, bnd_at, nI_1, e]
  · simp only [X8_stands_L2, Int32.le_refl, ↓reduceIte, X8_stands_J36, bnd_at, nI_1, Option.map_some]
theorem m_number {nxt : Nat → Int32} {d : Nat → Nat} {nr : Int32} (hN : N ≤ 9) (hh : h < 9) (hd : ∀ j, j < N → nxt j = nI (d j)) : loopO (X8_on_L31 (nI N) (nI h) nr sqA nxt) (0, 0) = some (nI (numD d N), nI (h + 1), -1, rowf sqA h N d, nxt) := by
  refine for_fun (fun i => (nI (numD d i), nI i)) 0 N (Nat.zero_le _) (fun c _ hc => ?_) ?_
  · have hge : ¬ nI N ≤ nI c := by rw [nI_leI (by omega) (by omega)]; omega
    simp (disch := omega) only [X8_on_L31, hge, ↓reduceIte, rd_nI, hd c hc, show (10 : Int32) = nI 10 from rfl, ml_nI, nI_add, bnd_at, nI_1]
    rw [numD, Nat.mul_comm]
  · simp only [X8_on_L31, Int32.le_refl, ↓reduceIte, X8_on_J57, m_stands hN hh hd, Option.bind_some, Option.map_some]
theorem m_hold {nxt : Nat → Int32} {nr : Int32} {a : Nat} (hN1 : 2 ≤ N) (hN : N ≤ 9) (hh : h < N) (hS : SqOK sq h N sqA) (ha : a < 2 ^ 31) : ∃ (b : Bool) (nxt' : Nat → Int32), FX8_hold (nI N) (nI h) nr sqA nxt (nI a) = some (if b then (nI (h + 1), nI (h + 1), -1, rowf sqA h N (dgt a N), nxt') else (-2, nI h, nr, sqA, nxt')) ∧ (b = true ↔ GoodRow N (tkOf sq h N) a) := by
  unfold FX8_hold
  rw [if_neg (by rw [ltR0 (by omega)]; omega), if_neg (by rw [nI_eq (by omega) (by omega)]; omega), if_pos (nI_pos' ha), bnd_at]
  have key := for_inv (f := X8_hold_L34 (nI N) (nI h) nr sqA) (fun (z : Nat → Int32) i => (z, nI (a / 10 ^ i), (if i < N then nI (N - 1 - i) else (-1 : Int32)))) N (fun i z => ∀ j, N - i ≤ j → j < N → z j = nI (dgt a N j)) (fun o => ∃ (b : Bool) (nxt' : Nat → Int32), o = (if b then (nI (h + 1), nI (h + 1), -1, rowf sqA h N (dgt a N), nxt') else (-2, nI h, nr, sqA, nxt')) ∧ (b = true ↔ GoodRow N (tkOf sq h N) a)) (fun i z hi hI => ?_) (fun z hI => ?_) (i := 0) (a := nxt) (Nat.zero_le _) (fun j h1 h2 => by omega)
  · obtain ⟨o, k1, b, nxt', rfl, k2⟩ := key
    refine ⟨b, nxt', ?_, k2⟩
    obtain ⟨m, hm⟩ : ∃ m, N = m + 1 := ⟨N - 1, by omega⟩
    rw [if_pos (by omega), Nat.sub_zero, Nat.pow_zero, Nat.div_one] at k1
    rw [show nI N - 1 = nI (N - 1) by rw [hm, nI_pred]; rfl]
    exact k1
  · left
    rw [if_pos hi]
    obtain ⟨c, hc⟩ : ∃ c, c = N - 1 - i := ⟨_, rfl⟩
    have hnext : nI c + -1 = if i + 1 < N then nI (N - 1 - (i + 1)) else (-1 : Int32) := by
      by_cases q : i + 1 < N
      · rw [if_pos q, show c = (N - 1 - (i + 1)) + 1 by omega, nI_dn]
      · rw [if_neg q, show c = 0 by omega]; decide
    have hai : a / 10 ^ i < 2 ^ 31 := Nat.lt_of_le_of_lt (Nat.div_le_self _ _) ha
    have hdg : a / 10 ^ i % 10 = dgt a N c := by unfold dgt; rw [show N - 1 - c = i by omega]
    have hneg : ¬ nI c < (0 : Int32) := by rw [ltR0 (by omega)]; omega
    have hdiv : a / 10 ^ i / 10 = a / 10 ^ (i + 1) := by rw [Nat.pow_succ, Nat.div_div_eq_div_mul]
    rw [← hc, ← hnext]
    refine ⟨upd z c (nI (dgt a N c)), ?_, fun j h1 h2 => ?_⟩
    · unfold X8_hold_L34
      simp only [hneg, ↓reduceIte]
      rw [show (10 : Int32) = nI 10 from rfl, rm_nI hai (by decide) (by decide), hdg, wr_nI (by omega) (by decide), dv_nI hai (by decide) (by decide), hdiv, bnd_at]
    · rw [upd_at]
      by_cases e : j = c
      · rw [if_pos e, e]
      · rw [if_neg e]; exact hI j (by omega) h2
  · rw [if_neg (Nat.lt_irrefl N)]
    rw [Nat.sub_self] at hI
    have hm1 : (-1 : Int32) < 0 := by decide
    have hai : a / 10 ^ N < 2 ^ 31 := Nat.lt_of_le_of_lt (Nat.div_le_self _ _) ha
    have hL : ∀ x, X8_hold_J59 (nI N) (nI h) nr sqA z (nI (a / 10 ^ N)) = some x → X8_hold_L34 (nI N) (nI h) nr sqA (z, nI (a / 10 ^ N), -1) = some (.inr x) := fun x hx => by
      simp only [X8_hold_L34, hm1, ↓reduceIte]
      rw [hx]
      rfl
    by_cases h0 : a / 10 ^ N = 0
    · have hz : ∀ j, j < N → z j = nI (dgt a N j) := fun j hj => hI j (Nat.zero_le _) hj
      have key := for_inv (f := X8_hold_L68 (nI N) (nI h) nr sqA z) (fun (_ : Unit) i => nI i) N (fun i _ => (∀ c, c < i → dgt a N c < N ∧ (tkOf sq h N c).testBit (dgt a N c) = false) ∧ ∀ i' j, i' < j → j < i → dgt a N i' ≠ dgt a N j) (fun o => ∃ (b : Bool) (nxt' : Nat → Int32), o = (if b then (nI (h + 1), nI (h + 1), -1, rowf sqA h N (dgt a N), nxt') else (-2, nI h, nr, sqA, nxt')) ∧ (b = true ↔ GoodRow N (tkOf sq h N) a)) (fun c _ hc hJ => ?_) (fun _ hJ => ?_) (i := 0) (a := ()) (Nat.zero_le _) ⟨fun c hc => by omega, fun i j h1 h2 => by omega⟩
      · obtain ⟨o, k1, k2⟩ := key
        refine ⟨_, hL o ?_, k2⟩
        unfold X8_hold_J59
        rw [if_pos (by rw [h0]; rfl)]
        exact k1
      · have hge : ¬ nI N ≤ nI c := by rw [nI_leI (by omega) (by omega)]; omega
        have hdl := dgt_lt a N c
        by_cases hbig : N ≤ dgt a N c
        · right
          refine ⟨_, ?_, false, z, rfl, fun q => Bool.noConfusion q, fun q => ?_⟩
          · have hb' : nI N ≤ nI (dgt a N c) := by rw [nI_leI (by omega) (by omega)]; exact hbig
            simp (disch := omega) only [X8_hold_L68, hge, ↓reduceIte, rd_nI, hz c hc, hb']
            rfl
          · have := (q.2.1 c hc).1
            omega
        · have hb' : ¬ nI N ≤ nI (dgt a N c) := by rw [nI_leI (by omega) (by omega)]; exact hbig
          have hm := m_stand (nxt := z) (φ := dgt a N) (v := dgt a N c) hN (show h < 9 by omega) hS hc (by omega) (fun j hj => ⟨hz j (by omega), by have := dgt_lt a N j; omega⟩)
          have hst : X8_hold_L68 (nI N) (nI h) nr sqA z (nI c) = if (if (!(ex (fun j => decide (dgt a N j = dgt a N c)) c) && !(ex (fun i => decide (sq i c = dgt a N c)) h)) = true then (1 : Int32) else 0) = 0 then some (.inr (-2, nI h, nr, sqA, z)) else some (.inl (nI (c + 1))) := by
            simp (disch := omega) only [X8_hold_L68, hge, ↓reduceIte, rd_nI, hz c hc, hb', hm, Option.bind_some, bnd_at, nI_1]
          have htk : (tkOf sq h N c).testBit (dgt a N c) = ex (fun i => decide (sq i c = dgt a N c)) h := by
            unfold tkOf
            rw [mk_bit]
            simp only [show dgt a N c < N by omega, decide_true, Bool.true_and]
          cases h1 : ex (fun j => decide (dgt a N j = dgt a N c)) c
          · cases h2 : ex (fun i => decide (sq i c = dgt a N c)) h
            · left
              rw [h1, h2] at hst
              refine ⟨(), by rw [hst]; rfl, fun c' hc' => ?_, fun i' j g1 g2 => ?_⟩
              · by_cases e : c' = c
                · rw [e, htk, h2]; exact ⟨by omega, rfl⟩
                · exact hJ.1 c' (by omega)
              · by_cases e : j = c
                · rw [e] at g1 ⊢
                  have := ex_false.mp h1 i' g1
                  exact of_decide_eq_false this
                · exact hJ.2 i' j g1 (by omega)
            · right
              rw [h1, h2] at hst
              refine ⟨_, by rw [hst]; rfl, false, z, rfl, fun q => Bool.noConfusion q, fun q => ?_⟩
              have := (q.2.1 c hc).2
              rw [htk, h2] at this
              exact this.symm
          · right
            rw [h1] at hst
            refine ⟨_, by rw [hst]; rfl, false, z, rfl, fun q => Bool.noConfusion q, fun q => ?_⟩
            obtain ⟨j, j1, j2⟩ := ex_true.mp h1
            exact absurd (of_decide_eq_true j2) (q.2.2 j c j1 hc)
      · refine ⟨(nI (h + 1), nI (h + 1), -1, rowf sqA h N (dgt a N), z), ?_, true, z, rfl, fun _ => ⟨h0, fun c hc => hJ.1 c hc, fun i j h1 h2 => hJ.2 i j h1 h2⟩, fun _ => rfl⟩
        simp only [X8_hold_L68, Int32.le_refl, ↓reduceIte, X8_hold_J112, m_stands hN (show h < 9 by omega) hz, Option.bind_some, Option.map_some]
    · refine ⟨_, hL (-2, nI h, nr, sqA, z) ?_, false, z, rfl, fun q => Bool.noConfusion q, fun q => absurd q.1 h0⟩
      unfold X8_hold_J59
      rw [if_neg (by rw [eqR0 hai]; exact h0)]
end SQ4
