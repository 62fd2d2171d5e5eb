/-! ===== two: both sides in lockstep ===== -/
theorem lock {α σ τ ρ π : Type} {f : σ → Option (σ ⊕ ρ)} {g : τ → Option (τ ⊕ π)} (pf : α → Nat → σ) (pg : α → Nat → τ) (n : Nat) (I : Nat → α → Prop) (P : ρ → π → Prop) (hs : ∀ i a, i < n → I i a → ∃ a', f (pf a i) = some (.inl (pf a' (i + 1))) ∧ g (pg a i) = some (.inl (pg a' (i + 1))) ∧ I (i + 1) a') (he : ∀ a, I n a → ∃ r q, f (pf a n) = some (.inr r) ∧ g (pg a n) = some (.inr q) ∧ P r q) {i : Nat} {a : α} (hi : i ≤ n) (h : I i a) : ∃ r q, loopO f (pf a i) = some r ∧ loopO g (pg a i) = some q ∧ P r q := by
  induction hk : n - i generalizing i a with
  | zero =>
    obtain rfl : i = n := by omega
    obtain ⟨r, q, h1, h2, h3⟩ := he a h
    exact ⟨r, q, lp_end h1, lp_end h2, h3⟩
  | succ k ih =>
    obtain ⟨a', h1, h2, h3⟩ := hs i a (by omega) h
    rw [lp_go h1, lp_go h2]
    exact ih (by omega) h3 (by omega)
theorem inj_ct {P : Nat → Bool} {n m : Nat} {f : Nat → Nat} (h : ∀ k, k < m → f k < n ∧ P (f k) = true) (hi : ∀ i j, i < j → j < m → f i ≠ f j) : m ≤ fb_ct P n := by
  refine fb_holes (fb_ct P n) m (fun k => fb_ct P (f k)) (fun k hk => ?_) (fun i j hij hj e => ?_)
  · obtain ⟨h1, h2⟩ := h k hk
    have a := fb_ct_mono P (m := f k + 1) (n := n) (by omega)
    rw [fb_ct_succ, if_pos h2] at a
    omega
  · exact hi i j hij hj (fb_ct_kth_one (h i (by omega)).2 (h j hj).2 e)
theorem ct_but {P : Nat → Bool} {n r : Nat} (hr : r < n) (hP : P r = true) : fb_ct (fun k => if k = r then false else P k) n + 1 = fb_ct P n := by
  have := fb_ct_upd P false hr
  rw [hP] at this
  simpa using this
/-- the free numbers at a post -/
def freeP (fs sc : Nat → Nat) (c : Nat → Int32) (n q k : Nat) : Bool := !(ex (fun r => E fs sc r q && decide (c r = nI k)) n)
section TWO
variable {n p : Nat} {fs sc : Nat → Nat} {F S : Nat → Int32}
/-- a post with a road that has no number yet has a free number below the fullest -/
theorem free_lt {c : Nat → Int32} {q r : Nat} (hq : q < p) (hr : r < n) (hE : E fs sc r q = true) (hc : c r = -1) (hf : fulln fs sc n p ≤ 16) : fa_first (freeP fs sc c n q) 16 < fulln fs sc n p := by
  rcases Nat.lt_or_ge (fa_first (freeP fs sc c n q) 16) (fulln fs sc n p) with h | h
  · exact h
  · exfalso
    have ht : ∀ k, k < fulln fs sc n p → ∃ s, s < n ∧ (E fs sc s q && decide (c s = nI k)) = true := fun k hk => by
      have := fa_first_no (freeP fs sc c n q) 16 k (by omega)
      unfold freeP at this
      have h2 : ex (fun r => E fs sc r q && decide (c r = nI k)) n = true := by simpa using this
      exact ex_true.mp h2
    obtain ⟨f, hf2⟩ : ∃ f : Nat → Nat, ∀ k, k < fulln fs sc n p → f k < n ∧ (E fs sc (f k) q && decide (c (f k) = nI k)) = true := by
      refine ⟨fun k => fa_first (fun s => E fs sc s q && decide (c s = nI k)) n, fun k hk => ?_⟩
      obtain ⟨s, h1, h2⟩ := ht k hk
      have h3 : ex (fun s => E fs sc s q && decide (c s = nI k)) n = true := ex_true.mpr ⟨s, h1, h2⟩
      have h4 : fa_first (fun s => E fs sc s q && decide (c s = nI k)) n < n := by unfold ex at h3; exact of_decide_eq_true h3
      exact ⟨h4, fa_first_yes _ n h4⟩
    have h1 : fulln fs sc n p ≤ fb_ct (fun k => if k = r then false else E fs sc k q) n := by
      refine inj_ct (f := f) (fun k hk => ?_) (fun i j hij hj e => ?_)
      · obtain ⟨a1, a2⟩ := hf2 k hk
        simp only [Bool.and_eq_true, decide_eq_true_eq] at a2
        refine ⟨a1, ?_⟩
        by_cases e : f k = r
        · rw [e, hc] at a2
          exact absurd a2.2.symm (m1_ne (by omega))
        · rw [if_neg e]; exact a2.1
      · have a1 := (hf2 i (by omega)).2
        have a2 := (hf2 j hj).2
        simp only [Bool.and_eq_true, decide_eq_true_eq] at a1 a2
        rw [e, a2.2] at a1
        have := (nI_eq (by omega) (by omega)).mp a1.2
        omega
    have h2 := ct_but (P := fun s => E fs sc s q) hr hE
    have h3 : dg fs sc n q ≤ fulln fs sc n p := mxs_le _ hq
    unfold dg at h3
    omega
theorem E_fst (fs sc : Nat → Nat) (r : Nat) : E fs sc r (fs r) = true := by unfold E; simp
theorem E_snd (fs sc : Nat → Nat) (r : Nat) : E fs sc r (sc r) = true := by unfold E; simp
/-- the numbers free at both ends -/
def bothP (fs sc : Nat → Nat) (c : Nat → Int32) (n r k : Nat) : Bool := freeP fs sc c n (fs r) k && freeP fs sc c n (sc r) k
theorem first_of {p : Nat → Bool} {n k : Nat} (hk : k < n) (h1 : p k = true) (h0 : ∀ j, j < k → p j = false) : fa_first p n = k := by
  have hle := fa_first_le p n
  rcases Nat.lt_trichotomy (fa_first p n) k with e | e | e
  · have := fa_first_yes p n (by omega)
    rw [h0 _ e] at this; cases this
  · exact e
  · have := fa_first_no p n k e
    rw [h1] at this; cases this
theorem first_big {p : Nat → Bool} {n : Nat} (h0 : ∀ j, j < n → p j = false) : fa_first p n = n := by
  have hle := fa_first_le p n
  rcases Nat.lt_or_ge (fa_first p n) n with e | e
  · have := fa_first_yes p n e
    rw [h0 _ e] at this; cases this
  · omega
theorem first_mono {p : Nat → Bool} {m n : Nat} (hmn : m ≤ n) : fa_first p n < m → fa_first p m = fa_first p n := fun h => first_of h (fa_first_yes p n (by omega)) (fun j hj => fa_first_no p n j hj)
theorem first_cut {p : Nat → Bool} {m n : Nat} (hmn : m ≤ n) (h : m ≤ fa_first p n) : fa_first p m = m := first_big (fun j hj => fa_first_no p n j (by omega))
theorem two_step {c At Bs : Nat → Int32} (hE : EndsOK n p fs sc F S) (hA : AtOK n p fs sc At) (hB : BsOK n fs sc Bs) (hN : NumOK n c) (hf : fulln fs sc n p ≤ 16) {r : Nat} (hr : r < n) (h0 : ∀ j, r ≤ j → j < n → c j = -1) :
    ∃ c', X3_colourTwoHeaps_L6 (nI n) F S At Bs (nI (fulln fs sc n p)) (c, nI r) = some (.inl (c', nI (r + 1))) ∧ X8_two_L46 (nI n) F S (nI (fulln fs sc n p)) (c, nI r) = some (.inl (c', nI (r + 1))) ∧ NumOK n c' ∧ ∀ j, r + 1 ≤ j → j < n → c' j = -1 := by
  have hn := hE.1
  have hp := hE.2.1
  obtain ⟨e1, e2, e3, e4, e5⟩ := hE.2.2 r hr
  obtain ⟨D, hD⟩ : ∃ D, D = fulln fs sc n p := ⟨_, rfl⟩
  have hcr := h0 r (Nat.le_refl _) hr
  have ha := free_lt (fs := fs) (sc := sc) (c := c) e3 hr (E_fst fs sc r) hcr hf
  have hb := free_lt (fs := fs) (sc := sc) (c := c) e4 hr (E_snd fs sc r) hcr hf
  rw [← hD] at ha hb hf ⊢
  have t1 : tk fs sc c (fs r) n < 2 ^ 16 := tk_lt hN
  have t2 : tk fs sc c (sc r) n < 2 ^ 16 := tk_lt hN
  have t3 : tk fs sc c (fs r) n ||| tk fs sc c (sc r) n < 2 ^ 16 := Nat.or_lt_two_pow t1 t2
  have f1 : fa_first (fun k => !(tk fs sc c (fs r) n).testBit k) 16 = fa_first (freeP fs sc c n (fs r)) 16 := first_cong (fun k hk => by rw [tk_bit hk hN]; rfl)
  have f2 : fa_first (fun k => !(tk fs sc c (sc r) n).testBit k) 16 = fa_first (freeP fs sc c n (sc r)) 16 := first_cong (fun k hk => by rw [tk_bit hk hN]; rfl)
  have f3 : fa_first (fun k => !(tk fs sc c (fs r) n ||| tk fs sc c (sc r) n).testBit k) 16 = fa_first (bothP fs sc c n r) 16 := first_cong (fun k hk => by
    rw [Nat.testBit_or, tk_bit hk hN, tk_bit hk hN, Bool.not_or]; rfl)
  have lb := fa_first_le (bothP fs sc c n r) 16
  -- the reference's search for a common number
  have inner : loopO (X8_two_L56 (nI n) F S c (nI D) (nI r)) 0 = (X8_two_J95 (nI n) F S c (nI D) (nI r) (nI (fa_first (bothP fs sc c n r) D))) := by
    have lD := fa_first_le (bothP fs sc c n r) D
    have run : ∀ k, k ≤ fa_first (bothP fs sc c n r) D → loopO (X8_two_L56 (nI n) F S c (nI D) (nI r)) 0 = loopO (X8_two_L56 (nI n) F S c (nI D) (nI r)) (nI k) := by
      intro k
      induction k with
      | zero => intro _; rfl
      | succ k ih =>
        intro hk
        rw [ih (by omega)]
        refine lp_go ?_
        have hno := fa_first_no (bothP fs sc c n r) D k (by omega)
        unfold bothP freeP at hno
        simp (disch := omega) only [X8_two_L56, nI_leI, show ¬ D ≤ k by omega, ↓reduceIte, rd_nI, e1, e2, m_with hE, Option.bind_some, bnd, nI_1, enc_neg]
        cases x1 : ex (fun r_1 => E fs sc r_1 (fs r) && decide (c r_1 = nI k)) n
        · rw [x1] at hno
          have x2 : ex (fun r_1 => E fs sc r_1 (sc r) && decide (c r_1 = nI k)) n = true := by simpa using hno
          have x3 : ¬ (0 : Int32) ≤ enc n (fun r_1 => E fs sc r_1 (fs r) && decide (c r_1 = nI k)) := by
            have := (enc_neg (n := n) (P := fun r_1 => E fs sc r_1 (fs r) && decide (c r_1 = nI k)) (by omega)).mpr x1
            rw [fa_lt] at this
            rw [fa_le]; omega
          simp [x2, x3]
        · have x3 : (0 : Int32) ≤ enc n (fun r_1 => E fs sc r_1 (fs r) && decide (c r_1 = nI k)) := by
            have := mt (enc_neg (n := n) (P := fun r_1 => E fs sc r_1 (fs r) && decide (c r_1 = nI k)) (by omega)).mp (by rw [x1]; decide)
            rw [fa_lt] at this
            rw [fa_le]; omega
          simp [x3]
    rw [run _ (Nat.le_refl _), loopO_eq]
    have key : X8_two_L56 (nI n) F S c (nI D) (nI r) (nI (fa_first (bothP fs sc c n r) D)) = (X8_two_J95 (nI n) F S c (nI D) (nI r) (nI (fa_first (bothP fs sc c n r) D))).map (fun z => (.inr z)) := by
      by_cases hx : fa_first (bothP fs sc c n r) D < D
      · have hy := fa_first_yes (bothP fs sc c n r) D hx
        generalize fa_first (bothP fs sc c n r) D = k at hx hy
        unfold bothP freeP at hy
        simp only [Bool.and_eq_true, Bool.not_eq_true'] at hy
        have x3 : ¬ (0 : Int32) ≤ enc n (fun r_1 => E fs sc r_1 (fs r) && decide (c r_1 = nI k)) := by
          have := (enc_neg (n := n) (P := fun r_1 => E fs sc r_1 (fs r) && decide (c r_1 = nI k)) (by omega)).mpr hy.1
          rw [fa_lt] at this
          rw [fa_le]; omega
        simp (disch := omega) only [X8_two_L56, nI_leI, show ¬ D ≤ k by omega, ↓reduceIte, rd_nI, e1, e2, m_with hE, Option.bind_some, bnd, nI_1, enc_neg, x3, hy.2]
      · have hx2 : fa_first (bothP fs sc c n r) D = D := by omega
        rw [hx2]
        simp only [X8_two_L56, Int32.le_refl, ↓reduceIte]
    rw [key]
    cases X8_two_J95 (nI n) F S c (nI D) (nI r) (nI (fa_first (bothP fs sc c n r) D)) <;> rfl
  have hM : X8_two_L46 (nI n) F S (nI D) (c, nI r) = X8_two_J95 (nI n) F S c (nI D) (nI r) (nI (fa_first (bothP fs sc c n r) D)) := by
    simp (disch := omega) only [X8_two_L46, nI_leI, Nat.not_le.mpr hr, ↓reduceIte]
    exact inner
  by_cases hlt : fa_first (bothP fs sc c n r) 16 < D
  · have hfm := first_mono hf hlt
    refine ⟨upd c r (nI (fa_first (bothP fs sc c n r) 16)), ?_, ?_, num_set hN (Or.inr ⟨_, by omega, rfl⟩), fun j h1 h2 => ?_⟩
    · simp (disch := omega) only [X3_colourTwoHeaps_L6, nI_leI, Nat.not_le.mpr hr, ↓reduceIte, FX3_numberInTwoHeaps, rd_nI, e1, e2, x_numbersAt hE hA hN e3, x_numbersAt hE hA hN e4, Option.bind_some, fa_or, x_leastOutside, f3, show ¬ D ≤ fa_first (bothP fs sc c n r) 16 by omega, wr_nI, bnd, nI_1]
    · rw [hM, hfm]
      have : ¬ nI (fa_first (bothP fs sc c n r) 16) = nI D := by rw [nI_eq (by omega) (by omega)]; omega
      simp (disch := omega) only [X8_two_J95, this, ↓reduceIte, X8_two_J155, wr_nI, bnd, nI_1]
    · rw [upd_at, if_neg (by omega)]; exact h0 j (by omega) h2
  · have hfc := first_cut hf (Nat.le_of_not_lt hlt)
    obtain ⟨a, ea⟩ : ∃ a, a = fa_first (freeP fs sc c n (fs r)) 16 := ⟨_, rfl⟩
    obtain ⟨b, eb⟩ : ∃ b, b = fa_first (freeP fs sc c n (sc r)) 16 := ⟨_, rfl⟩
    rw [← ea] at ha
    rw [← eb] at hb
    have hat : ex (fun s => E fs sc s (sc r) && decide (c s = nI a)) n = true := by
      have h1 := fa_first_yes (freeP fs sc c n (fs r)) 16 (by omega)
      rw [← ea] at h1
      have h2 := fa_first_no (bothP fs sc c n r) 16 a (by omega)
      unfold bothP at h2
      rw [h1] at h2
      unfold freeP at h2
      simpa using h2
    obtain ⟨st, es⟩ : ∃ st, st = fa_first (fun s => E fs sc s (sc r) && decide (c s = nI a)) n := ⟨_, rfl⟩
    have hst : st < n := by
      unfold ex at hat
      rw [es]; exact of_decide_eq_true hat
    have hst2 : (E fs sc st (sc r) && decide (c st = nI a)) = true := by
      have := fa_first_yes (fun s => E fs sc s (sc r) && decide (c s = nI a)) n (by rw [← es]; exact hst)
      rw [← es] at this
      exact this
    have hw : enc n (fun s => E fs sc s (sc r) && decide (c s = nI a)) = nI st := by
      unfold enc
      rw [← es, if_pos hst]
    obtain ⟨C, hC, k1⟩ := x_chainOf (c := c) (x := nI a) (y := nI b) hn hB hst
    obtain ⟨C', hC', k2⟩ := m_chainOf (c := c) (x := nI a) (y := nI b) hE hst
    obtain rfl := least_one hC hC'
    have hC31 : C < 2 ^ 31 := Nat.lt_of_lt_of_le hC.1 (Nat.pow_le_pow_right (by decide) (by omega))
    have hCn : ∀ j, j < n → c j = -1 → C.testBit j = false := by
      intro j hj hcj
      cases e : C.testBit j
      · rfl
      · exfalso
        have hsub := hC.2.2.2 (mk (xyP c (nI a) (nI b)) n) (fun i hi => ?_) (fun s q hs hq _ h3 _ => by rw [mk_bit, h3]; simp [hq]) j e
        · rw [mk_bit] at hsub
          unfold xyP at hsub
          have z1 : ¬ (-1 : Int32) = nI a := fun z => m1_ne (by omega) z.symm
          have z2 : ¬ (-1 : Int32) = nI b := fun z => m1_ne (by omega) z.symm
          simp [hcj, z1, z2] at hsub
        · rw [Nat.testBit_two_pow] at hi
          have : st = i := of_decide_eq_true hi
          subst this
          simp only [Bool.and_eq_true, decide_eq_true_eq] at hst2
          rw [mk_bit]
          unfold xyP
          simp [hst, hst2.2]
    refine ⟨upd (sxc C (nI a) (nI b) c n) r (nI a), ?_, ?_, num_set (num_swap hN ⟨a, by omega, rfl⟩ ⟨b, by omega, rfl⟩ n) (Or.inr ⟨a, by omega, rfl⟩), fun j h1 h2 => ?_⟩
    · have hst1 : ¬ nI st = -1 := m1_ne (by omega)
      simp (disch := omega) only [X3_colourTwoHeaps_L6, nI_leI, Nat.not_le.mpr hr, ↓reduceIte, FX3_numberInTwoHeaps, rd_nI, e1, e2, x_numbersAt hE hA hN e3, x_numbersAt hE hA hN e4, Option.bind_some, fa_or, x_leastOutside, f3, show D ≤ fa_first (bothP fs sc c n r) 16 by omega, f1, f2, ← ea, ← eb, x_roadWith hE hA e4, hw, hst1, k1, x_exchange hn hC31, wr_nI, bnd, nI_1]
    · rw [hM, hfc]
      have g1 : FX8_leastFree (nI n) F S c (nI (fs r)) = some (nI a) := by rw [m_leastFree hE (by omega), ea]; rfl
      have g2 : FX8_leastFree (nI n) F S c (nI (sc r)) = some (nI b) := by rw [m_leastFree hE (by omega), eb]; rfl
      simp (disch := omega) only [X8_two_J95, ↓reduceIte, rd_nI, e1, e2, g1, g2, Option.bind_some, m_with hE, hw, k2, m_swapped hn hC31, X8_two_J155, wr_nI, bnd, nI_1]
    · rw [upd_at, if_neg (by omega)]
      unfold sxc
      rw [hCn j h2 (h0 j (by omega) h2)]
      simp [h0 j (by omega) h2]
end TWO
theorem nop_two {pc rc : Int32} {F S c al At Bs : Nat → Int32} {mp mr : Int32} {mF mS mc ml : Nat → Int32} (h : NetR pc rc F S c al At Bs mp mr mF mS mc ml) : ∃ ox om, FX7_two pc rc F S c At Bs = some ox ∧ FX8_two mp mr mF mS mc = some om ∧ ox.1 = om.1 ∧ NetR pc rc F S ox.2 al At Bs mp mr mF mS om.2 ml := by
  obtain ⟨⟨rfl, rfl, rfl, rfl, rfl, rfl⟩, p, n, fs, sc, rfl, rfl, hE, hA, hB, hN, hL⟩ := id h
  have hp := hE.2.1
  have hn := hE.1
  have same : ∃ ox om, some ((-2 : Int32), mc) = some ox ∧ some ((-2 : Int32), mc) = some om ∧ ox.1 = om.1 ∧ NetR (nI p) (nI n) mF mS ox.2 ml At Bs (nI p) (nI n) mF mS om.2 ml := ⟨_, _, rfl, rfl, rfl, h⟩
  obtain ⟨b, h1, h2⟩ := isTwo_same hE
  have hfl := fulln_le fs sc n p
  unfold FX7_two FX8_two
  rw [x_full hn hp hA, m_full hE, h1, h2]
  simp (disch := omega) only [Option.bind_some, ltL16, leR16, b1]
  by_cases hf : fulln fs sc n p ≤ 16
  · cases b
    · simp only [Nat.not_lt.mpr hf, ↓reduceIte]; exact same
    · simp only [Nat.not_lt.mpr hf, hf, Bool.true_eq_false, ↓reduceIte]
      obtain ⟨r, q, l1, l2, l3⟩ := lock (f := X3_colourTwoHeaps_L6 (nI n) mF mS At Bs (nI (fulln fs sc n p))) (g := X8_two_L46 (nI n) mF mS (nI (fulln fs sc n p))) (fun (c : Nat → Int32) i => (c, nI i)) (fun (c : Nat → Int32) i => (c, nI i)) n
        (fun i c => NumOK n c ∧ ∀ j, i ≤ j → j < n → c j = -1) (fun r q => q = (nI (fulln fs sc n p), r) ∧ NumOK n r)
        (fun i c hi hI => two_step hE hA hB hI.1 hf hi hI.2)
        (fun c hI => ⟨c, (nI (fulln fs sc n p), c), by simp only [X3_colourTwoHeaps_L6, Int32.le_refl, ↓reduceIte], by simp only [X8_two_L46, Int32.le_refl, ↓reduceIte], rfl, hI.1⟩)
        (i := 0) (a := wsh mc n) (Nat.zero_le _) ⟨wsh_num n mc, fun j _ hj => by unfold wsh; rw [if_pos hj]⟩
      have hm : loopO (X8_two_L23 (nI n) mF mS (nI (fulln fs sc n p))) (mc, 0) = some q := by
        rw [show (mc, (0 : Int32)) = (wsh mc 0, nI 0) by rw [wsh_0]; rfl]
        refine for_fun (fun i => (wsh mc i, nI i)) 0 n (Nat.zero_le _) (fun i _ hi => ?_) ?_
        · simp (disch := omega) only [X8_two_L23, nI_leI, Nat.not_le.mpr hi, ↓reduceIte, wr_nI, wsh_s, bnd, nI_1]
        · simp only [X8_two_L23, Int32.le_refl, ↓reduceIte]
          rw [show (0 : Int32) = nI 0 from rfl, l2]
          rfl
      have hx : FX3_colourTwoHeaps (nI n) mF mS mc At Bs (nI (fulln fs sc n p)) = some r := by
        unfold FX3_colourTwoHeaps
        rw [x_forget hn]
        exact l1
      rw [hm, hx]
      obtain ⟨rfl, l4⟩ := l3
      exact ⟨_, _, rfl, rfl, rfl, ⟨rfl, rfl, rfl, rfl, rfl, rfl⟩, p, n, fs, sc, rfl, rfl, hE, hA, hB, l4, hL⟩
  · cases b
    · simp only [Nat.lt_of_not_le hf, ↓reduceIte]; exact same
    · simp only [Nat.lt_of_not_le hf, hf, Bool.true_eq_false, ↓reduceIte]; exact same
