/-! ===== mend: the fan as roads and as posts ===== -/
theorem lp_map {σ ρ : Type} {f : σ → Option (σ ⊕ ρ)} {s : σ} {o : Option ρ} (h : f s = o.map (fun z => .inr z)) : loopO f s = o := by
  rw [loopO_eq, h]
  cases o <;> rfl
theorem for_go {σ ρ : Type} {f : σ → Option (σ ⊕ ρ)} (A : Nat → σ) (n : Nat) (hs : ∀ j, j < n → f (A j) = some (.inl (A (j + 1)))) : loopO f (A 0) = loopO f (A n) := by
  induction n with
  | zero => rfl
  | succ n ih => rw [ih (fun j hj => hs j (by omega)), lp_go (hs n (by omega))]
theorem find_go {σ ρ : Type} {f : σ → Option (σ ⊕ ρ)} (A : Nat → σ) (p : Nat → Bool) (n : Nat) (hs : ∀ j, j < n → p j = false → f (A j) = some (.inl (A (j + 1)))) : loopO f (A 0) = loopO f (A (fa_first p n)) := by
  have hle := fa_first_le p n
  exact for_go A (fa_first p n) (fun j hj => hs j (by omega) (fa_first_no p n j hj))
def oth (fs sc : Nat → Nat) (u s : Nat) : Nat := if fs s = u then sc s else fs s
section MEND
variable {n p : Nat} {fs sc : Nat → Nat} {F S : Nat → Int32}
theorem oth_E {u s : Nat} (h : E fs sc s u = true) : E fs sc s (oth fs sc u s) = true := by
  unfold E oth at *
  simp only [Bool.or_eq_true, beq_iff_eq] at *
  split
  · exact Or.inr rfl
  · exact Or.inl rfl
theorem oth_lt (hE : EndsOK n p fs sc F S) {u s : Nat} (hs : s < n) : oth fs sc u s < p := by
  obtain ⟨-, -, e3, e4, -⟩ := hE.2.2 s hs
  unfold oth
  split <;> assumption
theorem oth_ne (hE : EndsOK n p fs sc F S) {u s : Nat} (hs : s < n) (h : E fs sc s u = true) : oth fs sc u s ≠ u := by
  obtain ⟨-, -, e3, e4, e5⟩ := hE.2.2 s hs
  unfold E at h
  simp only [Bool.or_eq_true, beq_iff_eq] at h
  unfold oth
  split
  · omega
  · assumption
/-- two roads at a post with the same other end are one, in a plain net -/
theorem plain_one (hE : EndsOK n p fs sc F S) (hP : plainB fs sc n = true) {u w s t : Nat} (hs : s < n) (ht : t < n) (huw : w ≠ u) (h1 : E fs sc s u = true) (h2 : E fs sc s w = true) (h3 : E fs sc t u = true) (h4 : E fs sc t w = true) : s = t := by
  refine (plain_iff hE).mp hP s t hs ht ?_
  unfold dbl E at *
  simp only [Bool.and_eq_true, Bool.or_eq_true, beq_iff_eq] at *
  obtain ⟨-, -, -, -, d1⟩ := hE.2.2 s hs
  obtain ⟨-, -, -, -, d2⟩ := hE.2.2 t ht
  omega
theorem oth_inj (hE : EndsOK n p fs sc F S) (hP : plainB fs sc n = true) {u s t : Nat} (hs : s < n) (ht : t < n) (h1 : E fs sc s u = true) (h2 : E fs sc t u = true) (h : oth fs sc u s = oth fs sc u t) : s = t :=
  plain_one hE hP (w := oth fs sc u s) hs ht (oth_ne hE hs h1) h1 (oth_E h1) h2 (by rw [h]; exact oth_E h2)
theorem plain_dg (hE : EndsOK n p fs sc F S) (hP : plainB fs sc n = true) (q : Nat) : dg fs sc n q ≤ 12 := by
  have hp := hE.2.1
  obtain ⟨f, hf⟩ : ∃ f : Nat → Nat, ∀ k, k < dg fs sc n q → f k < n ∧ E fs sc (f k) q = true ∧ fb_ct (fun r => E fs sc r q) (f k) = k := by
    refine ⟨fun k => fa_first (fun i => E fs sc i q && decide (fb_ct (fun r => E fs sc r q) i = k)) n, fun k hk => ?_⟩
    obtain ⟨i, h1, h2, h3⟩ := fb_ct_kth (p := fun r => E fs sc r q) (k := k) (n := n) hk
    have hx : ex (fun i => E fs sc i q && decide (fb_ct (fun r => E fs sc r q) i = k)) n = true := ex_true.mpr ⟨i, h1, by simp [h2, h3]⟩
    have hy : fa_first (fun i => E fs sc i q && decide (fb_ct (fun r => E fs sc r q) i = k)) n < n := by unfold ex at hx; exact of_decide_eq_true hx
    have hz := fa_first_yes _ n hy
    simp only [Bool.and_eq_true, decide_eq_true_eq] at hz
    exact ⟨hy, hz.1, hz.2⟩
  have := fb_holes p (dg fs sc n q) (fun k => oth fs sc q (f k)) (fun k hk => oth_lt hE (hf k hk).1) (fun i j hij hj e => by
    obtain ⟨a1, a2, a3⟩ := hf i (by omega)
    obtain ⟨b1, b2, b3⟩ := hf j hj
    have := oth_inj hE hP a1 b1 a2 b2 e
    rw [this, b3] at a3
    omega)
  omega
theorem free16 {c : Nat → Int32} {q : Nat} (hd : dg fs sc n q < 16) : fa_first (freeP fs sc c n q) 16 < 16 := by
  rcases Nat.lt_or_ge (fa_first (freeP fs sc c n q) 16) 16 with h | h
  · exact h
  · exfalso
    obtain ⟨f, hf2⟩ : ∃ f : Nat → Nat, ∀ k, k < 16 → f k < n ∧ (E fs sc (f k) q && decide (c (f k) = nI k)) = true := by
      refine ⟨fun k => fa_first (fun s => E fs sc s q && decide (c s = nI k)) n, fun k hk => ?_⟩
      have := fa_first_no (freeP fs sc c n q) 16 k (by omega)
      unfold freeP at this
      have h3 : ex (fun r => E fs sc r q && decide (c r = nI k)) n = true := by simpa using this
      have h4 : fa_first (fun s => E fs sc s q && decide (c s = nI k)) n < n := by unfold ex at h3; exact of_decide_eq_true h3
      exact ⟨h4, fa_first_yes _ n h4⟩
    have h1 : 16 ≤ fb_ct (fun k => E fs sc k q) n := by
      refine inj_ct (f := f) (fun k hk => ?_) (fun i j hij hj e => ?_)
      · obtain ⟨a1, a2⟩ := hf2 k hk
        simp only [Bool.and_eq_true] at a2
        exact ⟨a1, a2.1⟩
      · have a1 := (hf2 i (by omega)).2
        have a2 := (hf2 j hj).2
        simp only [Bool.and_eq_true, decide_eq_true_eq] at a1 a2
        rw [e, a2.2] at a1
        have := (nI_eq (by omega) (by omega)).mp a1.2
        omega
    unfold dg at hd
    omega
theorem m_other (hE : EndsOK n p fs sc F S) {u s : Nat} (hs : s < n) (hu : u < 2 ^ 31) : FX8_other F S (nI s) (nI u) = some (nI (oth fs sc u s)) := by
  have hn := hE.1
  have hp := hE.2.1
  obtain ⟨e1, e2, e3, e4, -⟩ := hE.2.2 s hs
  unfold FX8_other oth
  simp (disch := omega) only [rd_nI, e1, e2, nI_eq]
  split <;> rfl
theorem x_postAt (hE : EndsOK n p fs sc F S) {u i s : Nat} {rdA : Nat → Int32} (hi : i < 24) (hr : rdA i = nI s) (hs : s < n) (hu : u < 2 ^ 31) : FX1_postAt (nI u) rdA F S (nI i) = some (nI (oth fs sc u s)) := by
  have hn := hE.1
  have hp := hE.2.1
  obtain ⟨e1, e2, e3, e4, -⟩ := hE.2.2 s hs
  unfold FX1_postAt oth
  simp (disch := omega) only [rd_nI, hr, e1, e2, nI_eq]
  split <;> rfl
theorem m_between (hE : EndsOK n p fs sc F S) {u w : Nat} (hu : u < 2 ^ 31) (hw : w < 2 ^ 31) : FX8_between (nI n) F S (nI u) (nI w) = some (enc n (fun r => E fs sc r u && E fs sc r w)) := by
  have hn := hE.1
  unfold enc
  refine find_fun (fun i => nI i) (fun r => E fs sc r u && E fs sc r w) n (fun i => nI i) (-1) (fun i hi hq => ?_) (fun i hi hq => ?_) ?_
  · simp (disch := omega) only [X8_between_L2, nI_leI, Nat.not_le.mpr hi, ↓reduceIte, ends_nI hE hi, Option.bind_some, b1, bnd, nI_1]
    cases h1 : E fs sc i u
    · simp
    · rw [h1] at hq
      simp only [Bool.true_and] at hq
      simp [hq]
  · simp (disch := omega) only [X8_between_L2, nI_leI, Nat.not_le.mpr hi, ↓reduceIte, ends_nI hE hi, Option.bind_some, b1, bnd, nI_1]
    simp only [Bool.and_eq_true] at hq
    simp [hq.1, hq.2]
  · simp only [X8_between_L2, Int32.le_refl, ↓reduceIte]
theorem m_btw (hE : EndsOK n p fs sc F S) (hP : plainB fs sc n = true) {u s : Nat} (hs : s < n) (hu : u < 2 ^ 31) (h1 : E fs sc s u = true) : FX8_between (nI n) F S (nI u) (nI (oth fs sc u s)) = some (nI s) := by
  have hp := hE.2.1
  have hn := hE.1
  have hw := oth_lt (u := u) hE hs
  rw [m_between hE hu (by omega)]
  have hx : fa_first (fun r => E fs sc r u && E fs sc r (oth fs sc u s)) n = s := by
    refine first_of hs (by rw [h1, oth_E h1]; rfl) (fun j hj => ?_)
    cases e : E fs sc j u && E fs sc j (oth fs sc u s)
    · rfl
    · simp only [Bool.and_eq_true] at e
      have := plain_one hE hP (w := oth fs sc u s) hs (by omega) (oth_ne hE hs h1) h1 (oth_E h1) e.1 e.2
      omega
  unfold enc
  rw [hx, if_pos hs]
/-- turning the fan -/
def trn (ρ : Nat → Nat) (c : Nat → Int32) : Nat → Nat → Int32
  | 0 => c
  | i + 1 => upd (trn ρ c i) (ρ i) (trn ρ c i (ρ (i + 1)))
theorem trn_num {ρ : Nat → Nat} {c : Nat → Int32} (hN : NumOK n c) : ∀ i, (∀ j, j ≤ i → ρ j < n) → NumOK n (trn ρ c i)
  | 0, _ => hN
  | i + 1, h => by
    have ih := trn_num hN i (fun j hj => h j (by omega))
    exact num_set ih (ih (ρ (i + 1)) (h (i + 1) (Nat.le_refl _)))
/-- the fan: roads at the hub, all different -/
def FanOK (fs sc : Nat → Nat) (n u r : Nat) (ρ : Nat → Nat) (m : Nat) : Prop := ρ 0 = r ∧ (∀ i, i ≤ m → ρ i < n ∧ E fs sc (ρ i) u = true) ∧ ∀ i j, i < j → j ≤ m → ρ i ≠ ρ j
theorem fan_le (hE : EndsOK n p fs sc F S) (hP : plainB fs sc n = true) {u r m : Nat} {ρ : Nat → Nat} (h : FanOK fs sc n u r ρ m) : m + 1 ≤ p :=
  fb_holes p (m + 1) (fun k => oth fs sc u (ρ k)) (fun k hk => oth_lt hE (h.2.1 k (by omega)).1) (fun i j hij hj e => h.2.2 i j hij (by omega) (oth_inj hE hP (h.2.1 i (by omega)).1 (h.2.1 j (by omega)).1 (h.2.1 i (by omega)).2 (h.2.1 j (by omega)).2 e))
theorem x_turn {m : Nat} {ρ : Nat → Nat} {rdA c : Nat → Int32} {x : Int32} (hm : m < 24) (hn : n ≤ 24) (hr : ∀ i, i ≤ m → rdA i = nI (ρ i)) (hρ : ∀ i, i ≤ m → ρ i < n) : FX1_turn (nI (m + 1)) rdA c x = some (upd (trn ρ c m) (ρ m) x) := by
  have e0 : nI (m + 1) - 1 = nI m := nI_pred m
  unfold FX1_turn
  refine for_fun (fun i => (trn ρ c i, nI i)) 0 m (Nat.zero_le _) (fun i _ hi => ?_) ?_
  · have h1 := hρ i (by omega)
    have h2 := hρ (i + 1) (by omega)
    simp (disch := omega) only [X1_turn_L2, e0, nI_leI, Nat.not_le.mpr hi, ↓reduceIte, rd_nI, hr i (by omega), nI_1, hr (i + 1) (by omega), wr_nI, bnd, trn]
  · have h1 := hρ m (by omega)
    simp (disch := omega) only [X1_turn_L2, e0, Int32.le_refl, ↓reduceIte, X1_turn_J48, rd_nI, hr m (by omega), wr_nI, Option.map_some]
theorem m_turn (hE : EndsOK n p fs sc F S) (hP : plainB fs sc n = true) {u m : Nat} {ρ : Nat → Nat} {fanA c : Nat → Int32} {x : Int32} (hm : m < 12) (hu : u < 2 ^ 31) (hf : ∀ i, i ≤ m → fanA i = nI (oth fs sc u (ρ i))) (hρ : ∀ i, i ≤ m → ρ i < n ∧ E fs sc (ρ i) u = true) : FX8_turned (nI n) F S c fanA (nI u) (nI (m + 1)) x = some (upd (trn ρ c m) (ρ m) x) := by
  have hn := hE.1
  have e0 : nI (m + 1) - 1 = nI m := nI_pred m
  unfold FX8_turned
  refine for_fun (fun i => (trn ρ c i, nI i)) 0 m (Nat.zero_le _) (fun i _ hi => ?_) ?_
  · obtain ⟨h1, h1'⟩ := hρ i (by omega)
    obtain ⟨h2, h2'⟩ := hρ (i + 1) (by omega)
    simp (disch := omega) only [X8_turned_L3, e0, nI_leI, Nat.not_le.mpr hi, ↓reduceIte, rd_nI, hf i (by omega), nI_1, hf (i + 1) (by omega), m_btw hE hP h1 hu h1', m_btw hE hP h2 hu h2', Option.bind_some, wr_nI, bnd, trn]
  · obtain ⟨h1, h1'⟩ := hρ m (by omega)
    simp (disch := omega) only [X8_turned_L3, e0, Int32.le_refl, ↓reduceIte, X8_turned_J53, rd_nI, hf m (by omega), m_btw hE hP h1 hu h1', Option.bind_some, wr_nI, Option.map_some]
theorem mend_loop {c At Bs : Nat → Int32} (hE : EndsOK n p fs sc F S) (hA : AtOK n p fs sc At) (hB : BsOK n fs sc Bs) (hN : NumOK n c) (hP : plainB fs sc n = true) {u r : Nat} (hu : u < p) (hr : r < n) (hcr : c r = -1) {d : Nat} (hd : d = fa_first (freeP fs sc c n u) 16) :
    ∀ (k m : Nat) (ρ : Nat → Nat) (rdA fanA : Nat → Int32), 12 - m = k → FanOK fs sc n u r ρ m → (∀ i, i ≤ m → rdA i = nI (ρ i)) → (∀ i, i ≤ m → fanA i = nI (oth fs sc u (ρ i))) →
      ∃ (c' rd' fan' : Nat → Int32) (sz' : Int32), loopO (X1_mendRoad_L14 (nI u) (nI n) F S c At Bs (nI d)) (nI (m + 1), rdA, nI m) = some (c' r, sz', rd', c') ∧ loopO (X8_mend_L87 (nI n) F S c (nI r) (nI u)) (fanA, nI (m + 1)) = some (c' r, c', fan') ∧ NumOK n c' := by
  have hn := hE.1
  have hp := hE.2.1
  intro k
  induction k with
  | zero =>
    intro m ρ rdA fanA hk hF
    have := fan_le hE hP hF
    omega
  | succ k ih =>
    intro m ρ rdA fanA hk hF hrd hfan
    have hle := fan_le hE hP hF
    obtain ⟨hm1, hm2⟩ := hF.2.1 m (Nat.le_refl _)
    have hw := oth_lt (u := u) hE hm1
    have hx16 := free16 (c := c) (Nat.lt_of_le_of_lt (plain_dg hE hP (oth fs sc u (ρ m))) (by decide))
    have hd16 := free16 (c := c) (Nat.lt_of_le_of_lt (plain_dg hE hP u) (by decide))
    rw [← hd] at hd16
    obtain ⟨x, exx⟩ : ∃ x, x = fa_first (freeP fs sc c n (oth fs sc u (ρ m))) 16 := ⟨_, rfl⟩
    rw [← exx] at hx16
    have g1 : FX3_leastFree (nI n) c At (nI (oth fs sc u (ρ m))) = some (nI x) := by rw [x_leastFree hE hA hN hw, exx]; rfl
    have g2 : FX8_leastFree (nI n) F S c (nI (oth fs sc u (ρ m))) = some (nI x) := by rw [m_leastFree hE (by omega), exx]; rfl
    have e0 : nI (m + 1) - 1 = nI m := nI_pred m
    cases hto : ex (fun s => E fs sc s u && decide (c s = nI x)) n
    · -- the number is free at the hub too
      have hm1' : enc n (fun s => E fs sc s u && decide (c s = nI x)) = -1 := (enc_m1 (by omega)).mpr hto
      have hm2' : ¬ (0 : Int32) ≤ enc n (fun s => E fs sc s u && decide (c s = nI x)) := by rw [hm1']; decide
      refine ⟨upd (trn ρ c m) (ρ m) (nI x), rdA, fanA, nI (m + 1), ?_, ?_, num_set (trn_num hN m (fun j hj => (hF.2.1 j hj).1)) (Or.inr ⟨x, hx16, rfl⟩)⟩
      · refine lp_end ?_
        have h0 := hrd 0 (Nat.zero_le _)
        rw [hF.1] at h0
        simp (disch := omega) only [X1_mendRoad_L14, leL24, show ¬ 24 ≤ m by omega, ↓reduceIte, e0, x_postAt hE (show m < 24 by omega) (hrd m (Nat.le_refl _)) hm1, Option.bind_some, g1, x_roadWith hE hA hu, hm1', X1_mendRoad_J58, x_turn (show m < 24 by omega) hn hrd (fun i hi => (hF.2.1 i hi).1), X1_mendRoad_J102]
        rw [show (0 : Int32) = nI 0 from rfl]
        simp (disch := omega) only [rd_nI, h0, Option.map_some]
      · refine lp_end ?_
        simp (disch := omega) only [X8_mend_L87, e0, rd_nI, hfan m (Nat.le_refl _), g2, Option.bind_some, m_with hE, hm2', ↓reduceIte, X8_mend_J115, m_turn hE hP (show m < 12 by omega) (show u < 2 ^ 31 by omega) hfan (fun i hi => hF.2.1 i hi), Option.map_some]
    · obtain ⟨t, et⟩ : ∃ t, t = fa_first (fun s => E fs sc s u && decide (c s = nI x)) n := ⟨_, rfl⟩
      have ht : t < n := by
        unfold ex at hto
        rw [et]; exact of_decide_eq_true hto
      have ht2 : E fs sc t u = true ∧ c t = nI x := by
        have := fa_first_yes (fun s => E fs sc s u && decide (c s = nI x)) n (by rw [← et]; exact ht)
        rw [← et] at this
        simpa using this
      have henc : enc n (fun s => E fs sc s u && decide (c s = nI x)) = nI t := by
        unfold enc; rw [← et, if_pos ht]
      have hpos : (0 : Int32) ≤ nI t := nI_pos' (by omega)
      have htm1 : ¬ nI t = -1 := m1_ne (by omega)
      have hwt := oth_lt (u := u) hE ht
      have hne : ∀ i, i ≤ m → (rdA i = nI t ↔ ρ i = t) := fun i hi => by
        have := (hF.2.1 i hi).1
        rw [hrd i hi, nI_eq (by omega) (by omega)]
      have hne2 : ∀ i, i ≤ m → (fanA i = nI (oth fs sc u t) ↔ ρ i = t) := fun i hi => by
        obtain ⟨q1, q2⟩ := hF.2.1 i hi
        have q3 := oth_lt (u := u) hE q1
        rw [hfan i hi, nI_eq (by omega) (by omega)]
        exact ⟨fun e => oth_inj hE hP q1 ht q2 ht2.1 e, fun e => by rw [e]⟩
      have hplace : FX1_placeInFan (nI (m + 1)) rdA (nI t) = some (enc (m + 1) (fun i => decide (ρ i = t))) := by
        unfold enc
        refine find_fun (fun i => nI i) (fun i => decide (ρ i = t)) (m + 1) (fun i => nI i) (-1) (fun i hi hq => ?_) (fun i hi hq => ?_) ?_
        · have e : ¬ rdA i = nI t := fun z => by rw [(hne i (by omega)).mp z] at hq; simp at hq
          simp (disch := omega) only [X1_placeInFan_L2, nI_leI, Nat.not_le.mpr hi, ↓reduceIte, rd_nI, e, bnd, nI_1]
        · have e : rdA i = nI t := (hne i (by omega)).mpr (of_decide_eq_true hq)
          simp (disch := omega) only [X1_placeInFan_L2, nI_leI, Nat.not_le.mpr hi, ↓reduceIte, rd_nI, e]
        · simp only [X1_placeInFan_L2, Int32.le_refl, ↓reduceIte]
      have hM : ∀ z, loopO (X8_mend_L142 (nI n) F S c fanA (nI r) (nI u) (nI (m + 1)) (nI x) (nI t) (nI (oth fs sc u t))) 0 = some z → X8_mend_L87 (nI n) F S c (nI r) (nI u) (fanA, nI (m + 1)) = some z := fun z hz => by
        simp (disch := omega) only [X8_mend_L87, e0, rd_nI, hfan m (Nat.le_refl _), g2, Option.bind_some, m_with hE, henc, hpos, ↓reduceIte, m_other hE ht]
        exact hz
      have hfind : loopO (X8_mend_L142 (nI n) F S c fanA (nI r) (nI u) (nI (m + 1)) (nI x) (nI t) (nI (oth fs sc u t))) 0 = X8_mend_J166 (nI n) F S c fanA (nI r) (nI u) (nI (m + 1)) (nI x) (nI t) (nI (oth fs sc u t)) (nI (fa_first (fun i => decide (ρ i = t)) (m + 1))) := by
        have := find_go (f := X8_mend_L142 (nI n) F S c fanA (nI r) (nI u) (nI (m + 1)) (nI x) (nI t) (nI (oth fs sc u t))) (fun i => nI i) (fun i => decide (ρ i = t)) (m + 1) (fun i hi hq => by
          have e : ¬ fanA i = nI (oth fs sc u t) := fun z => by rw [(hne2 i (by omega)).mp z] at hq; simp at hq
          simp (disch := omega) only [X8_mend_L142, nI_leI, Nat.not_le.mpr hi, ↓reduceIte, rd_nI, e, bnd, nI_1])
        refine this.trans ?_
        refine lp_map ?_
        have hl := fa_first_le (fun i => decide (ρ i = t)) (m + 1)
        by_cases hx : fa_first (fun i => decide (ρ i = t)) (m + 1) < m + 1
        · have hy := fa_first_yes (fun i => decide (ρ i = t)) (m + 1) hx
          have e := (hne2 _ (by omega)).mpr (of_decide_eq_true hy)
          simp (disch := omega) only [X8_mend_L142, nI_leI, Nat.not_le.mpr hx, ↓reduceIte, rd_nI, e]
        · have e : fa_first (fun i => decide (ρ i = t)) (m + 1) = m + 1 := by omega
          rw [e]
          simp only [X8_mend_L142, Int32.le_refl, ↓reduceIte]
      cases hin : ex (fun i => decide (ρ i = t)) (m + 1)
      · -- a new road for the fan
        have hnew : ∀ i, i ≤ m → ρ i ≠ t := fun i hi e => by
          have := ex_false.mp hin i (by omega)
          simp [e] at this
        have hencp : enc (m + 1) (fun i => decide (ρ i = t)) = -1 := (enc_m1 (by omega)).mpr hin
        have hfst : fa_first (fun i => decide (ρ i = t)) (m + 1) = m + 1 := first_big (fun j hj => ex_false.mp hin j hj)
        have hF' : FanOK fs sc n u r (fun i => if i = m + 1 then t else ρ i) (m + 1) := by
          refine ⟨by simp [hF.1], fun i hi => ?_, fun i j hij hj => ?_⟩
          · by_cases e : i = m + 1
            · simp only [e, ↓reduceIte]; exact ⟨ht, ht2.1⟩
            · simp only [e, ↓reduceIte]; exact hF.2.1 i (by omega)
          · have ei : ¬ i = m + 1 := by omega
            simp only [ei, ↓reduceIte]
            by_cases e : j = m + 1
            · simp only [e, ↓reduceIte]; exact hnew i (by omega)
            · simp only [e, ↓reduceIte]; exact hF.2.2 i j hij (by omega)
        have hle' := fan_le hE hP hF'
        obtain ⟨c', rd', fan', sz', r1, r2, r3⟩ := ih (m + 1) (fun i => if i = m + 1 then t else ρ i) (upd rdA (m + 1) (nI t)) (upd fanA (m + 1) (nI (oth fs sc u t))) (by omega) hF'
          (fun i hi => by rw [upd_at]; by_cases e : i = m + 1 <;> simp [e]; exact hrd i (by omega))
          (fun i hi => by rw [upd_at]; by_cases e : i = m + 1 <;> simp [e]; exact hfan i (by omega))
        refine ⟨c', rd', fan', sz', ?_, ?_, r3⟩
        · rw [← r1]
          refine lp_go ?_
          have hneg : (-1 : Int32) ≤ 0 := by decide
          simp (disch := omega) only [X1_mendRoad_L14, leL24, show ¬ 24 ≤ m by omega, ↓reduceIte, e0, x_postAt hE (show m < 24 by omega) (hrd m (Nat.le_refl _)) hm1, Option.bind_some, g1, x_roadWith hE hA hu, henc, htm1, hplace, hencp, hneg, FX1_append, show ¬ 24 ≤ m + 1 by omega, wr_nI, bnd, nI_1]
        · rw [← r2]
          refine lp_go (hM _ ?_)
          rw [hfind, hfst]
          simp (disch := omega) only [X8_mend_J166, ↓reduceIte, wr_nI, bnd, nI_1]
      · -- the road is in the fan
        obtain ⟨j, ej⟩ : ∃ j, j = fa_first (fun i => decide (ρ i = t)) (m + 1) := ⟨_, rfl⟩
        have hj : j < m + 1 := by
          unfold ex at hin
          rw [ej]; exact of_decide_eq_true hin
        have hjt : ρ j = t := by
          have := fa_first_yes (fun i => decide (ρ i = t)) (m + 1) (by rw [← ej]; exact hj)
          rw [← ej] at this
          exact of_decide_eq_true this
        have hj0 : j ≠ 0 := fun e => by
          rw [e, hF.1] at hjt
          have := ht2.2
          rw [← hjt, hcr] at this
          exact m1_ne (by omega) this.symm
        obtain ⟨i, rfl⟩ : ∃ i, j = i + 1 := ⟨j - 1, by omega⟩
        have hencp : enc (m + 1) (fun i => decide (ρ i = t)) = nI (i + 1) := by unfold enc; rw [← ej, if_pos hj]
        obtain ⟨hi1, hi2⟩ := hF.2.1 i (by omega)
        have hv := oth_lt (u := u) hE hi1
        obtain ⟨C, hC, k1⟩ := x_chainOf (c := c) (x := nI x) (y := nI d) hn hB ht
        obtain ⟨C', hC', k2⟩ := m_chainOf (c := c) (x := nI x) (y := nI d) hE ht
        obtain rfl := least_one hC hC'
        have hC31 : C < 2 ^ 31 := Nat.lt_of_lt_of_le hC.1 (Nat.pow_le_pow_right (by decide) (by omega))
        obtain ⟨v, ev⟩ : ∃ v, v = oth fs sc u (ρ i) := ⟨_, rfl⟩
        rw [← ev] at hv
        obtain ⟨hs, ehs⟩ : ∃ hs, hs = ex (fun q => C.testBit q && E fs sc q v) n := ⟨_, rfl⟩
        have hat : ((C &&& mk (fun q => E fs sc q v) n) = 0) ↔ hs = false := by
          rw [ehs, ex_false]
          constructor
          · intro h q hq
            have := congrArg (fun z => z.testBit q) h
            simp only [Nat.testBit_and, mk_bit, Nat.zero_testBit, hq, decide_true, Bool.true_and] at this
            exact this
          · intro h
            apply Nat.eq_of_testBit_eq
            intro q
            rw [Nat.testBit_and, mk_bit, Nat.zero_testBit]
            by_cases hq : q < n
            · have := h q hq
              simp only [hq, decide_true, Bool.true_and]
              exact this
            · simp [hq]
        have hat31 : C &&& mk (fun q => E fs sc q v) n < 2 ^ 31 := by
          have : C &&& mk (fun q => E fs sc q v) n ≤ C := Nat.and_le_left
          omega
        have hN1 : NumOK n (sxc C (nI x) (nI d) c n) := num_swap hN ⟨x, hx16, rfl⟩ ⟨d, hd16, rfl⟩ n
        obtain ⟨e, ee⟩ : ∃ e, e = if hs then m else i := ⟨_, rfl⟩
        have hem : e ≤ m := by rw [ee]; split <;> omega
        have g3 : FX8_leastFree (nI n) F S c (nI u) = some (nI d) := by rw [m_leastFree hE (by omega), hd]; rfl
        refine ⟨upd (trn ρ (sxc C (nI x) (nI d) c n) e) (ρ e) (nI x), rdA, fanA, nI (e + 1), ?_, ?_, num_set (trn_num hN1 e (fun j hj => (hF.2.1 j (by omega)).1)) (Or.inr ⟨x, hx16, rfl⟩)⟩
        · refine lp_end ?_
          have hnp : ¬ nI (i + 1) ≤ (0 : Int32) := by rw [leR0 (by omega)]; omega
          have h0 := hrd 0 (Nat.zero_le _)
          rw [hF.1] at h0
          have hrj := hrd (i + 1) (by omega)
          rw [hjt] at hrj
          have htu := x_turn (x := nI x) (c := sxc C (nI x) (nI d) c n) (show e < 24 by omega) hn (fun i hi => hrd i (by omega)) (fun i hi => (hF.2.1 i (by omega)).1)
          have hpa := x_postAt hE (u := u) (show i < 24 by omega) (hrd i (by omega)) hi1 (by omega)
          rw [← ev] at hpa
          have hsw : FX1_swapAndTurn (nI u) (nI (m + 1)) rdA (nI n) F S c At Bs (nI (i + 1)) (nI x) (nI d) = some (nI (e + 1), upd (trn ρ (sxc C (nI x) (nI d) c n) e) (ρ e) (nI x)) := by
            simp (disch := omega) only [FX1_swapAndTurn, rd_nI, hrj, k1, Option.bind_some, nI_pred, hpa, hA v hv, fa_and, eqR0 hat31, hat, X1_swapAndTurn_J43, x_exchange hn hC31, X1_swapAndTurn_J66]
            cases hh : hs
            · rw [hh] at ee
              simp only [Bool.false_eq_true, ↓reduceIte] at ee
              subst ee
              simp only [↓reduceIte, htu, Option.bind_some]
            · rw [hh] at ee
              simp only [↓reduceIte] at ee
              subst ee
              simp only [Bool.true_eq_false, ↓reduceIte, o10, htu, Option.bind_some]
          simp (disch := omega) only [X1_mendRoad_L14, leL24, show ¬ 24 ≤ m by omega, ↓reduceIte, e0, x_postAt hE (show m < 24 by omega) (hrd m (Nat.le_refl _)) hm1, Option.bind_some, g1, x_roadWith hE hA hu, henc, htm1, hplace, hencp, hnp, X1_mendRoad_J79, hsw, X1_mendRoad_J102]
          rw [show (0 : Int32) = nI 0 from rfl]
          simp (disch := omega) only [rd_nI, h0, Option.map_some]
        · refine lp_end (hM _ ?_)
          rw [hfind, ← ej]
          have hji : ¬ nI (i + 1) = nI (m + 1) ∨ i = m := by
            by_cases q : i = m
            · exact Or.inr q
            · left; rw [nI_eq (by omega) (by omega)]; omega
          have hne3 : ¬ nI (i + 1) = nI (m + 1) := by rw [nI_eq (by omega) (by omega)]; omega
          have hfi := hfan i (by omega)
          rw [← ev] at hfi
          have hlp : loopO (X8_mend_L222 (nI n) F S c fanA (nI r) (nI u) (nI (m + 1)) (nI x) (nI (i + 1)) (nI v) (nI d) (nI C)) (0, 0) = X8_mend_J271 (nI n) F S c fanA (nI r) (nI u) (nI (m + 1)) (nI x) (nI (i + 1)) (nI d) (nI C) (if hs then 1 else 0) := by
            have := for_go (f := X8_mend_L222 (nI n) F S c fanA (nI r) (nI u) (nI (m + 1)) (nI x) (nI (i + 1)) (nI v) (nI d) (nI C)) (fun q => (if ex (fun q => C.testBit q && E fs sc q v) q then (1 : Int32) else 0, nI q)) n (fun q hq => by
              have ht : ((nI C >>> (nI q &&& 31)) &&& 1 = 1) ↔ C.testBit q = true := by
                rw [tb_nI hC31 (by omega)]
                cases C.testBit q <;> simp
              rw [ex_succ]
              simp (disch := omega) only [X8_mend_L222, nI_leI, Nat.not_le.mpr hq, ↓reduceIte, ht, ends_nI hE hq, Option.bind_some, b1, bnd, nI_1]
              cases ex (fun k => C.testBit k && E fs sc k v) q
              · cases C.testBit q
                · simp
                · cases E fs sc q v <;> simp
              · simp)
            refine this.trans ?_
            refine lp_map ?_
            simp only [X8_mend_L222, Int32.le_refl, ↓reduceIte]
            rw [ehs]
          have hfi2 : ∀ q, q ≤ e → fanA q = nI (oth fs sc u (ρ q)) := fun q hq => hfan q (by omega)
          have htu := m_turn (x := nI x) (c := sxc C (nI x) (nI d) c n) hE hP (show e < 12 by omega) (show u < 2 ^ 31 by omega) hfi2 (fun i hi => hF.2.1 i (by omega))
          simp (disch := omega) only [X8_mend_J166, hne3, ↓reduceIte, X8_mend_J186, nI_pred, rd_nI, hfi, g3, Option.bind_some, k2, hlp, X8_mend_J271, m_swapped hn hC31, b1, X8_mend_J294]
          cases hh : hs
          · rw [hh] at ee
            simp only [Bool.false_eq_true, ↓reduceIte] at ee
            subst ee
            simp (disch := omega) only [↓reduceIte, htu, Option.bind_some, rd_nI, Option.map_some]
          · rw [hh] at ee
            simp only [↓reduceIte] at ee
            subst ee
            simp (disch := omega) only [Bool.true_eq_false, ↓reduceIte, htu, Option.bind_some, rd_nI, Option.map_some]
end MEND
