/-! ===== the net's state on both sides, and the ops that build it ===== -/
def NetR (pc rc : Int32) (F S c al At Bs : Nat → Int32) (mp mr : Int32) (mF mS mc ml : Nat → Int32) : Prop := (mp = pc ∧ mr = rc ∧ mF = F ∧ mS = S ∧ mc = c ∧ ml = al) ∧ ∃ (p n : Nat) (fs sc : Nat → Nat), pc = nI p ∧ rc = nI n ∧ EndsOK n p fs sc F S ∧ AtOK n p fs sc At ∧ BsOK n fs sc Bs ∧ NumOK n c ∧ ∀ r, r < n → ∃ k, k < 65536 ∧ al r = nI k
theorem netR_0 : NetR 0 0 (fun _ => 0) (fun _ => 0) (fun _ => 0) (fun _ => 0) (fun _ => 0) (fun _ => 0) 0 0 (fun _ => 0) (fun _ => 0) (fun _ => 0) (fun _ => 0) :=
  ⟨⟨rfl, rfl, rfl, rfl, rfl, rfl⟩, 0, 0, fun _ => 0, fun _ => 0, rfl, rfl, ⟨by omega, by omega, fun r hr => by omega⟩, fun q hq => by omega, fun r hr => by omega, fun r hr => by omega, fun r hr => by omega⟩
theorem in_has {k : Nat} (hk : k < 2 ^ 30) (a : Int32) : FX8_in a 0 (nI k - 1) = FX3_hasPost (nI k) a := by
  unfold FX8_in FX3_hasPost
  by_cases h : a < 0
  · rw [if_pos h, if_pos h]
  · rw [if_neg h, if_neg h]
    have e : (nI k - 1).toInt = (k : Int) - 1 := pk_sub_toInt (b := 1) hk (by decide)
    have e2 : (nI k).toInt = (k : Int) := nI_toInt (by omega)
    have : (nI k - 1 < a) ↔ (nI k ≤ a) := by
      rw [fa_lt, fa_le, e, e2]; omega
    by_cases h2 : nI k ≤ a
    · rw [if_pos (this.mpr h2), if_pos h2]
    · rw [if_neg (fun q => h2 (this.mp q)), if_neg h2]
theorem has_cases {k : Nat} (hk : k < 2 ^ 31) (a : Int32) : FX3_hasPost (nI k) a = some 0 ∨ ∃ j, j < k ∧ a = nI j ∧ FX3_hasPost (nI k) a = some 1 := by
  rcases pk_ix a hk with h | h | ⟨j, hj, rfl⟩
  · left; unfold FX3_hasPost; rw [if_pos h]
  · by_cases h2 : a < 0
    · left; unfold FX3_hasPost; rw [if_pos h2]
    · left; unfold FX3_hasPost; rw [if_neg h2, if_pos h]
  · right
    refine ⟨j, hj, rfl, ?_⟩
    unfold FX3_hasPost
    rw [if_neg (nI_pos (by omega)), if_neg (by rw [nI_leI (by omega) (by omega)]; omega)]
theorem isRoad_has {k : Nat} (hk : k < 2 ^ 30) (a : Int32) : FX8_isRoad (nI k) a = FX3_hasPost (nI k) a := by
  unfold FX8_isRoad
  rw [in_has hk]
  rcases has_cases (by omega : k < 2 ^ 31) a with h | ⟨j, -, -, h⟩
  · rw [h]; rfl
  · rw [h]; rfl
theorem hasRoad_has (k a : Int32) : FX3_hasRoad k a = FX3_hasPost k a := rfl
theorem o10 : ((1 : Int32) = 0) ↔ False := by decide
theorem o00 : ((0 : Int32) = 0) ↔ True := by decide
theorem nop_post {pc rc : Int32} {F S c al At Bs : Nat → Int32} {mp mr : Int32} {mF mS mc ml : Nat → Int32} (h : NetR pc rc F S c al At Bs mp mr mF mS mc ml) : ∃ ox om, FX7_post pc At = some ox ∧ FX8_post mp = some om ∧ ox.1 = om.1 ∧ NetR ox.2.1 rc F S c al ox.2.2 Bs om.2 mr mF mS mc ml := by
  obtain ⟨⟨rfl, rfl, rfl, rfl, rfl, rfl⟩, p, n, fs, sc, rfl, rfl, hE, hA, hB, hN, hL⟩ := h
  have hp := hE.2.1
  unfold FX7_post FX8_post
  by_cases h12 : p = 12
  · subst h12
    refine ⟨(-2, nI 12, At), (-2, nI 12), ?_, ?_, rfl, ⟨rfl, rfl, rfl, rfl, rfl, rfl⟩, 12, n, fs, sc, rfl, rfl, hE, hA, hB, hN, hL⟩
    · rw [if_neg (by decide)]
    · rw [if_pos (by decide)]
  · refine ⟨(nI (p + 1) - 1, nI (p + 1), upd At p 0), (nI (p + 1) - 1, nI (p + 1)), ?_, ?_, rfl, ⟨rfl, rfl, rfl, rfl, rfl, rfl⟩, p + 1, n, fs, sc, rfl, rfl, ⟨hE.1, by omega, fun r hr => ?_⟩, fun q hq => ?_, hB, hN, hL⟩
    · rw [if_pos ((ltR12 (by omega)).mpr (by omega))]
      simp (disch := omega) only [FX3_addPost, wr_nI, bnd, nI_1, Option.bind_some]
    · rw [if_neg (by rw [eqR12 (by omega)]; exact h12)]
      simp only [bnd, nI_1]
    · obtain ⟨a1, a2, a3, a4, a5⟩ := hE.2.2 r hr
      exact ⟨a1, a2, by omega, by omega, a5⟩
    · show upd At p 0 q = _
      by_cases hq2 : q = p
      · subst hq2
        rw [upd_at, if_pos rfl, mk_zero.mpr (fun r hr => ?_)]
        · rfl
        · obtain ⟨a1, a2, a3, a4, a5⟩ := hE.2.2 r hr
          unfold E
          rw [Bool.or_eq_false_iff]
          exact ⟨by simp; omega, by simp; omega⟩
      · rw [upd_at, if_neg hq2]
        exact hA q (by omega)
/-! a new road -/
theorem x_addRoad {n p a b : Nat} {fs sc : Nat → Nat} {F S c al At Bs : Nat → Int32} (hE : EndsOK n p fs sc F S) (hA : AtOK n p fs sc At) (hB : BsOK n fs sc Bs) (hn : n < 24) (ha : a < p) (hb : b < p) (hab : a ≠ b) :
    ∃ At' Bs', FX3_addRoad (nI n) F S c al At Bs (nI a) (nI b) = some (nI n, nI (n + 1), upd F n (nI a), upd S n (nI b), upd c n (-1), upd al n 65535, At', Bs') ∧ EndsOK (n + 1) p (fun r => if r = n then a else fs r) (fun r => if r = n then b else sc r) (upd F n (nI a)) (upd S n (nI b)) ∧ AtOK (n + 1) p (fun r => if r = n then a else fs r) (fun r => if r = n then b else sc r) At' ∧ BsOK (n + 1) (fun r => if r = n then a else fs r) (fun r => if r = n then b else sc r) Bs' := by
  have hp := hE.2.1
  have hEc : ∀ q r, r < n → E (fun r => if r = n then a else fs r) (fun r => if r = n then b else sc r) r q = E fs sc r q := fun q r hr => by
    unfold E
    have : r ≠ n := by omega
    simp [this]
  have hEn : ∀ q, E (fun r => if r = n then a else fs r) (fun r => if r = n then b else sc r) n q = (a == q || b == q) := fun q => by
    unfold E; simp
  obtain ⟨B, hBd⟩ : ∃ B, B = mk (fun r => E fs sc r a) n ||| mk (fun r => E fs sc r b) n := ⟨_, rfl⟩
  have hBb : ∀ i, B.testBit i = (decide (i < n) && (E fs sc i a || E fs sc i b)) := fun i => by
    rw [hBd, Nat.testBit_or, mk_bit, mk_bit]
    cases decide (i < n) <;> simp
  have hB31 : B < 2 ^ 31 := by
    rw [hBd]
    exact Nat.lt_of_lt_of_le (Nat.or_lt_two_pow (mk_lt _ n) (mk_lt _ n)) (Nat.pow_le_pow_right (by decide) (by omega))
  obtain ⟨g, hg⟩ : ∃ g : Nat → Nat → Int32, g = fun i j => if j < i ∧ B.testBit j = true then nI (mk (fun s => adj fs sc j s) n ||| 2 ^ n) else upd Bs n (nI B) j := ⟨_, rfl⟩
  have hg0 : g 0 = upd Bs n (nI B) := by rw [hg]; funext j; simp
  refine ⟨upd (upd At a (nI (mk (fun r => E fs sc r a) n ||| 2 ^ n))) b (nI (mk (fun r => E fs sc r b) n ||| 2 ^ n)), g n, ?_, ⟨by omega, hp, fun r hr => ?_⟩, fun q hq => ?_, fun r hr => ?_⟩
  · simp (disch := omega) only [FX3_addRoad, wr_nI, rd_nI, hA a ha, hA b hb, fa_or]
    rw [← hBd, ← hg0]
    refine for_fun (fun i => (g i, nI i)) 0 n (Nat.zero_le _) (fun i _ hi => ?_) ?_
    · have e1 : g i n = nI B := by rw [hg]; simp [upd_at]; omega
      have e2 : g i i = nI (mk (fun s => adj fs sc i s) n) := by
        have : i ≠ n := by omega
        rw [hg]; simp [upd_at, this, hB i hi]
      have e3 : B.testBit i = true → upd (g i) i (nI (mk (fun s => adj fs sc i s) n ||| 2 ^ n)) = g (i + 1) := fun hbit => by
        funext j
        rw [upd_at, hg]
        by_cases hj : j = i
        · subst hj; simp [hbit]
        · have : (j < i + 1) ↔ (j < i) := by omega
          simp [hj, this]
      have e4 : B.testBit i = false → g i = g (i + 1) := fun hbit => by
        funext j
        rw [hg]
        by_cases hj : j = i
        · subst hj; simp [hbit]
        · have : (j < i + 1) ↔ (j < i) := by omega
          simp [this]
      simp (disch := omega) only [X3_addRoad_L56, nI_leI, Nat.not_le.mpr hi, ↓reduceIte, rd_nI, e1, isIn_nI hB31, Option.bind_some, b1, bnd, nI_1, wr_nI, e2, sh_nI, fa_or]
      cases hbit : B.testBit i
      · simp [← e4 hbit]
      · simp [e3 hbit]
    · have hba : ¬ b = a := fun q => hab q.symm
      simp (disch := omega) only [X3_addRoad_L56, Int32.le_refl, ↓reduceIte, X3_addRoad_J95, rd_nI, wr_nI, hA a ha, sh_nI, fa_or, bnd, nI_1, Option.map_some, upd_at, hba, hA b hb]
  · by_cases hr2 : r = n
    · subst hr2
      exact ⟨by simp [upd_at], by simp [upd_at], by simpa using ha, by simpa using hb, by simpa using hab⟩
    · obtain ⟨a1, a2, a3, a4, a5⟩ := hE.2.2 r (by omega)
      simp only [upd_at, if_neg hr2]
      exact ⟨a1, a2, a3, a4, a5⟩
  · rw [mk, mk_cong (fun r hr => hEc q r hr), hEn q]
    simp only [upd_at]
    by_cases h1 : q = b
    · subst h1; simp
    · by_cases h2 : q = a
      · subst h2; simp [h1]
      · have e1 : ¬ a = q := fun z => h2 z.symm
        have e2 : ¬ b = q := fun z => h1 z.symm
        simp [h1, h2, e1, e2, hA q hq]
  · have hTn : ∀ r, r < n → T (fun r => if r = n then a else fs r) (fun r => if r = n then b else sc r) r n = (E fs sc r a || E fs sc r b) := fun r hr => by
      unfold T
      simp only [↓reduceIte]
      rw [hEc a r hr, hEc b r hr]
    have hTs : ∀ r s, r < n → s < n → T (fun r => if r = n then a else fs r) (fun r => if r = n then b else sc r) r s = T fs sc r s := fun r s hr hs => by
      unfold T
      have : s ≠ n := by omega
      simp only [this, ↓reduceIte]
      rw [hEc _ r hr, hEc _ r hr]
    by_cases hr2 : r = n
    · subst hr2
      have e1 : g r r = nI B := by rw [hg]; simp [upd_at]
      rw [e1, mk]
      have e0 : adj (fun r_1 => if r_1 = r then a else fs r_1) (fun r_1 => if r_1 = r then b else sc r_1) r r = false := by simp [adj]
      rw [e0]
      simp only [Bool.false_eq_true, ↓reduceIte, Nat.or_zero]
      congr 1
      refine bits_eq (k := r) ?_ (mk_lt _ r) (fun i hi => ?_)
      · rw [hBd]; exact Nat.or_lt_two_pow (mk_lt _ r) (mk_lt _ r)
      · rw [hBb, mk_bit, adj_symm]
        unfold adj
        rw [hTn i hi]
        have : ¬ i = r := by omega
        simp [hi, this]
    · have hrn : r < n := by omega
      rw [mk, mk_cong (Q := fun s => adj fs sc r s) (fun s hs => by unfold adj; rw [hTs r s hrn hs])]
      have e0 : adj (fun r => if r = n then a else fs r) (fun r => if r = n then b else sc r) r n = (E fs sc r a || E fs sc r b) := by
        unfold adj
        rw [hTn r hrn]
        simp [hr2]
      rw [e0, hg]
      have hbit := hBb r
      simp only [hrn, decide_true, Bool.true_and] at hbit
      rw [← hbit]
      cases hb2 : B.testBit r
      · simp [upd_at, hr2, hB r hrn, hb2]
      · simp [hrn, hb2]
theorem nop_road {pc rc : Int32} {F S c al At Bs : Nat → Int32} {mp mr : Int32} {mF mS mc ml : Nat → Int32} (h : NetR pc rc F S c al At Bs mp mr mF mS mc ml) (a1 a2 : Int32) : ∃ ox om, FX7_road pc rc F S c al At Bs a1 a2 = some ox ∧ FX8_road mp mr mF mS mc ml a1 a2 = some om ∧ ox.1 = om.1 ∧ NetR pc ox.2.1 ox.2.2.1 ox.2.2.2.1 ox.2.2.2.2.1 ox.2.2.2.2.2.1 ox.2.2.2.2.2.2.1 ox.2.2.2.2.2.2.2 mp om.2.1 om.2.2.1 om.2.2.2.1 om.2.2.2.2.1 om.2.2.2.2.2 := by
  obtain ⟨⟨rfl, rfl, rfl, rfl, rfl, rfl⟩, p, n, fs, sc, rfl, rfl, hE, hA, hB, hN, hL⟩ := h
  have hp := hE.2.1
  have hn := hE.1
  have same : ∃ ox om, some (-2, nI n, mF, mS, mc, ml, At, Bs) = some ox ∧ some ((-2 : Int32), nI n, mF, mS, mc, ml) = some om ∧ ox.1 = om.1 ∧ NetR (nI p) ox.2.1 ox.2.2.1 ox.2.2.2.1 ox.2.2.2.2.1 ox.2.2.2.2.2.1 ox.2.2.2.2.2.2.1 ox.2.2.2.2.2.2.2 (nI p) om.2.1 om.2.2.1 om.2.2.2.1 om.2.2.2.2.1 om.2.2.2.2.2 :=
    ⟨_, _, rfl, rfl, rfl, ⟨rfl, rfl, rfl, rfl, rfl, rfl⟩, p, n, fs, sc, rfl, rfl, hE, hA, hB, hN, hL⟩
  unfold FX7_road FX8_road
  rw [in_has (by omega), in_has (by omega)]
  rcases has_cases (by omega : p < 2 ^ 31) a1 with e | ⟨a, ha, rfl, e⟩
  · rw [e]; exact same
  · rw [e]
    simp only [Option.bind_some, o10, ↓reduceIte]
    rcases has_cases (by omega : p < 2 ^ 31) a2 with e | ⟨b, hb, rfl, e⟩
    · rw [e]; exact same
    · rw [e]
      simp only [Option.bind_some, o10, ↓reduceIte]
      by_cases hab : a = b
      · subst hab
        simp only [↓reduceIte]; exact same
      · have hab' : ¬ nI a = nI b := by rw [nI_eq (by omega) (by omega)]; exact hab
        simp only [hab', ↓reduceIte]
        by_cases h24 : n = 24
        · subst h24
          simp only [show ¬ (nI 24 < 24) by decide, show nI 24 = 24 from rfl, ↓reduceIte]; exact same
        · simp only [(ltR24 (by omega)).mpr (by omega : n < 24), show ¬ nI n = 24 by rw [eqR24 (by omega)]; exact h24, ↓reduceIte]
          obtain ⟨At', Bs', h1, h2, h3, h4⟩ := x_addRoad (c := mc) (al := ml) hE hA hB (by omega) ha hb hab
          rw [h1]
          simp (disch := omega) only [Option.bind_some, wr_nI, bnd, nI_1]
          refine ⟨_, _, rfl, rfl, ?_, ⟨rfl, rfl, rfl, rfl, rfl, rfl⟩, p, n + 1, _, _, rfl, rfl, h2, h3, h4, ?_, ?_⟩
          · show nI n = nI (n + 1) - 1
            rw [nI_pred]
          · intro r hr
            show upd mc n (-1) r = -1 ∨ ∃ k, k < 16 ∧ upd mc n (-1) r = nI k
            by_cases hr2 : r = n
            · left; rw [upd_at, if_pos hr2]
            · rw [upd_at, if_neg hr2]; exact hN r (by omega)
          · intro r hr
            show ∃ k, k < 65536 ∧ upd ml n 65535 r = nI k
            by_cases hr2 : r = n
            · exact ⟨65535, by omega, by rw [upd_at, if_pos hr2]; rfl⟩
            · obtain ⟨k, hk, ek⟩ := hL r (by omega)
              exact ⟨k, hk, by rw [upd_at, if_neg hr2]; exact ek⟩
/-! the latest road goes -/
theorem mk_and_ones (P : Nat → Bool) (n : Nat) : mk P (n + 1) &&& (2 ^ n - 1) = mk P n := by
  refine bits_eq (k := n + 1) (and_lt_l (mk_lt P (n + 1))) (Nat.lt_of_lt_of_le (mk_lt P n) (Nat.pow_le_pow_right (by decide) (by omega))) (fun i hi => ?_)
  rw [Nat.testBit_and, mk_bit, mk_bit, Nat.testBit_two_pow_sub_one]
  by_cases h : i < n
  · simp [h, hi]
  · simp [h]
theorem nop_drop {pc rc : Int32} {F S c al At Bs : Nat → Int32} {mp mr : Int32} {mF mS mc ml : Nat → Int32} (h : NetR pc rc F S c al At Bs mp mr mF mS mc ml) : ∃ ox om, FX7_drop rc F S At Bs = some ox ∧ FX8_drop mr = some om ∧ ox.1 = om.1 ∧ NetR pc ox.2.1 F S c al ox.2.2.1 ox.2.2.2 mp om.2 mF mS mc ml := by
  obtain ⟨⟨rfl, rfl, rfl, rfl, rfl, rfl⟩, p, n, fs, sc, rfl, rfl, hE, hA, hB, hN, hL⟩ := h
  have hp := hE.2.1
  have hn := hE.1
  unfold FX7_drop FX8_drop
  by_cases h0 : n = 0
  · subst h0
    simp only [show nI 0 = 0 from rfl, ↓reduceIte]
    exact ⟨_, _, rfl, rfl, rfl, ⟨rfl, rfl, rfl, rfl, rfl, rfl⟩, p, 0, fs, sc, rfl, rfl, hE, hA, hB, hN, hL⟩
  · obtain ⟨k, rfl⟩ : ∃ k, n = k + 1 := ⟨n - 1, by omega⟩
    obtain ⟨e1, e2, e3, e4, e5⟩ := hE.2.2 k (by omega)
    obtain ⟨g, hg⟩ : ∃ g : Nat → Nat → Int32, g = fun i j => if j < i then nI (mk (fun s => adj fs sc j s) k) else Bs j := ⟨_, rfl⟩
    obtain ⟨At', hAt⟩ : ∃ At' : Nat → Int32, At' = upd (upd At (fs k) (nI (mk (fun r => E fs sc r (fs k)) k))) (sc k) (nI (mk (fun r => E fs sc r (sc k)) k)) := ⟨_, rfl⟩
    have hx : FX3_removeLatest (nI (k + 1)) mF mS At Bs = some (nI k, nI k, At', g k) := by
      have hsf : ¬ sc k = fs k := fun q => e5 q.symm
      simp (disch := omega) only [FX3_removeLatest, bnd, nI_pred, FX3_allRoads, ones_nI, Option.bind_some, rd_nI, e1, e2, hA (fs k) e3, fa_and, mk_and_ones, wr_nI, upd_at, hsf, ↓reduceIte, hA (sc k) e4]
      rw [← hAt]
      have hg0 : Bs = g 0 := by rw [hg]; funext j; simp
      rw [show (Bs, (0 : Int32)) = (g 0, nI 0) by rw [← hg0]; rfl]
      refine for_fun (fun i => (g i, nI i)) 0 k (Nat.zero_le _) (fun i _ hi => ?_) ?_
      · have e1 : g i i = nI (mk (fun s => adj fs sc i s) (k + 1)) := by rw [hg]; simp [hB i (by omega)]
        have e3 : upd (g i) i (nI (mk (fun s => adj fs sc i s) k)) = g (i + 1) := by
          funext j
          rw [upd_at, hg]
          by_cases hj : j = i
          · subst hj; simp
          · have : (j < i + 1) ↔ (j < i) := by omega
            simp [hj, this]
        simp (disch := omega) only [X3_removeLatest_L53, nI_leI, Nat.not_le.mpr hi, ↓reduceIte, rd_nI, e1, fa_and, mk_and_ones, wr_nI, e3, bnd, nI_1]
      · simp only [X3_removeLatest_L53, Int32.le_refl, ↓reduceIte]
    rw [if_neg (by rw [eqR0 (by omega)]; omega), if_neg (by rw [eqR0 (by omega)]; omega), hx]
    simp only [Option.bind_some, bnd, nI_pred]
    refine ⟨_, _, rfl, rfl, rfl, ⟨rfl, rfl, rfl, rfl, rfl, rfl⟩, p, k, fs, sc, rfl, rfl, ⟨by omega, hp, fun r hr => hE.2.2 r (by omega)⟩, fun q hq => ?_, fun r hr => ?_, fun r hr => hN r (by omega), fun r hr => hL r (by omega)⟩
    · show At' q = _
      rw [hAt]
      simp only [upd_at]
      by_cases h1 : q = sc k
      · rw [if_pos h1, h1]
      · rw [if_neg h1]
        by_cases h2 : q = fs k
        · rw [if_pos h2, h2]
        · rw [if_neg h2, hA q hq, mk]
          have a1 : ¬ fs k = q := fun z => h2 z.symm
          have a2 : ¬ sc k = q := fun z => h1 z.symm
          have : E fs sc k q = false := by unfold E; simp [a1, a2]
          rw [this]; simp
    · show g k r = _
      rw [hg]; simp [hr]
