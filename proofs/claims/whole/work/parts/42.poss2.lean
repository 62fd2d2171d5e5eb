/-! ===== Pick: the quick no, the sets that are left, the answer ===== -/
section POSS2
variable {n p : Nat} {fs sc : Nat → Nat} {F S Bs : Nat → Int32}
def gvn (can : Nat → Nat) (n H m : Nat) : Nat → Nat
  | 0 => 0
  | k + 1 => gvn can n H m k + (if fb_ct (fun r => H.testBit r && (can r).testBit k) n < m then fb_ct (fun r => H.testBit r && (can r).testBit k) n else m)
theorem gvn_le (can : Nat → Nat) (H m : Nat) (hm : m ≤ 12) : ∀ k, gvn can n H m k ≤ 12 * k
  | 0 => Nat.le_refl _
  | k + 1 => by
    have := gvn_le can H m hm k
    rw [gvn]
    split <;> omega
theorem x_given {canA : Nat → Int32} {can : Nat → Nat} (hE : EndsOK n p fs sc F S) (hn : n ≤ 12) (hc : CanOK n canA can) {H : Nat} (hH : H < 2 ^ n) : FX4_mostGiven canA (nI n) F S (nI H) = some (nI (gvn can n H (fb_ct (endP fs sc n H) 12 / 2) 16)) := by
  have h12 : (2 : Nat) ^ n ≤ 4096 := Nat.pow_le_pow_right (n := 2) (by decide) hn
  have hm := mk_lt (endP fs sc n H) 12
  have hct : fb_ct (endP fs sc n H) 12 ≤ 12 := fb_ct_le _ _
  have hct2 : fb_ct (endP fs sc n H) 12 / 2 ≤ 12 := by omega
  unfold FX4_mostGiven
  rw [x_endsOf hE (by omega), Option.bind_some, bc_nI (by omega), Option.bind_some, pcn_mk _ (by decide), show (2 : Int32) = nI 2 from rfl, dv_nI (by omega) (by decide) (by decide)]
  generalize fb_ct (endP fs sc n H) 12 / 2 = m at *
  have h0 : ((0 : Int32), (0 : Int32)) = (nI (gvn can n H m 0), nI 0) := rfl
  rw [h0]
  refine for_fun (fun i => (nI (gvn can n H m i), nI i)) 0 16 (Nat.zero_le _) (fun i _ hi => ?_) ?_
  · have hk : mk (fun r => H.testBit r && (can r).testBit i) n < 2 ^ 32 := Nat.lt_of_lt_of_le (mk_lt _ n) (Nat.pow_le_pow_right (by decide) (by omega))
    have hle : fb_ct (fun r => H.testBit r && (can r).testBit i) n ≤ n := fb_ct_le _ _
    have hb : FJ6_bitCount_0f7a4 (nI (mk (fun r => H.testBit r && (can r).testBit i) n)) = some (nI (fb_ct (fun r => H.testBit r && (can r).testBit i) n)) := by
      rw [bc_nI hk, pcn_mk _ (by omega)]
    have hs : X4_mostGiven_L19 canA (nI n) (nI H) (nI m) (nI (gvn can n H m i), nI i) = some (.inl (nI (gvn can n H m i) + (if nI (fb_ct (fun r => H.testBit r && (can r).testBit i) n) < nI m then nI (fb_ct (fun r => H.testBit r && (can r).testBit i) n) else nI m), nI (i + 1))) := by
      unfold X4_mostGiven_L19
      rw [if_neg (show ¬ (16 : Int32) ≤ (nI (gvn can n H m i), nI i).2 by show ¬ (16 : Int32) ≤ nI i; rw [leL16 (by omega)]; omega)]
      rw [show (nI (gvn can n H m i), nI i).2 = nI i from rfl, x_that hn hc (by omega) hi, Option.bind_some, hb, Option.bind_some, bnd_at, bnd_at, nI_1]
    rw [hs, gvn]
    by_cases hq : fb_ct (fun r => H.testBit r && (can r).testBit i) n < m
    · rw [if_pos hq, if_pos ((nI_ltI (by omega) (by omega)).mpr hq), nI_add]
    · rw [if_neg hq, if_neg (fun z => hq ((nI_ltI (by omega) (by omega)).mp z)), nI_add]
  · have : (16 : Int32) ≤ nI 16 := by decide
    simp only [X4_mostGiven_L19, this, ↓reduceIte]
theorem sm_classes (H : Nat) (col : Nat → Nat) : ∀ m, (∀ r, r < m → H.testBit r = true → col r < 16) → fb_ct (fun r => H.testBit r) m ≤ fb_sm (fun k => fb_ct (fun r => H.testBit r && decide (col r = k)) m) 16
  | 0, _ => by simp [fb_ct]
  | m + 1, h => by
    have ih := sm_classes H col m (fun r hr => h r (by omega))
    have e : fb_sm (fun k => fb_ct (fun r => H.testBit r && decide (col r = k)) (m + 1)) 16 = fb_sm (fun k => fb_ct (fun r => H.testBit r && decide (col r = k)) m) 16 + fb_sm (fun k => if (H.testBit m && decide (col m = k)) = true then 1 else 0) 16 := by
      rw [← fb_sm_add]
      exact fb_sm_cong (fun k _ => by rw [fb_ct_succ])
    rw [e, fb_ct_succ]
    cases hb : H.testBit m
    · simp only [Bool.false_eq_true, ↓reduceIte]; omega
    · have := fb_sm_part (fun k => if (H.testBit m && decide (col m = k)) = true then 1 else 0) (h m (by omega) hb)
      rw [hb] at this
      simp only [Bool.true_and, decide_eq_true_eq, ↓reduceIte] at this ⊢
      omega
theorem class_half (hE : EndsOK n p fs sc F S) {H : Nat} {P : Nat → Bool} (hPH : ∀ r, r < n → P r = true → H.testBit r = true) (hI : ∀ r s, r < n → s < n → P r = true → P s = true → adj fs sc r s = false) : fb_ct P n ≤ fb_ct (endP fs sc n H) 12 / 2 := by
  have hp := hE.2.1
  have one : ∀ r s w, r < n → s < n → P r = true → P s = true → E fs sc r w = true → E fs sc s w = true → r = s := fun r s w hr hs h1 h2 h3 h4 => by
    refine Classical.byContradiction (fun hne => ?_)
    have := E_adj h3 h4 hne
    rw [hI r s hr hs h1 h2] at this
    exact Bool.noConfusion this
  have a1 : fb_ct P n ≤ fb_ct (fun q => ex (fun r => P r && decide (fs r = q)) n) 12 := ct_inj (g := fs) (fun k hk h => by
    obtain ⟨-, -, e3, -, -⟩ := hE.2.2 k hk
    exact ⟨by omega, ex_true.mpr ⟨k, hk, by simp [h]⟩⟩) (fun a b ha hb h1 h2 hab e => hab (one a b (fs a) ha hb h1 h2 (E_fst _ _ _) (by rw [e]; exact E_fst _ _ _)))
  have a2 : fb_ct P n ≤ fb_ct (fun q => ex (fun r => P r && decide (sc r = q)) n) 12 := ct_inj (g := sc) (fun k hk h => by
    obtain ⟨-, -, -, e4, -⟩ := hE.2.2 k hk
    exact ⟨by omega, ex_true.mpr ⟨k, hk, by simp [h]⟩⟩) (fun a b ha hb h1 h2 hab e => hab (one a b (sc a) ha hb h1 h2 (E_snd _ _ _) (by rw [e]; exact E_snd _ _ _)))
  have a3 := fb_ct_or (p := fun q => ex (fun r => P r && decide (fs r = q)) n) (q := fun q => ex (fun r => P r && decide (sc r = q)) n) (n := 12) (fun q _ h => by
    obtain ⟨h1, h2⟩ := h
    obtain ⟨r, r1, r2⟩ := ex_true.mp h1
    obtain ⟨s, s1, s2⟩ := ex_true.mp h2
    simp only [Bool.and_eq_true, decide_eq_true_eq] at r2 s2
    have := one r s q r1 s1 r2.1 s2.1 (by rw [← r2.2]; exact E_fst _ _ _) (by rw [← s2.2]; exact E_snd _ _ _)
    obtain ⟨-, -, -, -, e5⟩ := hE.2.2 r r1
    rw [← this] at s2
    exact e5 (r2.2.trans s2.2.symm))
  have a4 : fb_ct (fun q => ex (fun r => P r && decide (fs r = q)) n || ex (fun r => P r && decide (sc r = q)) n) 12 ≤ fb_ct (endP fs sc n H) 12 := fb_ct_sub (fun q _ h => by
    unfold endP
    rcases (Bool.or_eq_true _ _).mp h with h | h
    · obtain ⟨r, r1, r2⟩ := ex_true.mp h
      simp only [Bool.and_eq_true, decide_eq_true_eq] at r2
      exact ex_true.mpr ⟨r, r1, by rw [hPH r r1 r2.1, ← r2.2, E_fst]; rfl⟩
    · obtain ⟨r, r1, r2⟩ := ex_true.mp h
      simp only [Bool.and_eq_true, decide_eq_true_eq] at r2
      exact ex_true.mpr ⟨r, r1, by rw [hPH r r1 r2.1, ← r2.2, E_snd]; rfl⟩)
  omega
theorem poss_given {can : Nat → Nat} (hE : EndsOK n p fs sc F S) (hn : n ≤ 12) {H : Nat} (hH : H < 2 ^ n) (h : Poss fs sc can H) : pcn H ≤ gvn can n H (fb_ct (endP fs sc n H) 12 / 2) 16 := by
  obtain ⟨col, c1, c2⟩ := h
  have e1 : pcn H = fb_ct (fun r => H.testBit r) n := by
    conv => lhs; rw [mk_of hH]
    rw [pcn_mk _ (by omega)]
  rw [e1]
  refine Nat.le_trans (sm_classes H col n (fun r _ hr => (c1 r hr).1)) ?_
  have : ∀ k, fb_sm (fun k => fb_ct (fun r => H.testBit r && decide (col r = k)) n) k ≤ gvn can n H (fb_ct (endP fs sc n H) 12 / 2) k := by
    intro k
    induction k with
    | zero => exact Nat.le_refl _
    | succ k ih =>
      rw [fb_sm_succ, gvn]
      have b1 : fb_ct (fun r => H.testBit r && decide (col r = k)) n ≤ fb_ct (fun r => H.testBit r && (can r).testBit k) n := fb_ct_sub (fun r _ hr => by
        simp only [Bool.and_eq_true, decide_eq_true_eq] at hr ⊢
        exact ⟨hr.1, by rw [← hr.2]; exact (c1 r hr.1).2⟩)
      have b2 : fb_ct (fun r => H.testBit r && decide (col r = k)) n ≤ fb_ct (endP fs sc n H) 12 / 2 := class_half hE (H := H) (fun r _ hr => by
        simp only [Bool.and_eq_true] at hr
        exact hr.1) (fun r s _ _ h1 h2 => by
        simp only [Bool.and_eq_true, decide_eq_true_eq] at h1 h2
        cases hh : adj fs sc r s
        · rfl
        · exact absurd (h1.2.trans h2.2.symm) (c2 r s h1.1 h2.1 hh))
      split <;> omega
  exact this 16
theorem pcn_ct (H : Nat) : pcn H = fb_ct (fun i => H.testBit i) 32 := rfl
theorem x_clearLeft {left : Nat → Int32} {H : Nat} (hH : H < 2 ^ 12) : ∃ left', FX4_clearLeft left (nI H) = some left' ∧ ∀ t, Sub t H → left' t = 0 := by
  have hpc := pc_small (Z := H) hH
  have h12 : (2 : Nat) ^ pcn H ≤ 4096 := Nat.pow_le_pow_right (n := 2) (by decide) hpc
  have key := for_inv (f := X4_clearLeft_L12 (nI H) (nI (2 ^ pcn H))) (fun (g : Nat → Int32) i => (g, nI (dep 32 H i), nI i)) (2 ^ pcn H) (fun i g => ∀ k, k < i → g (dep 32 H k) = 0) (fun g => ∀ t, Sub t H → g t = 0) (fun i g hi hI => ?_) (fun g hI => ?_) (i := 0) (a := left) (Nat.zero_le _) (fun k hk => by omega)
  · obtain ⟨g, k1, k2⟩ := key
    refine ⟨g, ?_, k2⟩
    unfold FX4_clearLeft
    rw [bc_nI (by omega), Option.bind_some, sh_nI (by omega), bnd_at]
    rw [dep_0] at k1
    exact k1
  · left
    have hd := dep_le H i
    refine ⟨upd g (dep 32 H i) 0, ?_, fun k hk => ?_⟩
    · simp (disch := omega) only [X4_clearLeft_L12, nI_leI, Nat.not_le.mpr hi, ↓reduceIte, nar0, wr_nI, next_nI (show H < 2 ^ 31 by omega), bnd_at, nI_1]
    · rw [upd_at]
      split
      · rfl
      · rename_i hne
        rcases Nat.lt_or_ge k i with q | q
        · exact hI k q
        · exact absurd (by rw [show k = i by omega]) hne
  · refine ⟨g, ?_, fun t ht => ?_⟩
    · simp only [X4_clearLeft_L12, Int32.le_refl, ↓reduceIte]
    · obtain ⟨k, k1, k2⟩ := dep_onto 32 H t ht (by omega)
      rw [← k2]
      exact hI k k1
theorem sd_mem {s t i : Nat} : (sd s t).testBit i = true ↔ s.testBit i = true ∧ t.testBit i = false := by
  rw [sd_bit]; simp
theorem x_giveNumber {left : Nat → Int32} {H T : Nat} (hn : n ≤ 12) (hB : BsOK n fs sc Bs) (hH : H < 2 ^ n) (hT : T < 2 ^ n) (hbool : ∀ t, Sub t H → left t = 0 ∨ left t = 1) : ∃ left', FX4_giveNumber left (nI n) Bs (nI H) (nI T) = some left' ∧ (∀ t, Sub t H → left' t = 0 ∨ left' t = 1) ∧ (∀ t, Sub t H → left' t = 1 → ∃ s, Sub s H ∧ left s = 1 ∧ Sub t s ∧ Ind fs sc (sd s t) ∧ Sub (sd s t) T) ∧ ∀ s, Sub s H → left s = 1 → ∀ I, Ind fs sc I → Sub I (s &&& T) → ∃ t, left' t = 1 ∧ Sub t (sd s I) := by
  have hn12 : (2 : Nat) ^ n ≤ 4096 := Nat.pow_le_pow_right (n := 2) (by decide) hn
  have hpc := pc_small (Z := H) (by omega)
  have h12 : (2 : Nat) ^ pcn H ≤ 4096 := Nat.pow_le_pow_right (n := 2) (by decide) hpc
  have selfs : ∀ s : Nat, sd s s = 0 := fun s => Nat.eq_of_testBit_eq (fun i => by rw [sd_bit, Nat.zero_testBit]; cases s.testBit i <;> rfl)
  have ind0 : Ind fs sc 0 := fun a b ha => by rw [Nat.zero_testBit] at ha; exact Bool.noConfusion ha
  have sub0 : ∀ s, Sub 0 s := fun s i hi => by rw [Nat.zero_testBit] at hi; exact Bool.noConfusion hi
  have key := for_inv (f := X4_giveNumber_L13 (nI n) Bs (nI H) (nI T) (nI (2 ^ pcn H))) (fun (g : Nat → Int32) i => (g, nI (dep 32 H i), nI i)) (2 ^ pcn H) (fun i g => (∀ t, Sub t H → g t = 0 ∨ g t = 1) ∧ (∀ k, i ≤ k → k < 2 ^ pcn H → g (dep 32 H k) = left (dep 32 H k)) ∧ (∀ t, Sub t H → g t = 1 → ∃ s, Sub s H ∧ left s = 1 ∧ Sub t s ∧ Ind fs sc (sd s t) ∧ Sub (sd s t) T) ∧ ∀ k, k < i → left (dep 32 H k) = 1 → ∀ I, Ind fs sc I → Sub I (dep 32 H k &&& T) → ∃ j, j < i ∧ g (dep 32 H j) = 1 ∧ Sub (dep 32 H j) (sd (dep 32 H k) I)) (fun g => (∀ t, Sub t H → g t = 0 ∨ g t = 1) ∧ (∀ t, Sub t H → g t = 1 → ∃ s, Sub s H ∧ left s = 1 ∧ Sub t s ∧ Ind fs sc (sd s t) ∧ Sub (sd s t) T) ∧ ∀ s, Sub s H → left s = 1 → ∀ I, Ind fs sc I → Sub I (s &&& T) → ∃ t, g t = 1 ∧ Sub t (sd s I)) (fun i g hi hI => ?_) (fun g hI => ?_) (i := 0) (a := left) (Nat.zero_le _) ⟨hbool, fun k _ _ => rfl, fun t h1 h2 => ⟨t, h1, h2, fun i h => h, by rw [selfs]; exact ind0, by rw [selfs]; exact sub0 T⟩, fun k hk => by omega⟩
  · obtain ⟨g, k1, k2⟩ := key
    refine ⟨g, ?_, k2⟩
    unfold FX4_giveNumber
    rw [bc_nI (by omega), Option.bind_some, sh_nI (by omega), bnd_at]
    rw [dep_0] at k1
    exact k1
  · left
    obtain ⟨i1, i2, i3, i4⟩ := hI
    have hd := dep_le H i
    have hds := dep_sub 32 H i
    obtain ⟨s, es⟩ : ∃ s, s = dep 32 H i := ⟨_, rfl⟩
    rw [← es] at hd hds
    have hsv : g s = left s := by rw [es]; exact i2 i (Nat.le_refl _) hi
    have hand : s &&& T ≤ s := Nat.and_le_left
    have skip : (g s = 0 ∨ s &&& T = 0) → ∃ g', X4_giveNumber_L13 (nI n) Bs (nI H) (nI T) (nI (2 ^ pcn H)) (g, nI (dep 32 H i), nI i) = some (.inl (g', nI (dep 32 H (i + 1)), nI (i + 1))) ∧ (∀ t, Sub t H → g' t = 0 ∨ g' t = 1) ∧ (∀ k, i + 1 ≤ k → k < 2 ^ pcn H → g' (dep 32 H k) = left (dep 32 H k)) ∧ (∀ t, Sub t H → g' t = 1 → ∃ s, Sub s H ∧ left s = 1 ∧ Sub t s ∧ Ind fs sc (sd s t) ∧ Sub (sd s t) T) ∧ ∀ k, k < i + 1 → left (dep 32 H k) = 1 → ∀ I, Ind fs sc I → Sub I (dep 32 H k &&& T) → ∃ j, j < i + 1 ∧ g' (dep 32 H j) = 1 ∧ Sub (dep 32 H j) (sd (dep 32 H k) I) := fun hz => by
      refine ⟨g, ?_, i1, fun k hk => i2 k (by omega), i3, fun k hk h1 I h2 h3 => ?_⟩
      · rw [← es]
        by_cases hg : g s = 0
        · simp (disch := omega) only [X4_giveNumber_L13, nI_leI, Nat.not_le.mpr hi, ↓reduceIte, rd_nI, hg, X4_giveNumber_J55, bnd_at, nI_1]
          rw [es, next_nI (by omega)]
        · have hz' : s &&& T = 0 := by
            rcases hz with q | q
            · exact absurd q hg
            · exact q
          simp (disch := omega) only [X4_giveNumber_L13, nI_leI, Nat.not_le.mpr hi, ↓reduceIte, rd_nI, hg, fa_and, eqR0, hz', X4_giveNumber_J55, bnd_at, nI_1]
          rw [es, next_nI (by omega)]
      · rcases Nat.lt_or_ge k i with q | q
        · obtain ⟨j, j1, j2⟩ := i4 k q h1 I h2 h3
          exact ⟨j, by omega, j2⟩
        · obtain rfl : k = i := by omega
          rw [← es] at h1 h3
          have hg1 : ¬ g s = 0 := by rw [hsv, h1]; decide
          have hz' : s &&& T = 0 := by
            rcases hz with q | q
            · exact absurd q hg1
            · exact q
          refine ⟨k, by omega, by rw [← es, hsv]; exact h1, fun j hj => ?_⟩
          rw [← es] at hj ⊢
          rw [sd_mem]
          refine ⟨hj, ?_⟩
          cases hI : I.testBit j
          · rfl
          · have := h3 j hI
            rw [hz', Nat.zero_testBit] at this
            exact Bool.noConfusion this
    by_cases hg : g s = 0
    · exact skip (Or.inl hg)
    · by_cases hz : s &&& T = 0
      · exact skip (Or.inr hz)
      · have hg1 : g s = 1 := by
          rcases i1 s hds with q | q
          · exact absurd q hg
          · exact q
        have hl1 : left s = 1 := by rw [← hsv]; exact hg1
        have hsn : s < 2 ^ n := sub_lt hds hH
        have hcs : Sub (s &&& T) s := fun j hj => by
          rw [Nat.testBit_and] at hj
          simp only [Bool.and_eq_true] at hj
          exact hj.1
        have hpcc := pc_small (Z := s &&& T) (by omega)
        obtain ⟨g', k1, k2, k3⟩ := takeOut_ok hn hB 14 s (s &&& T) 0 (upd g s 0) hsn hcs (by omega) (by omega)
        have fresh : ∀ I, Sub I (s &&& T) → Sub (sd s I) H := fun I _ j hj => hds j (sd_mem.mp hj).1
        have sdsd : ∀ I, Sub I s → sd s (sd s I) = I := fun I hI => Nat.eq_of_testBit_eq (fun j => by
          rw [sd_bit, sd_bit]
          cases e1 : I.testBit j
          · cases s.testBit j <;> rfl
          · rw [hI j e1]; rfl)
        have hgt : ∀ k, i < k → k < 2 ^ pcn H → g' (dep 32 H k) = g (dep 32 H k) := fun k q1 q2 => by
          have hlt := dep_lt 32 H i k q1 q2
          rw [← es] at hlt
          rcases k2 (dep 32 H k) with q | ⟨-, I, -, -, q⟩
          · rw [q, upd_at, if_neg (by omega)]
          · have := sub_le (sub_sd s I)
            omega
        refine ⟨g', ?_, fun t ht => ?_, fun k q1 q2 => ?_, fun t ht h1 => ?_, fun k hk h1 I h2 h3 => ?_⟩
        · rw [← es]
          have h0 : (0 : Int32) = nI 0 := rfl
          simp (disch := omega) only [X4_giveNumber_L13, nI_leI, Nat.not_le.mpr hi, ↓reduceIte, rd_nI, hg, fa_and, eqR0, hz, nar0, wr_nI, X4_giveNumber_J55, bnd_at, nI_1]
          rw [h0, show upd g s (nI 0) = upd g s 0 from rfl, k1, Option.bind_some, es, next_nI (by omega)]
        · rcases k2 t with q | q
          · rw [q, upd_at]
            split
            · exact Or.inl rfl
            · exact i1 t ht
          · exact Or.inr q.1
        · rw [hgt k (by omega) q2, i2 k (by omega) q2]
        · rcases k2 t with q | ⟨-, I, a1, a2, a3⟩
          · rw [q, upd_at] at h1
            by_cases e : t = s
            · rw [if_pos e] at h1
              exact absurd h1 (by decide)
            · rw [if_neg e] at h1
              exact i3 t ht h1
          · have hIs : Sub I s := fun j hj => hcs j (a2 j hj)
            refine ⟨s, hds, hl1, by rw [a3]; exact sub_sd s I, ?_, ?_⟩
            · rw [a3, sdsd I hIs]; exact a1
            · rw [a3, sdsd I hIs]
              intro j hj
              have := a2 j hj
              rw [Nat.testBit_and] at this
              simp only [Bool.and_eq_true] at this
              exact this.2
        · rcases Nat.lt_or_ge k i with q | q
          · obtain ⟨j, j1, j2, j3⟩ := i4 k q h1 I h2 h3
            refine ⟨j, by omega, ?_, j3⟩
            have hlt := dep_lt 32 H j i j1 hi
            rw [← es] at hlt
            refine made_up k2 ?_
            rw [upd_at, if_neg (by omega)]
            exact j2
          · obtain rfl : k = i := by omega
            rw [← es] at h3 ⊢
            obtain ⟨t, t1, t2⟩ := k3 I h2 h3
            have htH : Sub t H := fun j hj => fresh I h3 j (t2 j hj)
            obtain ⟨j, j1, j2⟩ := dep_onto 32 H t htH (by omega)
            have hts := sub_le (show Sub t s from fun z hz => (sd_mem.mp (t2 z hz)).1)
            refine ⟨j, ?_, by rw [j2]; exact t1, by rw [j2]; exact t2⟩
            rcases Nat.lt_or_ge j (k + 1) with q | q
            · exact q
            · have := dep_lt 32 H k j (by omega) j1
              rw [j2, ← es] at this
              omega
  · obtain ⟨i1, i2, i3, i4⟩ := hI
    refine ⟨g, ?_, i1, i3, fun s hs h1 I h2 h3 => ?_⟩
    · simp only [X4_giveNumber_L13, Int32.le_refl, ↓reduceIte]
    · obtain ⟨k, k1, k2⟩ := dep_onto 32 H s hs (by omega)
      rw [← k2] at h1 h3 ⊢
      obtain ⟨j, -, j2, j3⟩ := i4 k k1 h1 I h2 h3
      exact ⟨_, j2, j3⟩
end POSS2
