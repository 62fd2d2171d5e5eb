theorem ml_nI (a b : Nat) : nI a * nI b = nI (a * b) := by
  induction b with
  | zero => simp [show nI 0 = (0 : Int32) from rfl]
  | succ b ih =>
    rw [show nI (b + 1) = nI b + 1 from (nI_1 b).symm, Nat.mul_succ, ← nI_add, ← ih]
    grind
/-! ===== the model's choose: which sets can be coloured with the numbers from k on ===== -/
theorem dep_prev : ∀ (N H k : Nat), k + 1 < 2 ^ fb_ct (fun i => H.testBit i) N → dep N H (k + 1) ≠ 0 ∧ (dep N H (k + 1) - 1) &&& H = dep N H k
  | 0, H, k, h => by
    simp only [fb_ct, Nat.pow_zero] at h
    omega
  | N + 1, H, k, h => by
    have e : H = 2 * (H / 2) + H % 2 := by omega
    rw [ct_half] at h
    rw [dep, dep]
    have : H % 2 = 0 ∨ H % 2 = 1 := by omega
    rcases this with q | q
    · rw [q, Nat.zero_add] at h
      obtain ⟨h1, h2⟩ := dep_prev N (H / 2) k h
      rw [if_neg (by omega), if_neg (by omega)]
      refine ⟨by omega, ?_⟩
      rw [show 2 * dep N (H / 2) (k + 1) - 1 = 2 * (dep N (H / 2) (k + 1) - 1) + 1 by omega]
      conv => lhs; rhs; rw [e]
      rw [and_two _ _ _ _ (by omega) (by omega), h2, q]
      omega
    · rw [q, Nat.add_comm 1, Nat.pow_succ] at h
      rw [if_pos q, if_pos q]
      have : k % 2 = 0 ∨ k % 2 = 1 := by omega
      rcases this with r | r
      · refine ⟨by omega, ?_⟩
        rw [show (k + 1) % 2 = 1 by omega, show (k + 1) / 2 = k / 2 by omega, show 1 + 2 * dep N (H / 2) (k / 2) - 1 = 2 * dep N (H / 2) (k / 2) + 0 by omega]
        conv => lhs; rhs; rw [e]
        rw [and_two _ _ _ _ (by omega) (by omega)]
        have : dep N (H / 2) (k / 2) &&& H / 2 = dep N (H / 2) (k / 2) := Nat.eq_of_testBit_eq (fun i => by
          rw [Nat.testBit_and]
          cases q : (dep N (H / 2) (k / 2)).testBit i
          · rfl
          · rw [dep_sub N (H / 2) (k / 2) i q]; rfl)
        rw [this]
        omega
      · obtain ⟨h1, h2⟩ := dep_prev N (H / 2) (k / 2) (by omega)
        rw [show (k + 1) % 2 = 0 by omega, show (k + 1) / 2 = k / 2 + 1 by omega]
        refine ⟨by omega, ?_⟩
        rw [show 0 + 2 * dep N (H / 2) (k / 2 + 1) - 1 = 2 * (dep N (H / 2) (k / 2 + 1) - 1) + 1 by omega]
        conv => lhs; rhs; rw [e]
        rw [and_two _ _ _ _ (by omega) (by omega), h2, q, r]
        omega
theorem dep_last (H : Nat) (hH : H < 2 ^ 32) : dep 32 H (2 ^ pcn H - 1) = H := by
  have hp : 0 < 2 ^ pcn H := Nat.two_pow_pos _
  obtain ⟨k, k1, k2⟩ := dep_onto 32 H H (fun i h => h) hH
  have k1' : k < 2 ^ pcn H := k1
  rcases Nat.lt_or_ge k (2 ^ pcn H - 1) with q | q
  · have h1 := dep_lt 32 H k (2 ^ pcn H - 1) q (show 2 ^ pcn H - 1 < 2 ^ pcn H by omega)
    have h2 := dep_le H (2 ^ pcn H - 1)
    omega
  · rw [show 2 ^ pcn H - 1 = k by omega]; exact k2
section CHOOSE
variable {n p : Nat} {fs sc : Nat → Nat} {F S : Nat → Int32} {on : Nat → Nat}
/-- S can be coloured with the numbers from k on -/
def FromK (fs sc : Nat → Nat) (on : Nat → Nat) (k Z : Nat) : Prop := ∃ col : Nat → Nat, (∀ r, Z.testBit r = true → k ≤ col r ∧ col r < 16 ∧ (on r).testBit (col r) = true) ∧ ∀ r s, Z.testBit r = true → Z.testBit s = true → adj fs sc r s = true → col r ≠ col s
def MayP (fs sc : Nat → Nat) (on : Nat → Nat) (k J : Nat) : Prop := Ind fs sc J ∧ ∀ r, J.testBit r = true → (on r).testBit k = true
theorem from_step {k Z : Nat} (hZ : Z < 2 ^ n) (hk : k < 16) : FromK fs sc on k Z ↔ ∃ J, Sub J Z ∧ MayP fs sc on k J ∧ FromK fs sc on (k + 1) (sd Z J) := by
  constructor
  · rintro ⟨col, c1, c2⟩
    refine ⟨mk (fun r => Z.testBit r && decide (col r = k)) n, fun r hr => ?_, ⟨fun a b ha hb => ?_, fun r hr => ?_⟩, col, fun r hr => ?_, fun r s hr hs => ?_⟩
    · rw [mk_bit] at hr
      simp only [Bool.and_eq_true] at hr
      exact hr.2.1
    · rw [mk_bit] at ha hb
      simp only [Bool.and_eq_true, decide_eq_true_eq] at ha hb
      cases q : adj fs sc a b
      · rfl
      · exact absurd (ha.2.2.trans hb.2.2.symm) (c2 a b ha.2.1 hb.2.1 q)
    · rw [mk_bit] at hr
      simp only [Bool.and_eq_true, decide_eq_true_eq] at hr
      rw [← hr.2.2]
      exact (c1 r hr.2.1).2.2
    · obtain ⟨a, b⟩ := sd_mem.mp hr
      obtain ⟨h1, h2, h3⟩ := c1 r a
      rw [mk_bit, a] at b
      simp only [bit_lt hZ a, decide_true, Bool.true_and, decide_eq_false_iff_not] at b
      exact ⟨by omega, h2, h3⟩
    · exact c2 r s (sd_mem.mp hr).1 (sd_mem.mp hs).1
  · rintro ⟨J, j1, ⟨j2, j3⟩, col, c1, c2⟩
    refine ⟨fun r => if J.testBit r then k else col r, fun r hr => ?_, fun r s hr hs ha => ?_⟩
    · show k ≤ (if J.testBit r then k else col r) ∧ (if J.testBit r then k else col r) < 16 ∧ (on r).testBit (if J.testBit r then k else col r) = true
      cases q : J.testBit r
      · obtain ⟨h1, h2, h3⟩ := c1 r (sd_mem.mpr ⟨hr, q⟩)
        simp only [Bool.false_eq_true, ↓reduceIte]
        exact ⟨by omega, h2, h3⟩
      · simp only [↓reduceIte]
        exact ⟨Nat.le_refl _, hk, j3 r q⟩
    · show (if J.testBit r then k else col r) ≠ (if J.testBit s then k else col s)
      cases q1 : J.testBit r <;> cases q2 : J.testBit s
      · simp only [Bool.false_eq_true, ↓reduceIte]
        exact c2 r s (sd_mem.mpr ⟨hr, q1⟩) (sd_mem.mpr ⟨hs, q2⟩) ha
      · simp only [Bool.false_eq_true, ↓reduceIte]
        have := (c1 r (sd_mem.mpr ⟨hr, q1⟩)).1
        omega
      · simp only [Bool.false_eq_true, ↓reduceIte]
        have := (c1 s (sd_mem.mpr ⟨hs, q2⟩)).1
        omega
      · rw [j2 r s q1 q2] at ha
        exact Bool.noConfusion ha
theorem from_16 (Z : Nat) : FromK fs sc on 16 Z ↔ Z = 0 := by
  constructor
  · rintro ⟨col, c1, -⟩
    refine Nat.eq_of_testBit_eq (fun i => ?_)
    rw [Nat.zero_testBit]
    cases q : Z.testBit i
    · rfl
    · have := c1 i q
      omega
  · rintro rfl
    exact ⟨fun _ => 0, fun r hr => by rw [Nat.zero_testBit] at hr; exact Bool.noConfusion hr, fun r s hr => by rw [Nat.zero_testBit] at hr; exact Bool.noConfusion hr⟩
theorem from_0 (Z : Nat) : FromK fs sc on 0 Z ↔ Poss fs sc on Z := by
  constructor
  · rintro ⟨col, c1, c2⟩
    exact ⟨col, fun r hr => (c1 r hr).2, c2⟩
  · rintro ⟨col, c1, c2⟩
    exact ⟨col, fun r hr => ⟨Nat.zero_le _, c1 r hr⟩, c2⟩
theorem m_may {th only : Nat → Int32} {J k : Nat} (hn : n ≤ 8) (hth : ∀ j, j < n → th j = nI (nb fs sc n j)) (hon : ∀ j, j < n → only j = nI (on j) ∧ on j < 2 ^ 16) (hJ : J < 2 ^ n) (hk : k < 16) : ∃ b : Bool, FX8_mayHave (nI n) th only (nI J) (nI k) = some (if b then 1 else 0) ∧ (b = true ↔ MayP fs sc on k J) := by
  have h8 : (2 : Nat) ^ n ≤ 256 := Nat.pow_le_pow_right (n := 2) (by decide) hn
  unfold FX8_mayHave
  have key := for_inv (f := X8_mayHave_L2 (nI n) th only (nI J) (nI k)) (fun (_ : Unit) i => nI i) n (fun i _ => ∀ r, r < i → J.testBit r = true → (on r).testBit k = true ∧ nb fs sc n r &&& J = 0) (fun o => ∃ b : Bool, o = (if b then 1 else 0) ∧ (b = true ↔ MayP fs sc on k J)) (fun r _ hr hI => ?_) (fun _ hI => ?_) (i := 0) (a := ()) (Nat.zero_le _) (fun r hr => by omega)
  · obtain ⟨o, k1, b, rfl, k2⟩ := key
    exact ⟨b, k1, k2⟩
  · obtain ⟨o1, o2⟩ := hon r hr
    have ht : ((nI J >>> (nI r &&& 31)) &&& 1 = 1) ↔ J.testBit r = true := by
      rw [tb_nI (by omega) (by omega)]
      cases J.testBit r <;> simp
    have ht2 : ((nI (on r) >>> (nI k &&& 31)) &&& 1 = 0) ↔ (on r).testBit k = false := by
      rw [tb_nI (by omega) (by omega)]
      cases (on r).testBit k <;> simp
    have hand : nb fs sc n r &&& J < 2 ^ 31 := by
      have : nb fs sc n r &&& J ≤ J := Nat.and_le_right
      omega
    cases hb : J.testBit r
    · left
      rw [hb] at ht
      refine ⟨(), ?_, fun q hq h1 => ?_⟩
      · simp (disch := omega) only [X8_mayHave_L2, nI_leI, Nat.not_le.mpr hr, ↓reduceIte, ht, Bool.false_eq_true, bnd_at, nI_1]
      · rcases Nat.lt_or_ge q r with z | z
        · exact hI q z h1
        · rw [show q = r by omega, hb] at h1; exact Bool.noConfusion h1
    · rw [hb] at ht
      cases hc : (on r).testBit k
      · right
        rw [hc] at ht2
        refine ⟨0, ?_, false, rfl, fun z => Bool.noConfusion z, fun z => ?_⟩
        · simp (disch := omega) only [X8_mayHave_L2, nI_leI, Nat.not_le.mpr hr, ↓reduceIte, ht, rd_nI, o1, ht2]
        · have := z.2 r hb
          rw [hc] at this
          exact this
      · rw [hc] at ht2
        by_cases hz : nb fs sc n r &&& J = 0
        · left
          have hz' : nI (nb fs sc n r &&& J) = 0 := by rw [hz]; rfl
          refine ⟨(), ?_, fun q hq h1 => ?_⟩
          · simp (disch := omega) only [X8_mayHave_L2, nI_leI, Nat.not_le.mpr hr, ↓reduceIte, ht, rd_nI, o1, ht2, Bool.true_eq_false, hth r hr, fa_and, eq_true hz', bnd_at, nI_1]
          · rcases Nat.lt_or_ge q r with z | z
            · exact hI q z h1
            · rw [show q = r by omega]; exact ⟨hc, hz⟩
        · right
          refine ⟨0, ?_, false, rfl, fun z => Bool.noConfusion z, fun z => ?_⟩
          · simp (disch := omega) only [X8_mayHave_L2, nI_leI, Nat.not_le.mpr hr, ↓reduceIte, ht, rd_nI, o1, ht2, Bool.true_eq_false, hth r hr, fa_and, eq_false (fun z => hz ((eqR0 hand).mp z))]
          · refine absurd ?_ hz
            refine Nat.eq_of_testBit_eq (fun i => ?_)
            rw [Nat.testBit_and, mk_bit, Nat.zero_testBit]
            cases q : J.testBit i
            · simp
            · rw [z.1 r i hb q]; simp
  · refine ⟨1, by simp only [X8_mayHave_L2, Int32.le_refl, ↓reduceIte], true, rfl, fun _ => ⟨fun a b ha hb => ?_, fun r hr => (hI r (bit_lt hJ hr) hr).1⟩, fun _ => rfl⟩
    have := congrArg (fun z => z.testBit b) (hI a (bit_lt hJ ha) ha).2
    simp only [Nat.testBit_and, mk_bit, Nat.zero_testBit, hb, Bool.and_true, bit_lt hJ hb, decide_true, Bool.true_and] at this
    exact this
theorem nar_b (b : Bool) : vp_nar .boolean (if b then (1 : Int32) else 0) = if b then 1 else 0 := by cases b <;> decide
theorem can_eq (N K l2 l3 : Int32) (th only can : Nat → Int32) (v w : Int32) : X8_allCan_L59 N th only can K l2 l3 (v, w) = if w < 0 then ((X8_allCan_J128 N th only can K l2 l3 v).map (fun z => (.inr z))) else (if v = 0 then (rd can 4352 ((256 * (l2 + 1)) + (l3 &&& (w ^^^ -1))) (fun x6 => if x6 = 0 then (X8_allCan_J106 N th only can K l2 l3 w 0) else ((FX8_mayHave N th only w l2).bind (fun o8 => if o8 = 0 then (X8_allCan_J106 N th only can K l2 l3 w 0) else (X8_allCan_J106 N th only can K l2 l3 w 1))))) else ((X8_allCan_J128 N th only can K l2 l3 v).map (fun z => (.inr z)))) := rfl
theorem m_one {th only can : Nat → Int32} {K : Int32} {k Z : Nat} (hn : n ≤ 8) (hth : ∀ j, j < n → th j = nI (nb fs sc n j)) (hon : ∀ j, j < n → only j = nI (on j) ∧ on j < 2 ^ 16) (hZ : Z < 2 ^ n) (hk : k < 16) (hcan : ∀ Y, Y < 2 ^ n → (can (256 * (k + 1) + Y) = 1 ∧ FromK fs sc on (k + 1) Y) ∨ (can (256 * (k + 1) + Y) = 0 ∧ ¬ FromK fs sc on (k + 1) Y)) : ∃ b : Bool, loopO (X8_allCan_L59 (nI n) th only can K (nI k) (nI Z)) (0, nI Z) = some (.inl (upd can (256 * k + Z) (if b then 1 else 0), nI (Z + 1))) ∧ (b = true ↔ FromK fs sc on k Z) := by
  have h8 : (2 : Nat) ^ n ≤ 256 := Nat.pow_le_pow_right (n := 2) (by decide) hn
  have hM : 0 < 2 ^ pcn Z := Nat.two_pow_pos _
  have hZ32 : Z < 2 ^ 32 := by omega
  have idx : ∀ Y, Y ≤ Z → ((256 : Int32) * (nI k + 1)) + nI Y = nI (256 * (k + 1) + Y) := fun Y _ => by
    rw [nI_1, show (256 : Int32) = nI 256 from rfl, ml_nI, nI_add]
  have idx2 : ((256 : Int32) * nI k) + nI Z = nI (256 * k + Z) := by
    rw [show (256 : Int32) = nI 256 from rfl, ml_nI, nI_add]
  have hJ128 : ∀ b : Bool, X8_allCan_J128 (nI n) th only can K (nI k) (nI Z) (if b then 1 else 0) = some (.inl (upd can (256 * k + Z) (if b then 1 else 0), nI (Z + 1))) := fun b => by
    unfold X8_allCan_J128
    rw [nar_b, idx2, wr_nI (by omega) (by decide), bnd_at, nI_1]
  have hJ1 : X8_allCan_J128 (nI n) th only can K (nI k) (nI Z) 1 = some (.inl (upd can (256 * k + Z) 1, nI (Z + 1))) := hJ128 true
  have hJ0 : X8_allCan_J128 (nI n) th only can K (nI k) (nI Z) 0 = some (.inl (upd can (256 * k + Z) 0, nI (Z + 1))) := hJ128 false
  have key := for_inv (f := X8_allCan_L59 (nI n) th only can K (nI k) (nI Z)) (fun (z : Int32 × Int32) (_ : Nat) => z) (2 ^ pcn Z + 1) (fun i z => (i < 2 ^ pcn Z ∧ z = (0, nI (dep 32 Z (2 ^ pcn Z - 1 - i))) ∧ ∀ j, j < i → ¬ (MayP fs sc on k (dep 32 Z (2 ^ pcn Z - 1 - j)) ∧ FromK fs sc on (k + 1) (sd Z (dep 32 Z (2 ^ pcn Z - 1 - j))))) ∨ (z.1 = 1 ∧ FromK fs sc on k Z) ∨ (z = (0, -1) ∧ ¬ FromK fs sc on k Z)) (fun o => ∃ b : Bool, o = .inl (upd can (256 * k + Z) (if b then 1 else 0), nI (Z + 1)) ∧ (b = true ↔ FromK fs sc on k Z)) (fun i z hi hI => ?_) (fun z hI => ?_) (i := 0) (a := (0, nI Z)) (Nat.zero_le _) (Or.inl ⟨hM, by rw [Nat.sub_zero, dep_last Z hZ32], fun j hj => by omega⟩)
  · obtain ⟨o, k1, b, rfl, k2⟩ := key
    exact ⟨b, k1, k2⟩
  · rcases hI with ⟨i1, rfl, i3⟩ | ⟨i1, i2⟩ | ⟨rfl, i2⟩
    · left
      obtain ⟨J, eJ⟩ : ∃ J, J = dep 32 Z (2 ^ pcn Z - 1 - i) := ⟨_, rfl⟩
      have hJs : Sub J Z := by rw [eJ]; exact dep_sub _ _ _
      have hJl := sub_le hJs
      have hsl := sub_le (sub_sd Z J)
      have hnneg : ¬ nI J < (0 : Int32) := by rw [ltR0 (by omega)]; omega
      have next : ∀ t : Int32, (t = 1 ∧ FromK fs sc on k Z) ∨ (t = 0 ∧ ¬ (MayP fs sc on k J ∧ FromK fs sc on (k + 1) (sd Z J))) → ∃ a', X8_allCan_J106 (nI n) th only can K (nI k) (nI Z) (nI J) t = some (.inl a') ∧ ((i + 1 < 2 ^ pcn Z ∧ a' = (0, nI (dep 32 Z (2 ^ pcn Z - 1 - (i + 1)))) ∧ ∀ j, j < i + 1 → ¬ (MayP fs sc on k (dep 32 Z (2 ^ pcn Z - 1 - j)) ∧ FromK fs sc on (k + 1) (sd Z (dep 32 Z (2 ^ pcn Z - 1 - j))))) ∨ (a'.1 = 1 ∧ FromK fs sc on k Z) ∨ (a' = (0, -1) ∧ ¬ FromK fs sc on k Z)) := fun t ht => by
        have hall : ∀ t0 : t = 0 ∧ ¬ (MayP fs sc on k J ∧ FromK fs sc on (k + 1) (sd Z J)), ∀ j, j < i + 1 → ¬ (MayP fs sc on k (dep 32 Z (2 ^ pcn Z - 1 - j)) ∧ FromK fs sc on (k + 1) (sd Z (dep 32 Z (2 ^ pcn Z - 1 - j)))) := fun t0 j hj => by
          rcases Nat.lt_or_ge j i with q | q
          · exact i3 j q
          · rw [show j = i by omega, ← eJ]; exact t0.2
        unfold X8_allCan_J106
        by_cases hl : i + 1 < 2 ^ pcn Z
        · obtain ⟨d1, d2⟩ := dep_prev 32 Z (2 ^ pcn Z - 1 - (i + 1)) (by have : fb_ct (fun i => Z.testBit i) 32 = pcn Z := rfl; rw [this]; omega)
          rw [show 2 ^ pcn Z - 1 - (i + 1) + 1 = 2 ^ pcn Z - 1 - i by omega, ← eJ] at d1 d2
          rw [if_neg (by rw [eqR0 (by omega)]; exact d1)]
          refine ⟨_, rfl, ?_⟩
          obtain ⟨j, rfl⟩ : ∃ j, J = j + 1 := ⟨J - 1, by omega⟩
          rcases ht with ⟨rfl, ht⟩ | ht
          · exact Or.inr (Or.inl ⟨rfl, ht⟩)
          · left
            refine ⟨hl, ?_, hall ht⟩
            rw [ht.1, nI_pred, fa_and, ← d2]
            rfl
        · have hJ0 : J = 0 := by
            rw [eJ, show 2 ^ pcn Z - 1 - i = 0 by omega, dep_0]
          rw [if_pos (by rw [hJ0]; rfl)]
          refine ⟨_, rfl, ?_⟩
          rcases ht with ⟨rfl, ht⟩ | ht
          · exact Or.inr (Or.inl ⟨rfl, ht⟩)
          · right; right
            refine ⟨by rw [ht.1], fun hf => ?_⟩
            obtain ⟨J', q1, q2, q3⟩ := (from_step hZ hk).mp hf
            obtain ⟨m, m1, m2⟩ := dep_onto 32 Z J' q1 hZ32
            have m1' : m < 2 ^ pcn Z := m1
            have := hall ht (2 ^ pcn Z - 1 - m) (by omega)
            rw [show 2 ^ pcn Z - 1 - (2 ^ pcn Z - 1 - m) = m by omega, m2] at this
            exact this ⟨q2, q3⟩
      rw [← eJ]
      rcases hcan (sd Z J) (by omega) with ⟨c1, c2⟩ | ⟨c1, c2⟩
      · obtain ⟨b, m1, m2⟩ := m_may (fs := fs) (sc := sc) (on := on) hn hth hon (J := J) (k := k) (by omega) hk
        cases hb : b
        · rw [hb] at m1 m2
          obtain ⟨a', q1, q2⟩ := next 0 (Or.inr ⟨rfl, fun z => Bool.noConfusion (m2.mpr z.1)⟩)
          refine ⟨a', ?_, q2⟩
          rw [can_eq, if_neg hnneg, if_pos rfl, andnot_nI, idx _ hsl, rd_nI (by omega) (by decide), c1, if_neg (by decide), m1, Option.bind_some, if_pos (by decide), q1]
        · rw [hb] at m1 m2
          obtain ⟨a', q1, q2⟩ := next 1 (Or.inl ⟨rfl, (from_step hZ hk).mpr ⟨J, hJs, m2.mp rfl, c2⟩⟩)
          refine ⟨a', ?_, q2⟩
          rw [can_eq, if_neg hnneg, if_pos rfl, andnot_nI, idx _ hsl, rd_nI (by omega) (by decide), c1, if_neg (by decide), m1, Option.bind_some, if_neg (by decide), q1]
      · obtain ⟨a', q1, q2⟩ := next 0 (Or.inr ⟨rfl, fun z => c2 z.2⟩)
        refine ⟨a', ?_, q2⟩
        rw [can_eq, if_neg hnneg, if_pos rfl, andnot_nI, idx _ hsl, rd_nI (by omega) (by decide), c1, if_pos rfl, q1]
    · right
      refine ⟨_, ?_, true, rfl, fun _ => i2, fun _ => rfl⟩
      obtain ⟨z1, z2⟩ := z
      simp only at i1
      rw [i1, can_eq, hJ1, if_neg (by decide : ¬ (1 : Int32) = 0)]
      split <;> rfl
    · right
      refine ⟨_, ?_, false, rfl, fun z => Bool.noConfusion z, fun z => absurd z i2⟩
      rw [can_eq, if_pos (by decide), hJ0]
      rfl
  · rcases hI with ⟨i1, -, -⟩ | ⟨i1, i2⟩ | ⟨rfl, i2⟩
    · omega
    · refine ⟨_, ?_, true, rfl, fun _ => i2, fun _ => rfl⟩
      obtain ⟨z1, z2⟩ := z
      simp only at i1
      rw [i1, can_eq, hJ1, if_neg (by decide : ¬ (1 : Int32) = 0)]
      split <;> rfl
    · refine ⟨_, ?_, false, rfl, fun z => Bool.noConfusion z, fun z => absurd z i2⟩
      rw [can_eq, if_pos (by decide), hJ0]
      rfl
end CHOOSE
