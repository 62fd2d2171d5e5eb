/-! ===== Pick: taking out as many as can ===== -/
theorem nar0 : vp_nar .boolean (0 : Int32) = 0 := by decide
theorem nar1 : vp_nar .boolean (1 : Int32) = 1 := by decide
section TAKE
variable {n : Nat} {fs sc : Nat → Nat} {Bs : Nat → Int32}
def Ind (fs sc : Nat → Nat) (I : Nat) : Prop := ∀ a b, I.testBit a = true → I.testBit b = true → adj fs sc a b = false
abbrev nb (fs sc : Nat → Nat) (n r : Nat) : Nat := mk (fun s => adj fs sc r s) n
theorem sub_lt {a b k : Nat} (h : Sub a b) (hb : b < 2 ^ k) : a < 2 ^ k := Nat.lt_of_le_of_lt (sub_le h) hb
theorem sub_sd (a b : Nat) : Sub (sd a b) a := fun i h => by
  rw [sd_bit] at h
  simp only [Bool.and_eq_true] at h
  exact h.1
theorem bit_lt {a k i : Nat} (ha : a < 2 ^ k) (h : a.testBit i = true) : i < k := by
  rcases Nat.lt_or_ge i k with q | q
  · exact q
  · rw [Nat.testBit_lt_two_pow (Nat.lt_of_lt_of_le ha (Nat.pow_le_pow_right (by decide) q))] at h
    exact Bool.noConfusion h
def Made (fs sc : Nat → Nat) (left left' : Nat → Int32) (rest cand : Nat) : Prop := ∀ s, left' s = left s ∨ (left' s = 1 ∧ ∃ I, Ind fs sc I ∧ Sub I cand ∧ s = sd rest I)
def Full (fs sc : Nat → Nat) (left : Nat → Int32) (rest cand : Nat) : Prop := ∀ I, Ind fs sc I → Sub I cand → ∃ s, left s = 1 ∧ Sub s (sd rest I)
theorem made_up {left left' : Nat → Int32} {rest cand : Nat} (h : Made fs sc left left' rest cand) {s : Nat} (hs : left s = 1) : left' s = 1 := by
  rcases h s with q | q
  · rw [q]; exact hs
  · exact q.1
theorem full_up {left left' : Nat → Int32} {rest cand rest' cand' : Nat} (h : Made fs sc left left' rest cand) (hf : Full fs sc left rest' cand') : Full fs sc left' rest' cand' := fun I h1 h2 => by
  obtain ⟨s, s1, s2⟩ := hf I h1 h2
  exact ⟨s, made_up h s1, s2⟩
/-- what stays of the takers when u is taken -/
abbrev cutc (fs sc : Nat → Nat) (n cand u : Nat) : Nat := sd cand (2 ^ u ||| nb fs sc n u)
theorem cutc_bit {cand u : Nat} (hc : cand < 2 ^ n) (i : Nat) : (cutc fs sc n cand u).testBit i = (cand.testBit i && !(decide (i = u) || adj fs sc u i)) := by
  rw [sd_bit, Nat.testBit_or, Nat.testBit_two_pow, mk_bit]
  by_cases h : cand.testBit i = true
  · have := bit_lt hc h
    rw [h]
    simp only [Bool.true_and, this, decide_true]
    congr 2
    by_cases e : u = i
    · simp [e]
    · simp [e, Ne.symm e]
  · have : cand.testBit i = false := by cases q : cand.testBit i; rfl; exact absurd q h
    rw [this]; rfl
theorem adj_irr (u : Nat) : adj fs sc u u = false := by unfold adj; simp
theorem cut_pc {cand u : Nat} (hc : cand < 2 ^ n) (hu : cand.testBit u = true) (hn : n ≤ 32) : pcn (cutc fs sc n cand u) + 1 ≤ pcn cand := by
  have hlt := bit_lt hc hu
  unfold pcn
  refine ct_lt (k := u) (fun j _ hj => ?_) (by omega) ?_ hu
  · rw [cutc_bit hc] at hj
    simp only [Bool.and_eq_true] at hj
    exact hj.1
  · rw [cutc_bit hc]; simp
theorem ind_cut {cand u I : Nat} (hc : cand < 2 ^ n) (hI : Ind fs sc I) (hs : Sub I cand) (hu : I.testBit u = true) : Ind fs sc (sd I (2 ^ u)) ∧ Sub (sd I (2 ^ u)) (cutc fs sc n cand u) := by
  refine ⟨fun a b ha hb => hI a b (sub_sd _ _ a ha) (sub_sd _ _ b hb), fun i hi => ?_⟩
  rw [sd_bit, Nat.testBit_two_pow] at hi
  simp only [Bool.and_eq_true, Bool.not_eq_true', decide_eq_false_iff_not] at hi
  rw [cutc_bit hc, hs i hi.1, hI u i hu hi.1]
  simp [Ne.symm hi.2]
theorem takeOut_ok (hn : n ≤ 12) (hB : BsOK n fs sc Bs) : ∀ (d rest cand dp : Nat) (left : Nat → Int32), rest < 2 ^ n → Sub cand rest → pcn cand < d → dp + pcn cand ≤ 12 → ∃ left', FX4_takeOut d left (nI n) Bs (nI rest) (nI cand) (nI dp) = some left' ∧ Made fs sc left left' rest cand ∧ Full fs sc left' rest cand := by
  intro d
  induction d with
  | zero => intro rest cand dp left h1 h2 h3; omega
  | succ d ih =>
    intro rest cand dp left h1 h2 h3 h4
    have h12 : (2 : Nat) ^ n ≤ 4096 := Nat.pow_le_pow_right (n := 2) (by decide) hn
    have hcl := sub_lt h2 h1
    have hr0 : sd rest 0 = rest := by
      refine Nat.eq_of_testBit_eq (fun i => ?_)
      rw [sd_bit, Nat.zero_testBit]; simp
    by_cases h0 : cand = 0
    · subst h0
      refine ⟨upd left rest 1, ?_, fun s => ?_, fun I _ hs => ⟨rest, ?_, ?_⟩⟩
      · show BX4_takeOut (FX4_takeOut d) left (nI n) Bs (nI rest) (nI 0) (nI dp) = _
        unfold BX4_takeOut
        rw [if_pos (show nI 0 = (0 : Int32) from rfl), nar1, wr_nI (by omega) (by decide)]
        unfold X4_takeOut_J11
        rw [if_pos (show nI 0 = (0 : Int32) from rfl)]
      · by_cases e : s = rest
        · right
          refine ⟨by rw [upd_at, if_pos e], 0, fun a b ha => by rw [Nat.zero_testBit] at ha; exact Bool.noConfusion ha, fun i hi => hi, by rw [hr0, e]⟩
        · left; rw [upd_at, if_neg e]
      · rw [upd_at, if_pos rfl]
      · have : I = 0 := by
          refine Nat.eq_of_testBit_eq (fun i => ?_)
          cases e : I.testBit i
          · rw [Nat.zero_testBit]
          · exact (hs i e).symm
        rw [this, hr0]
        exact fun i hi => hi
    · obtain ⟨v0, e0⟩ : ∃ v0, v0 = fa_first (fun i => cand.testBit i) 12 := ⟨_, rfl⟩
      obtain ⟨q1, q2⟩ := low_bit hcl h0 (by omega)
      rw [← e0] at q1 q2
      have q3 : ∀ j, j < v0 → cand.testBit j = false := fun j hj => fa_first_no (fun i => cand.testBit i) 12 j (by rw [← e0]; exact hj)
      have hpc : 1 ≤ pcn cand := by
        have := cut_pc (fs := fs) (sc := sc) hcl q2 (by omega)
        omega
      obtain ⟨Ch, eCh⟩ : ∃ Ch, Ch = (2 ^ v0 ||| nb fs sc n v0) &&& cand := ⟨_, rfl⟩
      have hCh : ∀ i, Ch.testBit i = (cand.testBit i && (decide (i = v0) || adj fs sc v0 i)) := fun i => by
        rw [eCh, Nat.testBit_and, Nat.testBit_or, Nat.testBit_two_pow, mk_bit]
        by_cases h : cand.testBit i = true
        · have := bit_lt hcl h
          rw [h]
          simp only [Bool.and_true, Bool.true_and, this, decide_true]
          congr 1
          by_cases e : v0 = i
          · simp [e]
          · simp [e, Ne.symm e]
        · have : cand.testBit i = false := by cases q : cand.testBit i; rfl; exact absurd q h
          rw [this]; simp
      have hChl : Ch < 2 ^ n := by rw [eCh, Nat.and_comm]; exact and_lt_l hcl
      have hCh31 : Ch < 2 ^ 31 := by omega
      have hCh0 : Ch ≠ 0 := fun e => by
        have := hCh v0
        rw [e, Nat.zero_testBit, q2] at this
        simp at this
      have hnz : ¬ nI Ch = (0 : Int32) := by rw [eqR0 hCh31]; exact hCh0
      -- one choice
      have step : ∀ (i : Nat) (g : Nat → Int32), i < n → Made fs sc left g rest cand → (∀ u, u < i → Ch.testBit u = true → Full fs sc g (rest ^^^ 2 ^ u) (cutc fs sc n cand u)) → ∃ g', X4_takeOut_J73 (FX4_takeOut d) g (nI n) Bs (nI rest) (nI cand) (nI dp) (nI Ch) (nI i) = some (.inl (g', nI Ch, nI (i + 1))) ∧ Made fs sc left g' rest cand ∧ ∀ u, u < i + 1 → Ch.testBit u = true → Full fs sc g' (rest ^^^ 2 ^ u) (cutc fs sc n cand u) := by
        intro i g hi hM hF
        cases hb : Ch.testBit i
        · refine ⟨g, ?_, hM, fun u hu hc => ?_⟩
          · unfold X4_takeOut_J73
            rw [isIn_nI hCh31 (by omega), hb, Option.bind_some]
            simp only [Bool.false_eq_true, ↓reduceIte, bnd_at, nI_1]
          · refine hF u ?_ hc
            rcases Nat.lt_or_ge u i with q | q
            · exact q
            · rw [show u = i by omega, hb] at hc; exact Bool.noConfusion hc
        · have hci : cand.testBit i = true := by
            rw [hCh i] at hb
            simp only [Bool.and_eq_true] at hb
            exact hb.1
          have hri := h2 i hci
          have hpc2 := cut_pc (fs := fs) (sc := sc) hcl hci (by omega)
          have hsub : Sub (cutc fs sc n cand i) (rest ^^^ 2 ^ i) := fun j hj => by
            rw [cutc_bit hcl] at hj
            simp only [Bool.and_eq_true, Bool.not_eq_true', Bool.or_eq_false_iff, decide_eq_false_iff_not] at hj
            rw [xor_bit, h2 j hj.1]
            simp [hj.2.1]
          have hrl : rest ^^^ 2 ^ i < 2 ^ n := Nat.lt_trans (xor_low hri) h1
          obtain ⟨g', k1, k2, k3⟩ := ih (rest ^^^ 2 ^ i) (cutc fs sc n cand i) (dp + 1) g hrl hsub (by omega) (by omega)
          have hM2 : Made fs sc left g' rest cand := fun s => by
            rcases k2 s with q | ⟨q, I, i1, i2, i3⟩
            · rw [q]; exact hM s
            · right
              refine ⟨q, I ||| 2 ^ i, fun a b ha hb => ?_, fun j hj => ?_, ?_⟩
              · rw [fb_bit_set] at ha hb
                simp only [Bool.or_eq_true, decide_eq_true_eq] at ha hb
                have nadj : ∀ z, I.testBit z = true → adj fs sc i z = false := fun z hz => by
                  have := i2 z hz
                  rw [cutc_bit hcl] at this
                  simp only [Bool.and_eq_true, Bool.not_eq_true', Bool.or_eq_false_iff] at this
                  exact this.2.2
                rcases ha with ha | ha <;> rcases hb with hb | hb
                · exact i1 a b ha hb
                · rw [hb, adj_symm]; exact nadj a ha
                · rw [ha]; exact nadj b hb
                · rw [ha, hb]; exact adj_irr i
              · rw [fb_bit_set] at hj
                simp only [Bool.or_eq_true, decide_eq_true_eq] at hj
                rcases hj with hj | hj
                · exact sub_sd _ _ j (i2 j hj)
                · rw [hj]; exact hci
              · rw [i3]
                refine Nat.eq_of_testBit_eq (fun j => ?_)
                rw [sd_bit, sd_bit, xor_bit, fb_bit_set]
                by_cases e : j = i
                · rw [e, hri]; simp
                · simp [e]
          refine ⟨g', ?_, hM2, fun u hu hc => ?_⟩
          · unfold X4_takeOut_J73
            rw [isIn_nI hCh31 (by omega), hb, Option.bind_some]
            rw [if_neg (show ¬ (if true = true then (1 : Int32) else 0) = 0 by decide), rd_nI (by omega) (by decide), hB i hi, sh_nI (by omega), fb_xorI, fa_or, andnot_nI, nI_1, k1, Option.bind_some]
            simp only [bnd_at, nI_1]
          · rcases Nat.lt_or_ge u i with q | q
            · exact full_up k2 (hF u q hc)
            · rw [show u = i by omega]; exact k3
      have key := for_inv (f := X4_takeOut_L28 (FX4_takeOut d) (nI n) Bs (nI rest) (nI cand) (nI dp)) (fun (g : Nat → Int32) i => (g, (if i ≤ v0 then (0 : Int32) else nI Ch), nI i)) n (fun i g => Made fs sc left g rest cand ∧ ∀ u, u < i → Ch.testBit u = true → Full fs sc g (rest ^^^ 2 ^ u) (cutc fs sc n cand u)) (fun g => Made fs sc left g rest cand ∧ ∀ u, u < n → Ch.testBit u = true → Full fs sc g (rest ^^^ 2 ^ u) (cutc fs sc n cand u)) (fun i g hi hI => ?_) (fun g hI => ?_) (i := 0) (a := left) (Nat.zero_le _) ⟨fun s => Or.inl rfl, fun u hu => by omega⟩
      · obtain ⟨g, k1, k2, k3⟩ := key
        refine ⟨g, ?_, k2, fun I i1 i2 => ?_⟩
        · show BX4_takeOut (FX4_takeOut d) left (nI n) Bs (nI rest) (nI cand) (nI dp) = _
          have hc0 : ¬ nI cand = (0 : Int32) := by rw [eqR0 (by omega)]; exact h0
          unfold BX4_takeOut X4_takeOut_J11
          rw [if_neg hc0, if_neg hc0, if_pos ((ltR12 (by omega)).mpr (by omega))]
          rw [if_pos (Nat.zero_le _)] at k1
          exact k1
        · -- a choice that goes with I
          have use : ∀ u, Ch.testBit u = true → (∃ J, Ind fs sc J ∧ Sub J (cutc fs sc n cand u) ∧ ∀ j, I.testBit j = true → j = u ∨ J.testBit j = true) → ∃ s, g s = 1 ∧ Sub s (sd rest I) := fun u hu hJ => by
            obtain ⟨J, j1, j2, j3⟩ := hJ
            obtain ⟨s, s1, s2⟩ := k3 u (bit_lt hChl hu) hu J j1 j2
            refine ⟨s, s1, fun i hi => ?_⟩
            have := s2 i hi
            rw [sd_bit, xor_bit] at this
            have hru : rest.testBit u = true := by
              rw [hCh u] at hu
              simp only [Bool.and_eq_true] at hu
              exact h2 u hu.1
            rw [sd_bit]
            have hiu : i ≠ u := fun e => by rw [e, hru] at this; simp at this
            simp only [hiu, decide_false, Bool.xor_false, Bool.and_eq_true, Bool.not_eq_true'] at this
            simp only [Bool.and_eq_true, Bool.not_eq_true']
            refine ⟨this.1, ?_⟩
            cases hI : I.testBit i
            · rfl
            · rcases j3 i hI with e | e
              · exact absurd e hiu
              · rw [this.2] at e; exact Bool.noConfusion e
          by_cases hx : ∃ u, I.testBit u = true ∧ Ch.testBit u = true
          · obtain ⟨u, u1, u2⟩ := hx
            obtain ⟨w1, w2⟩ := ind_cut hcl i1 i2 u1
            refine use u u2 ⟨sd I (2 ^ u), w1, w2, fun j hj => ?_⟩
            by_cases e : j = u
            · exact Or.inl e
            · right
              rw [sd_bit, hj, Nat.testBit_two_pow]
              simp [Ne.symm e]
          · refine use v0 (by rw [hCh, q2]; simp) ⟨I, i1, fun j hj => ?_, fun j hj => Or.inr hj⟩
            rw [cutc_bit hcl, i2 j hj]
            have := hx
            have hnc : Ch.testBit j = false := by
              cases e : Ch.testBit j
              · rfl
              · exact absurd ⟨j, hj, e⟩ hx
            rw [hCh, i2 j hj] at hnc
            simpa using hnc
      · left
        obtain ⟨hM, hF⟩ := hI
        rcases Nat.lt_trichotomy i v0 with q | q | q
        · refine ⟨g, ?_, hM, fun u hu hc => ?_⟩
          · rw [if_pos (by omega), if_pos (by omega)]
            unfold X4_takeOut_L28
            simp (disch := omega) only [nI_leI, Nat.not_le.mpr hi, ↓reduceIte, isIn_nI, q3 i q, Bool.false_eq_true, Option.bind_some, X4_takeOut_J73]
            rw [show (0 : Int32) = nI 0 from rfl, isIn_nI (by decide) (by omega), Nat.zero_testBit, Option.bind_some]
            simp only [Bool.false_eq_true, ↓reduceIte, bnd_at, nI_1]
            rfl
          · have : u < v0 := by omega
            have := q3 u this
            rw [hCh u, this] at hc
            exact Bool.noConfusion hc
        · obtain ⟨g', s1, s2, s3⟩ := step i g hi hM hF
          refine ⟨g', ?_, s2, s3⟩
          rw [if_pos (by omega), if_neg (by omega), ← s1]
          unfold X4_takeOut_L28
          rw [q] at hi ⊢
          rw [if_neg (by rw [nI_leI (by omega) (by omega)]; exact Nat.not_le.mpr hi), if_pos rfl, isIn_nI (by omega) (by omega), q2, Option.bind_some, if_neg (show ¬ (if true = true then (1 : Int32) else 0) = 0 by decide), rd_nI (by omega) (by decide), hB v0 hi, sh_nI (by omega), fa_or, fa_and, bnd_at, ← eCh]
        · obtain ⟨g', s1, s2, s3⟩ := step i g hi hM hF
          refine ⟨g', ?_, s2, s3⟩
          rw [if_neg (by omega), if_neg (by omega), ← s1]
          unfold X4_takeOut_L28
          rw [if_neg (by rw [nI_leI (by omega) (by omega)]; exact Nat.not_le.mpr hi), if_neg hnz]
      · refine ⟨g, ?_, hI⟩
        simp only [X4_takeOut_L28, Int32.le_refl, ↓reduceIte]
end TAKE
