/-! ===== need, heap, full ===== -/
section NEED2
variable {n p : Nat} {fs sc : Nat → Nat} {F S : Nat → Int32}
theorem bit_mod (x : Nat) : x % 2 = if x.testBit 0 then 1 else 0 := by
  have h := Nat.testBit_eq_decide_div_mod_eq (x := x) (i := 0)
  rw [h, Nat.pow_zero, Nat.div_one]
  by_cases q : x % 2 = 1
  · simp [q]
  · simp [q]; omega
theorem shr_and {Z a b : Nat} : (Z / 2 ^ a &&& Z / 2 ^ b) % 2 = if Z.testBit a && Z.testBit b then 1 else 0 := by
  have e : ∀ k, (Z / 2 ^ k).testBit 0 = Z.testBit k := fun k => by
    rw [Nat.testBit_eq_decide_div_mod_eq, Nat.testBit_eq_decide_div_mod_eq, Nat.pow_zero, Nat.div_one]
  rw [bit_mod, Nat.testBit_and, e, e]
theorem ndn_le {Z : Nat} (h3 : 3 ≤ pcn Z) (hn : n ≤ 24) (hp : pcn Z ≤ 32) : ndn fs sc n Z ≤ 60 := by
  unfold ndn
  have := ins_le (fs := fs) (sc := sc) (n := n) Z
  refine Nat.le_trans (Nat.div_le_self _ _) ?_
  omega
theorem m_needOf (hE : EndsOK n p fs sc F S) {Z : Nat} (hZ : Z < 2 ^ 24) (h3 : 3 ≤ pcn Z) : FX8_needOf (nI n) F S (nI Z) = some (nI (ndn fs sc n Z)) := by
  have hn := hE.1
  have hp := hE.2.1
  have hpc := pcn_le hZ (by decide)
  have hin := ins_le (fs := fs) (sc := sc) (n := n) Z
  unfold FX8_needOf
  rw [m_ones hZ, Option.bind_some]
  refine for_fun (fun i => (nI (fb_ct (insP fs sc Z) i), nI i)) 0 n (Nat.zero_le _) (fun i _ hi => ?_) ?_
  · obtain ⟨e1, e2, e3, e4, -⟩ := hE.2.2 i hi
    rw [fb_ct_succ]
    simp (disch := omega) only [X8_needOf_L10, nI_leI, Nat.not_le.mpr hi, ↓reduceIte, rd_nI, e1, e2, shr_nI, fa_and, bit1_nI, shr_and, nI_add, bnd_at, nI_1]
    rfl
  · simp (disch := omega) only [X8_needOf_L10, Int32.le_refl, ↓reduceIte, X8_needOf_J49]
    rw [show (2 : Int32) = nI 2 from rfl, dv_nI (by omega) (by decide) (by decide), nI_add]
    obtain ⟨m, hm⟩ : ∃ m, fb_ct (insP fs sc Z) n + pcn Z / 2 = m + 1 := ⟨fb_ct (insP fs sc Z) n + pcn Z / 2 - 1, by omega⟩
    unfold ins at hin
    rw [hm, nI_pred, dv_nI (by omega) (by omega) (by omega)]
    unfold ndn ins
    rw [hm]
    rfl
theorem x_needFor {Z : Nat} (hn : n ≤ 24) (h3 : 3 ≤ pcn Z) (hpc : pcn Z ≤ 32) : FX7_needFor (nI (ins fs sc n Z)) (nI (pcn Z)) = some (nI (ndn fs sc n Z)) := by
  have hin := ins_le (fs := fs) (sc := sc) (n := n) Z
  unfold FX7_needFor
  rw [show (2 : Int32) = nI 2 from rfl, dv_nI (by omega) (by decide) (by decide)]
  rw [if_neg (by rw [eqR0 (by omega)]; omega), nI_add]
  obtain ⟨m, hm⟩ : ∃ m, ins fs sc n Z + pcn Z / 2 = m + 1 := ⟨ins fs sc n Z + pcn Z / 2 - 1, by omega⟩
  rw [hm, nI_pred, dv_nI (by omega) (by omega) (by omega)]
  unfold ndn
  rw [hm]
  rfl
theorem x_roadsInside (hE : EndsOK n p fs sc F S) {Z : Nat} (hZ : Z < 2 ^ 31) : FX3_roadsInside (nI n) F S (nI Z) = some (nI (ins fs sc n Z)) := by
  have hn := hE.1
  have hp := hE.2.1
  unfold FX3_roadsInside
  refine for_fun (fun i => (nI (fb_ct (insP fs sc Z) i), nI i)) 0 n (Nat.zero_le _) (fun i _ hi => ?_) ?_
  · obtain ⟨e1, e2, e3, e4, -⟩ := hE.2.2 i hi
    rw [fb_ct_succ]
    simp (disch := omega) only [X3_roadsInside_L4, nI_leI, Nat.not_le.mpr hi, ↓reduceIte, rd_nI, e1, e2, isIn_nI hZ, Option.bind_some, b1, bnd_at, nI_1]
    unfold insP
    cases Z.testBit (fs i) <;> cases Z.testBit (sc i) <;> simp
  · simp only [X3_roadsInside_L4, Int32.le_refl, ↓reduceIte]
    rfl
/-- the least heap of those that need most, among those below k -/
def Best (fs sc : Nat → Nat) (n lo hi : Nat) (v : Int32) : Prop := (v = -1 ∧ ∀ j, lo ≤ j → j < hi → pcn j < 3) ∨ ∃ b, lo ≤ b ∧ b < hi ∧ 3 ≤ pcn b ∧ v = nI b ∧ (∀ j, lo ≤ j → j < hi → 3 ≤ pcn j → ndn fs sc n j ≤ ndn fs sc n b) ∧ ∀ j, lo ≤ j → j < b → 3 ≤ pcn j → ndn fs sc n j < ndn fs sc n b
theorem best_one {lo hi : Nat} {v w : Int32} (h1 : Best fs sc n lo hi v) (h2 : Best fs sc n lo hi w) : v = w := by
  rcases h1 with ⟨rfl, a⟩ | ⟨b, b1, b2, b3, rfl, b4, b5⟩ <;> rcases h2 with ⟨rfl, a'⟩ | ⟨c, c1, c2, c3, rfl, c4, c5⟩
  · rfl
  · have := a c c1 c2; omega
  · have := a' b b1 b2; omega
  · have h1 := b4 c c1 c2 c3
    have h2 := c4 b b1 b2 b3
    rcases Nat.lt_trichotomy b c with q | q | q
    · have := c5 b b1 q b3; omega
    · rw [q]
    · have := b5 c c1 q c3; omega
def ndv (fs sc : Nat → Nat) (n : Nat) (v : Int32) (w : Int32) : Prop := (v = -1 ∧ w = -1) ∨ ∃ b, b < 4096 ∧ v = nI b ∧ w = nI (ndn fs sc n b)
theorem pc_small {Z : Nat} (h : Z < 4096) : pcn Z ≤ 12 := pcn_le (k := 12) h (by decide)
theorem x_neediest {At H : Nat → Int32} (hE : EndsOK n p fs sc F S) (hA : AtOK n p fs sc At) : ∃ v H', FX2_neediest H (nI p) At = some (v, H') ∧ Best fs sc n 0 (2 ^ p) v ∧ (v = -1 ∨ ∀ Z, Z < 2 ^ p → H' Z = nI (ins fs sc n Z)) := by
  have hn := hE.1
  have hp := hE.2.1
  have h12 : (2 : Nat) ^ p ≤ 4096 := Nat.pow_le_pow_right (n := 2) (by decide) hp
  have hp1 : 0 < 2 ^ p := Nat.two_pow_pos p
  unfold FX2_neediest
  by_cases h3 : 3 ≤ p
  · rw [if_pos ((leL3 (by omega)).mpr h3)]
    obtain ⟨H', g1, g2⟩ := x_inside (H := H) hE hA
    rw [g1, Option.bind_some]
    have key := for_inv (f := X2_neediest_L23 H' (nI p)) (fun (z : Int32 × Int32) i => (z.1, z.2, nI i)) (2 ^ p) (fun i z => Best fs sc n 0 i z.1 ∧ ndv fs sc n z.1 z.2) (fun r => Best fs sc n 0 (2 ^ p) r.1 ∧ r.2 = H') (fun i z hi hI => ?_) (fun z hI => ?_) (i := 0) (a := (-1, -1)) (Nat.zero_le _) ⟨Or.inl ⟨rfl, fun j _ h => by omega⟩, Or.inl ⟨rfl, rfl⟩⟩
    · obtain ⟨r, k1, k2, k3⟩ := key
      obtain ⟨v, w⟩ := r
      simp only at k2 k3
      rw [k3] at k1
      exact ⟨v, H', k1, k2, Or.inr g2⟩
    · left
      obtain ⟨v, w⟩ := z
      obtain ⟨hb, hv⟩ := hI
      simp only at hb hv
      have hnle : ¬ nI (2 ^ p - 1) < nI i := by rw [nI_ltI (by omega) (by omega)]; omega
      have hpc := pc_small (Z := i) (by omega)
      by_cases h3i : pcn i < 3
      · refine ⟨(v, w), ?_, ?_, hv⟩
        · simp (disch := omega) only [X2_neediest_L23, FX3_allPosts, ones_nI, Option.bind_some, hnle, ↓reduceIte, bc_nI, ltR3, h3i, bnd_at, nI_1]
        · rcases hb with ⟨rfl, a⟩ | ⟨b, b1, b2, b3, rfl, b4, b5⟩
          · refine Or.inl ⟨rfl, fun j h0 hj => ?_⟩
            by_cases e : j = i
            · rw [e]; exact h3i
            · exact a j h0 (by omega)
          · refine Or.inr ⟨b, b1, by omega, b3, rfl, fun j h0 hj h => ?_, b5⟩
            by_cases e : j = i
            · rw [e] at h; omega
            · exact b4 j h0 (by omega) h
      · have hnd := x_needFor (fs := fs) (sc := sc) (Z := i) hn (by omega) (by omega)
        have hnb := ndn_le (fs := fs) (sc := sc) (n := n) (Z := i) (by omega) hn (by omega)
        by_cases hw : nI (ndn fs sc n i) ≤ w
        · refine ⟨(v, w), ?_, ?_, hv⟩
          · simp (disch := omega) only [X2_neediest_L23, FX3_allPosts, ones_nI, Option.bind_some, hnle, ↓reduceIte, bc_nI, ltR3, h3i, rd_nI, g2 i hi, hnd, hw, bnd_at, nI_1]
          · rcases hv with ⟨rfl, rfl⟩ | ⟨b', hb', e1, rfl⟩
            · exact absurd hw (m1_le (by omega))
            · rcases hb with ⟨rfl, a⟩ | ⟨b, b1, b2, b3, rfl, b4, b5⟩
              · exact absurd e1.symm (m1_ne (by omega))
              · have e2 := (nI_eq (by omega) (by omega)).mp e1
                subst e2
                have hnb' := ndn_le (fs := fs) (sc := sc) (n := n) (Z := b) b3 hn (by have := pc_small hb'; omega)
                refine Or.inr ⟨b, b1, by omega, b3, rfl, fun j h0 hj h => ?_, b5⟩
                by_cases e : j = i
                · rw [e]; exact (nI_leI (by omega) (by omega)).mp hw
                · exact b4 j h0 (by omega) h
        · refine ⟨(nI i, nI (ndn fs sc n i)), ?_, ?_, Or.inr ⟨i, by omega, rfl, rfl⟩⟩
          · simp (disch := omega) only [X2_neediest_L23, FX3_allPosts, ones_nI, Option.bind_some, hnle, ↓reduceIte, bc_nI, ltR3, h3i, rd_nI, g2 i hi, hnd, hw, bnd_at, nI_1]
          · have hmax : ∀ j, 0 ≤ j → j < i → 3 ≤ pcn j → ndn fs sc n j < ndn fs sc n i := fun j h0 hj h => by
              rcases hv with ⟨rfl, rfl⟩ | ⟨b', hb', e1, rfl⟩
              · rcases hb with ⟨-, a⟩ | ⟨b, b1, b2, b3, e, b4, b5⟩
                · have := a j h0 hj; omega
                · exact absurd e.symm (m1_ne (by omega))
              · rcases hb with ⟨rfl, a⟩ | ⟨b, b1, b2, b3, rfl, b4, b5⟩
                · exact absurd e1.symm (m1_ne (by omega))
                · have e2 := (nI_eq (by omega) (by omega)).mp e1
                  subst e2
                  have hnb' := ndn_le (fs := fs) (sc := sc) (n := n) (Z := b) b3 hn (by have := pc_small hb'; omega)
                  rw [nI_leI (by omega) (by omega)] at hw
                  have := b4 j h0 hj h
                  omega
            refine Or.inr ⟨i, Nat.zero_le _, by omega, by omega, rfl, fun j h0 hj h => ?_, hmax⟩
            by_cases e : j = i
            · rw [e]; exact Nat.le_refl _
            · exact Nat.le_of_lt (hmax j h0 (by omega) h)
    · have hlt : nI (2 ^ p - 1) < nI (2 ^ p) := by rw [nI_ltI (by omega) (by omega)]; omega
      refine ⟨(z.1, H'), ?_, hI.1, rfl⟩
      simp (disch := omega) only [X2_neediest_L23, FX3_allPosts, ones_nI, Option.bind_some, hlt, ↓reduceIte]
  · rw [if_neg (by rw [leL3 (by omega)]; exact h3)]
    refine ⟨-1, H, rfl, Or.inl ⟨rfl, fun j _ hj => ?_⟩, Or.inl rfl⟩
    have := pcn_le hj (by omega)
    omega
theorem m_heap (hE : EndsOK n p fs sc F S) : ∃ v, FX8_heap (nI p) (nI n) F S = some v ∧ Best fs sc n 0 (2 ^ p) v := by
  have hn := hE.1
  have hp := hE.2.1
  have h12 : (2 : Nat) ^ p ≤ 4096 := Nat.pow_le_pow_right (n := 2) (by decide) hp
  have hp1 : 0 < 2 ^ p := Nat.two_pow_pos p
  unfold FX8_heap
  rw [ones_nI (by omega), bnd_at]
  have p0 : pcn 0 < 3 := by decide
  have key := for_inv (f := X8_heap_L11 (nI n) F S) (fun (z : Int32) i => (z, nI (2 ^ p - 1 - i))) (2 ^ p - 1) (fun i z => Best fs sc n (2 ^ p - i) (2 ^ p) z) (fun r => Best fs sc n 0 (2 ^ p) r) (fun i z hi hI => ?_) (fun z hI => ?_) (i := 0) (a := -1) (Nat.zero_le _) (Or.inl ⟨rfl, fun j h h' => by omega⟩)
  · rw [Nat.sub_zero] at key
    exact key
  · left
    obtain ⟨k, hk⟩ : ∃ k, 2 ^ p - 1 - i = k + 1 := ⟨2 ^ p - 1 - i - 1, by omega⟩
    have hk2 : 2 ^ p - (i + 1) = k + 1 := by omega
    have hk3 : 2 ^ p - 1 - (i + 1) = k := by omega
    have hk4 : 2 ^ p - i = k + 2 := by omega
    rw [hk4] at hI
    rw [hk2, hk3, hk]
    have hpos : ¬ nI (k + 1) ≤ (0 : Int32) := by rw [leR0 (by omega)]; omega
    have hpc := pc_small (Z := k + 1) (by omega)
    have hZ : k + 1 < 2 ^ 24 := by omega
    by_cases h3 : 3 ≤ pcn (k + 1)
    · have hnd := m_needOf hE hZ h3
      have hnb := ndn_le (fs := fs) (sc := sc) (n := n) h3 hn (by omega)
      rcases hI with ⟨rfl, a⟩ | ⟨b, b1, b2, b3, rfl, b4, b5⟩
      · refine ⟨nI (k + 1), ?_, Or.inr ⟨k + 1, Nat.le_refl _, by omega, h3, rfl, fun j h1 h2 h => ?_, fun j h1 h2 h => by omega⟩⟩
        · have hm1 : (-1 : Int32) < 0 := by decide
          simp (disch := omega) only [X8_heap_L11, hpos, ↓reduceIte, m_ones hZ, Option.bind_some, leL3, h3, hm1, bnd_at, nI_dn]
        · by_cases e : j = k + 1
          · rw [e]; exact Nat.le_refl _
          · have := a j (by omega) h2; omega
      · have hpcb := pc_small (Z := b) (by omega)
        have hndb := m_needOf hE (Z := b) (by omega) b3
        have hnbb := ndn_le (fs := fs) (sc := sc) (n := n) b3 hn (by omega)
        have hbp : ¬ nI b < (0 : Int32) := by rw [ltR0 (by omega)]; omega
        by_cases hlt : ndn fs sc n (k + 1) < ndn fs sc n b
        · refine ⟨nI b, ?_, Or.inr ⟨b, by omega, b2, b3, rfl, fun j h1 h2 h => ?_, fun j h1 h2 h => ?_⟩⟩
          · simp (disch := omega) only [X8_heap_L11, hpos, ↓reduceIte, m_ones hZ, Option.bind_some, leL3, h3, hbp, hnd, hndb, nI_ltI, hlt, bnd_at, nI_dn]
          · by_cases e : j = k + 1
            · rw [e]; omega
            · exact b4 j (by omega) h2 h
          · by_cases e : j = k + 1
            · rw [e]; exact hlt
            · exact b5 j (by omega) h2 h
        · refine ⟨nI (k + 1), ?_, Or.inr ⟨k + 1, Nat.le_refl _, by omega, h3, rfl, fun j h1 h2 h => ?_, fun j h1 h2 h => by omega⟩⟩
          · simp (disch := omega) only [X8_heap_L11, hpos, ↓reduceIte, m_ones hZ, Option.bind_some, leL3, h3, hbp, hnd, hndb, nI_ltI, hlt, bnd_at, nI_dn]
          · by_cases e : j = k + 1
            · rw [e]; exact Nat.le_refl _
            · have := b4 j (by omega) h2 h; omega
    · refine ⟨z, ?_, ?_⟩
      · simp (disch := omega) only [X8_heap_L11, hpos, ↓reduceIte, m_ones hZ, Option.bind_some, leL3, h3, bnd_at, nI_dn]
      · rcases hI with ⟨rfl, a⟩ | ⟨b, b1, b2, b3, rfl, b4, b5⟩
        · refine Or.inl ⟨rfl, fun j h1 h2 => ?_⟩
          by_cases e : j = k + 1
          · rw [e]; omega
          · exact a j (by omega) h2
        · refine Or.inr ⟨b, by omega, b2, b3, rfl, fun j h1 h2 h => ?_, fun j h1 h2 h => ?_⟩
          · by_cases e : j = k + 1
            · rw [e] at h; omega
            · exact b4 j (by omega) h2 h
          · by_cases e : j = k + 1
            · rw [e] at h; omega
            · exact b5 j (by omega) h2 h
  · rw [show 2 ^ p - (2 ^ p - 1) = 1 by omega] at hI
    refine ⟨z, ?_, ?_⟩
    · rw [Nat.sub_self]
      have : nI 0 ≤ (0 : Int32) := by decide
      simp only [X8_heap_L11, this, ↓reduceIte]
    · rcases hI with ⟨rfl, a⟩ | ⟨b, b1, b2, b3, rfl, b4, b5⟩
      · refine Or.inl ⟨rfl, fun j h1 h2 => ?_⟩
        by_cases e : j = 0
        · rw [e]; exact p0
        · exact a j (by omega) h2
      · refine Or.inr ⟨b, by omega, b2, b3, rfl, fun j h1 h2 h => ?_, fun j h1 h2 h => ?_⟩
        · by_cases e : j = 0
          · rw [e] at h; omega
          · exact b4 j (by omega) h2 h
        · by_cases e : j = 0
          · rw [e] at h; omega
          · exact b5 j (by omega) h2 h
end NEED2
