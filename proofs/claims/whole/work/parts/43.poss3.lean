/-! ===== Pick: the answer; the least pick ===== -/
section POSS3
variable {n p : Nat} {fs sc : Nat → Nat} {F S Bs : Nat → Int32}
def Part (fs sc : Nat → Nat) (can : Nat → Nat) (H k t : Nat) : Prop := ∃ col : Nat → Nat, (∀ r, H.testBit r = true → t.testBit r = false → col r < k ∧ (can r).testBit (col r) = true) ∧ ∀ r s, H.testBit r = true → t.testBit r = false → H.testBit s = true → t.testBit s = false → adj fs sc r s = true → col r ≠ col s
theorem part_0 {can : Nat → Nat} {H k : Nat} (hk : k ≤ 16) (h : Part fs sc can H k 0) : Poss fs sc can H := by
  obtain ⟨col, c1, c2⟩ := h
  refine ⟨col, fun r hr => ?_, fun r s hr hs => c2 r s hr (Nat.zero_testBit _) hs (Nat.zero_testBit _)⟩
  obtain ⟨a, b⟩ := c1 r hr (Nat.zero_testBit _)
  exact ⟨by omega, b⟩
theorem x_possible {canA left : Nat → Int32} {can : Nat → Nat} (hE : EndsOK n p fs sc F S) (hn : n ≤ 12) (hB : BsOK n fs sc Bs) (hc : CanOK n canA can) {A : Nat} (hA : A < 2 ^ n) : ∃ (b : Bool) (left' : Nat → Int32), FX4_isPossible canA left (nI n) F S Bs (nI A) = some ((if b then 1 else 0), left') ∧ (b = true ↔ Poss fs sc can A) := by
  have hn12 : (2 : Nat) ^ n ≤ 4096 := Nat.pow_le_pow_right (n := 2) (by decide) hn
  unfold FX4_isPossible
  rw [x_empty hn hc hA, Option.bind_some]
  cases hex : ex (fun r => A.testBit r && decide (can r = 0)) n
  · rw [if_pos (show (if false = true then (1 : Int32) else 0) = 0 by decide)]
    obtain ⟨H, k1, k2, k3⟩ := x_hard hn hB hc hA
    have hH := sub_lt k2 hA
    have hiff : Poss fs sc can H ↔ Poss fs sc can A := ⟨k3, poss_sub k2⟩
    rw [k1, Option.bind_some]
    by_cases h0 : H = 0
    · rw [if_pos (by rw [h0]; rfl)]
      refine ⟨true, left, rfl, fun _ => hiff.mp ⟨fun _ => 0, fun r hr => ?_, fun r s hr => ?_⟩, fun _ => rfl⟩
      · rw [h0, Nat.zero_testBit] at hr; exact Bool.noConfusion hr
      · rw [h0, Nat.zero_testBit] at hr; exact Bool.noConfusion hr
    · rw [if_neg (by rw [eqR0 (by omega)]; exact h0), x_given hE hn hc hH, Option.bind_some, bc_nI (by omega), Option.bind_some]
      have hg := gvn_le (n := n) can H (fb_ct (endP fs sc n H) 12 / 2) (by have : fb_ct (endP fs sc n H) 12 ≤ 12 := fb_ct_le _ _; omega) 16
      have hpc := pc_small (Z := H) (by omega)
      by_cases hle : pcn H ≤ gvn can n H (fb_ct (endP fs sc n H) 12 / 2) 16
      · rw [if_pos ((nI_leI (by omega) (by omega)).mpr hle)]
        obtain ⟨l1, l2, l3⟩ := x_clearLeft (left := left) (H := H) (by omega)
        rw [l2, Option.bind_some, nar1, wr_nI (by omega) (by decide)]
        have selfb : ∀ t r, H.testBit r = true → ¬ (Sub H t) ∨ t.testBit r = true := fun t r hr => by
          by_cases q : Sub H t
          · exact Or.inr (q r hr)
          · exact Or.inl q
        have key := for_inv (f := X4_isPossible_L50 canA (nI n) Bs (nI H)) (fun (g : Nat → Int32) k => (g, nI k)) 16 (fun k g => (∀ t, Sub t H → g t = 0 ∨ g t = 1) ∧ (∀ t, Sub t H → g t = 1 → Part fs sc can H k t) ∧ ∀ t, Sub t H → Part fs sc can H k t → ∃ t', Sub t' t ∧ g t' = 1) (fun o => (o.1 = 0 ∧ ¬ Poss fs sc can H) ∨ (o.1 = 1 ∧ Poss fs sc can H)) (fun k g hk hI => ?_) (fun g hI => ?_) (i := 0) (a := upd l1 H 1) (Nat.zero_le _) ⟨fun t ht => ?_, fun t ht h1 => ?_, fun t ht hp => ?_⟩
        · obtain ⟨⟨x, l'⟩, q1, q2⟩ := key
          have q1' : loopO (X4_isPossible_L50 canA (nI n) Bs (nI H)) (upd l1 H 1, 0) = some (x, l') := q1
          rw [q1']
          rcases q2 with ⟨q2, q3⟩ | ⟨q2, q3⟩
          · simp only at q2
            rw [q2]
            exact ⟨false, l', rfl, fun h => Bool.noConfusion h, fun h => absurd (hiff.mpr h) q3⟩
          · simp only at q2
            rw [q2]
            exact ⟨true, l', rfl, fun _ => hiff.mp q3, fun _ => rfl⟩
        · obtain ⟨i1, i2, i3⟩ := hI
          have s0 : Sub 0 H := fun i hi => by rw [Nat.zero_testBit] at hi; exact Bool.noConfusion hi
          have hz : ¬ (16 : Int32) ≤ nI k := by rw [leL16 (by omega)]; omega
          rcases i1 0 s0 with q | q
          · left
            have hT : mk (fun r => H.testBit r && (can r).testBit k) n < 2 ^ n := mk_lt _ _
            obtain ⟨g', g1, g2, g3, g4⟩ := x_giveNumber (left := g) hn hB hH hT i1
            refine ⟨g', ?_, g2, fun t ht h1 => ?_, fun t ht hp => ?_⟩
            · unfold X4_isPossible_L50
              rw [show (g, nI k).2 = nI k from rfl, show (g, nI k).1 = g from rfl, if_neg hz, show (0 : Int32) = nI 0 from rfl, rd_nI (by decide) (by decide), q, if_pos (show (0 : Int32) = nI 0 from rfl), x_that hn hc (by omega) hk, Option.bind_some, g1, Option.bind_some, bnd_at, nI_1]
            · obtain ⟨s, s1, s2, s3, s4, s5⟩ := g3 t ht h1
              obtain ⟨col, c1, c2⟩ := i2 s s1 s2
              have cls : ∀ r, H.testBit r = true → t.testBit r = false → s.testBit r = true → (sd s t).testBit r = true ∧ (can r).testBit k = true := fun r h1 h2 h3 => by
                have := sd_mem.mpr ⟨h3, h2⟩
                have h5 := s5 r this
                rw [mk_bit] at h5
                simp only [Bool.and_eq_true] at h5
                exact ⟨this, h5.2.2⟩
              refine ⟨fun r => if s.testBit r then k else col r, fun r h1 h2 => ?_, fun r r' h1 h2 h1' h2' ha => ?_⟩
              · cases hs : s.testBit r
                · obtain ⟨a, b⟩ := c1 r h1 hs
                  simp only [hs, Bool.false_eq_true, ↓reduceIte]
                  exact ⟨by omega, b⟩
                · simp only [hs, ↓reduceIte]
                  exact ⟨by omega, (cls r h1 h2 hs).2⟩
              · cases hs : s.testBit r <;> cases hs' : s.testBit r'
                · simp only [hs, hs', Bool.false_eq_true, ↓reduceIte]
                  exact c2 r r' h1 hs h1' hs' ha
                · simp only [hs, hs', Bool.false_eq_true, ↓reduceIte]
                  have := (c1 r h1 hs).1
                  omega
                · simp only [hs, hs', Bool.false_eq_true, ↓reduceIte]
                  have := (c1 r' h1' hs').1
                  omega
                · have := s4 r r' (cls r h1 h2 hs).1 (cls r' h1' h2' hs').1
                  rw [ha] at this
                  exact Bool.noConfusion this
            · obtain ⟨col, c1, c2⟩ := hp
              -- those with the number k
              obtain ⟨I, eI⟩ : ∃ I, I = mk (fun r => (sd H t).testBit r && decide (col r = k)) n := ⟨_, rfl⟩
              have hI : ∀ r, I.testBit r = true ↔ H.testBit r = true ∧ t.testBit r = false ∧ col r = k := fun r => by
                rw [eI, mk_bit]
                simp only [Bool.and_eq_true, decide_eq_true_eq, sd_mem]
                exact ⟨fun h => ⟨h.2.1.1, h.2.1.2, h.2.2⟩, fun h => ⟨bit_lt hH h.1, ⟨h.1, h.2.1⟩, h.2.2⟩⟩
              have htI : Sub (t ||| I) H := fun r hr => by
                rw [Nat.testBit_or] at hr
                rcases (Bool.or_eq_true _ _).mp hr with h | h
                · exact ht r h
                · exact ((hI r).mp h).1
              obtain ⟨s, s1, s2⟩ := i3 (t ||| I) htI ⟨col, fun r h1 h2 => by
                rw [Nat.testBit_or, Bool.or_eq_false_iff] at h2
                obtain ⟨a, b⟩ := c1 r h1 h2.1
                refine ⟨?_, b⟩
                have : col r ≠ k := fun e => by
                  rw [(hI r).mpr ⟨h1, h2.1, e⟩] at h2
                  exact Bool.noConfusion h2.2
                omega, fun r r' h1 h2 h1' h2' => by
                rw [Nat.testBit_or, Bool.or_eq_false_iff] at h2 h2'
                exact c2 r r' h1 h2.1 h1' h2'.1⟩
              have hsH : Sub s H := fun r hr => htI r (s1 r hr)
              obtain ⟨t', t1, t2⟩ := g4 s hsH s2 (I &&& s) (fun a b ha hb => by
                rw [Nat.testBit_and] at ha hb
                simp only [Bool.and_eq_true] at ha hb
                obtain ⟨a1, a2, a3⟩ := (hI a).mp ha.1
                obtain ⟨b1, b2, b3⟩ := (hI b).mp hb.1
                cases hh : adj fs sc a b
                · rfl
                · exact absurd (a3.trans b3.symm) (c2 a b a1 a2 b1 b2 hh)) (fun r hr => by
                rw [Nat.testBit_and] at hr ⊢
                simp only [Bool.and_eq_true] at hr ⊢
                obtain ⟨a1, a2, a3⟩ := (hI r).mp hr.1
                refine ⟨hr.2, ?_⟩
                rw [mk_bit]
                simp only [Bool.and_eq_true, decide_eq_true_eq]
                exact ⟨bit_lt hH a1, a1, by rw [← a3]; exact (c1 r a1 a2).2⟩)
              refine ⟨t', fun r hr => ?_, t1⟩
              obtain ⟨a1, a2⟩ := sd_mem.mp (t2 r hr)
              have := s1 r a1
              rw [Nat.testBit_or] at this
              rcases (Bool.or_eq_true _ _).mp this with h | h
              · exact h
              · rw [Nat.testBit_and, h, a1] at a2
                exact Bool.noConfusion a2
          · right
            refine ⟨(1, g), ?_, Or.inr ⟨rfl, part_0 (k := k) (by omega) (i2 0 s0 q)⟩⟩
            have hq0 : ¬ (1 : Int32) = nI 0 := by decide
            unfold X4_isPossible_L50
            rw [show (g, nI k).2 = nI k from rfl, show (g, nI k).1 = g from rfl, if_neg hz, show (0 : Int32) = nI 0 from rfl, rd_nI (by decide) (by decide), q, if_neg hq0, rd_nI (by decide) (by decide), q, if_pos (Or.inr rfl)]
        · obtain ⟨i1, i2, i3⟩ := hI
          have s0 : Sub 0 H := fun i hi => by rw [Nat.zero_testBit] at hi; exact Bool.noConfusion hi
          have hz : (16 : Int32) ≤ nI 16 := by decide
          rcases i1 0 s0 with q | q
          · refine ⟨(0, g), ?_, Or.inl ⟨rfl, fun hp => ?_⟩⟩
            · unfold X4_isPossible_L50
              rw [show (g, nI 16).2 = nI 16 from rfl, show (g, nI 16).1 = g from rfl, if_pos hz, show (0 : Int32) = nI 0 from rfl, rd_nI (by decide) (by decide), q, if_pos (Or.inl (show (0 : Int32) = nI 0 from rfl))]
              rfl
            · obtain ⟨col, c1, c2⟩ := hp
              obtain ⟨t', t1, t2⟩ := i3 0 s0 ⟨col, fun r hr _ => c1 r hr, fun r s hr _ hs _ => c2 r s hr hs⟩
              have : t' = 0 := Nat.le_zero.mp (sub_le t1)
              rw [this, q] at t2
              exact absurd t2 (by decide)
          · refine ⟨(1, g), ?_, Or.inr ⟨rfl, part_0 (k := 16) (Nat.le_refl _) (i2 0 s0 q)⟩⟩
            unfold X4_isPossible_L50
            rw [show (g, nI 16).2 = nI 16 from rfl, show (g, nI 16).1 = g from rfl, if_pos hz, show (0 : Int32) = nI 0 from rfl, rd_nI (by decide) (by decide), q, if_pos (Or.inr rfl)]
        · rw [upd_at]
          split
          · exact Or.inr rfl
          · exact Or.inl (l3 t ht)
        · rw [upd_at] at h1
          split at h1
          · rename_i e
            rw [e]
            exact ⟨fun _ => 0, fun r h2 h3 => by rw [h2] at h3; exact Bool.noConfusion h3, fun r s h2 h3 => by rw [h2] at h3; exact Bool.noConfusion h3⟩
          · rw [l3 t ht] at h1
            exact absurd h1 (by decide)
        · obtain ⟨col, c1, c2⟩ := hp
          have : t = H := sub_eq ht (fun r hr => by
            cases e : t.testBit r
            · have := (c1 r hr e).1
              omega
            · rfl)
          exact ⟨H, by rw [this]; exact fun i h => h, by rw [upd_at, if_pos rfl]⟩
      · rw [if_neg (fun z => hle ((nI_leI (by omega) (by omega)).mp z))]
        exact ⟨false, left, rfl, fun h => Bool.noConfusion h, fun h => absurd (poss_given hE hn hH (hiff.mpr h)) hle⟩
  · rw [if_neg (show ¬ (if true = true then (1 : Int32) else 0) = 0 by decide)]
    refine ⟨false, left, rfl, fun h => Bool.noConfusion h, fun h => ?_⟩
    obtain ⟨r, r1, r2⟩ := ex_true.mp hex
    simp only [Bool.and_eq_true, decide_eq_true_eq] at r2
    obtain ⟨col, c1, -⟩ := h
    have := (c1 r r2.1).2
    rw [r2.2, Nat.zero_testBit] at this
    exact Bool.noConfusion this
end POSS3
