/-! ===== Pick: is there a colouring? ===== -/
section POSS
variable {n p : Nat} {fs sc : Nat → Nat} {F S Bs : Nat → Int32}
def ColOK (fs sc : Nat → Nat) (can : Nat → Nat) (A : Nat) (col : Nat → Nat) : Prop := (∀ r, A.testBit r = true → col r < 16 ∧ (can r).testBit (col r) = true) ∧ ∀ r s, A.testBit r = true → A.testBit s = true → adj fs sc r s = true → col r ≠ col s
def Poss (fs sc : Nat → Nat) (can : Nat → Nat) (A : Nat) : Prop := ∃ col, ColOK fs sc can A col
def CanOK (n : Nat) (canA : Nat → Int32) (can : Nat → Nat) : Prop := ∀ r, r < n → canA r = nI (can r) ∧ can r < 2 ^ 16
theorem col_sub {can : Nat → Nat} {A B : Nat} {col : Nat → Nat} (h : Sub B A) (hc : ColOK fs sc can A col) : ColOK fs sc can B col := ⟨fun r hr => hc.1 r (h r hr), fun r s hr hs => hc.2 r s (h r hr) (h s hs)⟩
theorem poss_sub {can : Nat → Nat} {A B : Nat} (h : Sub B A) (hc : Poss fs sc can A) : Poss fs sc can B := hc.elim fun col q => ⟨col, col_sub h q⟩
theorem ct_inj {P Q : Nat → Bool} {N M : Nat} {g : Nat → Nat} (h : ∀ k, k < N → P k = true → g k < M ∧ Q (g k) = true) (hi : ∀ a b, a < N → b < N → P a = true → P b = true → a ≠ b → g a ≠ g b) : fb_ct P N ≤ fb_ct Q M := by
  obtain ⟨f, hf⟩ : ∃ f : Nat → Nat, ∀ k, k < fb_ct P N → f k < N ∧ P (f k) = true ∧ fb_ct P (f k) = k := by
    refine ⟨fun k => fa_first (fun i => P i && decide (fb_ct P i = k)) N, fun k hk => ?_⟩
    obtain ⟨i, h1, h2, h3⟩ := fb_ct_kth hk
    have hx : ex (fun i => P i && decide (fb_ct P i = k)) N = true := ex_true.mpr ⟨i, h1, by simp [h2, h3]⟩
    have hy : fa_first (fun i => P i && decide (fb_ct P i = k)) N < N := by unfold ex at hx; exact of_decide_eq_true hx
    have hz := fa_first_yes _ N hy
    simp only [Bool.and_eq_true, decide_eq_true_eq] at hz
    exact ⟨hy, hz.1, hz.2⟩
  refine inj_ct (f := fun k => g (f k)) (fun k hk => ?_) (fun i j hij hj => ?_)
  · obtain ⟨a1, a2, -⟩ := hf k hk
    exact h _ a1 a2
  · obtain ⟨a1, a2, a3⟩ := hf i (by omega)
    obtain ⟨b1, b2, b3⟩ := hf j hj
    refine hi _ _ a1 b1 a2 b2 (fun e => ?_)
    rw [e, b3] at a3
    omega
theorem x_empty {canA : Nat → Int32} {can : Nat → Nat} (hn : n ≤ 12) (hc : CanOK n canA can) {A : Nat} (hA : A < 2 ^ n) : FX4_hasEmptyHanded canA (nI n) (nI A) = some (if ex (fun r => A.testBit r && decide (can r = 0)) n then 1 else 0) := by
  have h12 : (2 : Nat) ^ n ≤ 4096 := Nat.pow_le_pow_right (n := 2) (by decide) hn
  have e : (if ex (fun r => A.testBit r && decide (can r = 0)) n then (1 : Int32) else 0) = (if fa_first (fun r => A.testBit r && decide (can r = 0)) n < n then 1 else 0) := by
    unfold ex
    by_cases q : fa_first (fun r => A.testBit r && decide (can r = 0)) n < n <;> simp [q]
  rw [e]
  unfold FX4_hasEmptyHanded
  refine find_fun (fun i => nI i) (fun r => A.testBit r && decide (can r = 0)) n (fun _ => 1) 0 (fun i hi hq => ?_) (fun i hi hq => ?_) ?_
  · obtain ⟨c1, c2⟩ := hc i hi
    simp (disch := omega) only [X4_hasEmptyHanded_L2, nI_leI, Nat.not_le.mpr hi, ↓reduceIte, isIn_nI, Option.bind_some, b1, rd_nI, c1, eqR0, bnd_at, nI_1]
    cases h1 : A.testBit i
    · simp
    · rw [h1] at hq
      simp only [Bool.true_and, decide_eq_false_iff_not] at hq
      simp [hq]
  · obtain ⟨c1, c2⟩ := hc i hi
    simp only [Bool.and_eq_true, decide_eq_true_eq] at hq
    simp (disch := omega) only [X4_hasEmptyHanded_L2, nI_leI, Nat.not_le.mpr hi, ↓reduceIte, isIn_nI, Option.bind_some, b1, rd_nI, c1, eqR0, bnd_at, nI_1, hq.1, hq.2]
    simp
  · simp only [X4_hasEmptyHanded_L2, Int32.le_refl, ↓reduceIte]
/-- a road with more numbers than neighbours can wait -/
theorem poss_wait {can : Nat → Nat} {V i : Nat} (hV : V < 2 ^ n) (hn : n ≤ 12) (hi : V.testBit i = true) (hcan : can i < 2 ^ 16) (hlt : pcn (nb fs sc n i &&& V) < pcn (can i)) (h : Poss fs sc can (V ^^^ 2 ^ i)) : Poss fs sc can V := by
  obtain ⟨col, c1, c2⟩ := h
  have hin := bit_lt hV hi
  have hV' : ∀ j, (V ^^^ 2 ^ i).testBit j = (V.testBit j && !decide (j = i)) := fun j => by
    rw [xor_bit]
    by_cases e : j = i
    · rw [e, hi]; simp
    · simp [e]
  obtain ⟨k, k1, k2, k3⟩ : ∃ k, k < 16 ∧ (can i).testBit k = true ∧ ∀ s, V.testBit s = true → adj fs sc i s = true → col s ≠ k := by
    refine Classical.byContradiction (fun hno => ?_)
    have key : ∀ k, (can i).testBit k = true → ∃ s, V.testBit s = true ∧ adj fs sc i s = true ∧ col s = k := fun k hk => by
      refine Classical.byContradiction (fun h2 => hno ⟨k, bit_lt hcan hk, hk, fun s h1 h3 h4 => h2 ⟨s, h1, h3, h4⟩⟩)
    have hle : pcn (can i) ≤ pcn (nb fs sc n i &&& V) := by
      unfold pcn
      refine ct_inj (g := fun k => fa_first (fun s => (V.testBit s && adj fs sc i s) && decide (col s = k)) n) (fun k _ hk => ?_) (fun a b _ _ ha hb hab e => ?_)
      · obtain ⟨s, s1, s2, s3⟩ := key k hk
        have hx : ex (fun s => (V.testBit s && adj fs sc i s) && decide (col s = k)) n = true := ex_true.mpr ⟨s, bit_lt hV s1, by simp [s1, s2, s3]⟩
        have hy : fa_first (fun s => (V.testBit s && adj fs sc i s) && decide (col s = k)) n < n := by unfold ex at hx; exact of_decide_eq_true hx
        have hz := fa_first_yes _ n hy
        simp only [Bool.and_eq_true] at hz
        exact ⟨by omega, by rw [Nat.testBit_and, mk_bit]; simp [hy, hz.1.1, hz.1.2]⟩
      · have get : ∀ k, (can i).testBit k = true → col (fa_first (fun s => (V.testBit s && adj fs sc i s) && decide (col s = k)) n) = k := fun k hk => by
          obtain ⟨s, s1, s2, s3⟩ := key k hk
          have hx : ex (fun s => (V.testBit s && adj fs sc i s) && decide (col s = k)) n = true := ex_true.mpr ⟨s, bit_lt hV s1, by simp [s1, s2, s3]⟩
          have hy : fa_first (fun s => (V.testBit s && adj fs sc i s) && decide (col s = k)) n < n := by unfold ex at hx; exact of_decide_eq_true hx
          have hz := fa_first_yes _ n hy
          simp only [Bool.and_eq_true, decide_eq_true_eq] at hz
          exact hz.2
        have g1 := get a ha
        have g2 := get b hb
        have e' : fa_first (fun s => (V.testBit s && adj fs sc i s) && decide (col s = a)) n = fa_first (fun s => (V.testBit s && adj fs sc i s) && decide (col s = b)) n := e
        rw [e', g2] at g1
        exact hab g1.symm
    omega
  refine ⟨fun r => if r = i then k else col r, fun r hr => ?_, fun r s hr hs hrs => ?_⟩
  · by_cases e : r = i
    · simp only [e, ↓reduceIte]; exact ⟨k1, k2⟩
    · simp only [e, ↓reduceIte]
      exact c1 r (by rw [hV', hr]; simp [e])
  · by_cases e1 : r = i
    · by_cases e2 : s = i
      · rw [e1, e2, adj_irr] at hrs; exact Bool.noConfusion hrs
      · simp only [e1, e2, ↓reduceIte]
        rw [e1] at hrs
        exact Ne.symm (k3 s hs hrs)
    · by_cases e2 : s = i
      · simp only [e1, e2, ↓reduceIte]
        rw [e2, adj_symm] at hrs
        exact k3 r hr hrs
      · simp only [e1, e2, ↓reduceIte]
        exact c2 r s (by rw [hV', hr]; simp [e1]) (by rw [hV', hs]; simp [e2]) hrs
theorem x_hard {canA : Nat → Int32} {can : Nat → Nat} (hn : n ≤ 12) (hB : BsOK n fs sc Bs) (hc : CanOK n canA can) {A : Nat} (hA : A < 2 ^ n) : ∃ H, FX4_hardOnes canA (nI n) Bs (nI A) = some (nI H) ∧ Sub H A ∧ (Poss fs sc can H → Poss fs sc can A) := by
  have h12 : (2 : Nat) ^ n ≤ 4096 := Nat.pow_le_pow_right (n := 2) (by decide) hn
  have inner : ∀ (t V0 : Nat), V0 < 2 ^ n → ∃ o, loopO (X4_hardOnes_L16 canA (nI n) Bs (nI t) (nI V0)) (nI V0, nI 0) = some o ∧ ∃ V, Sub V V0 ∧ (Poss fs sc can V → Poss fs sc can V0) ∧ (o = .inr (nI V) ∨ o = .inl (nI V, nI (t + 1))) := by
    intro t V0 hV0
    refine for_inv (fun (V : Nat) i => (nI V, nI i)) n (fun i V => Sub V V0 ∧ (Poss fs sc can V → Poss fs sc can V0)) _ (fun i V hi hI => ?_) (fun V hI => ?_) (i := 0) (Nat.zero_le _) ⟨fun i h => h, fun h => h⟩
    · left
      have hV := sub_lt hI.1 hV0
      obtain ⟨c1, c2⟩ := hc i hi
      have hm : nb fs sc n i &&& V < 2 ^ 32 := Nat.lt_of_lt_of_le (and_lt_l (mk_lt _ n)) (Nat.pow_le_pow_right (by decide) (by omega))
      have p1 := pcn_le (S := nb fs sc n i &&& V) (k := n) (and_lt_l (mk_lt _ n)) (by omega)
      have p2 := pcn_le (S := can i) (k := 16) c2 (by omega)
      cases hb : V.testBit i
      · refine ⟨V, ?_, hI⟩
        simp (disch := omega) only [X4_hardOnes_L16, nI_leI, Nat.not_le.mpr hi, ↓reduceIte, isIn_nI, hb, Bool.false_eq_true, Option.bind_some, bnd_at, nI_1]
      · by_cases hle : pcn (can i) ≤ pcn (nb fs sc n i &&& V)
        · refine ⟨V, ?_, hI⟩
          simp (disch := omega) only [X4_hardOnes_L16, nI_leI, Nat.not_le.mpr hi, ↓reduceIte, isIn_nI, hb, Option.bind_some, o10, rd_nI, c1, bc_nI, hB i hi, fa_and, bc_nI hm, hle, bnd_at, nI_1]
        · refine ⟨V ^^^ 2 ^ i, ?_, fun j hj => ?_, fun hp => hI.2 (poss_wait hV hn hb c2 (by omega) hp)⟩
          · simp (disch := omega) only [X4_hardOnes_L16, nI_leI, Nat.not_le.mpr hi, ↓reduceIte, isIn_nI, hb, Option.bind_some, o10, rd_nI, c1, bc_nI, hB i hi, fa_and, bc_nI hm, hle, bnd_at, nI_1, sh_nI, fb_xorI]
          · refine hI.1 j ?_
            rw [xor_bit] at hj
            by_cases e : j = i
            · rw [e]; exact hb
            · simpa [e] using hj
    · have hV := sub_lt hI.1 hV0
      by_cases e : V = V0
      · refine ⟨.inr (nI V), ?_, V, hI.1, hI.2, Or.inl rfl⟩
        simp only [X4_hardOnes_L16, Int32.le_refl, ↓reduceIte, X4_hardOnes_J78, e, Option.map_some]
      · refine ⟨.inl (nI V, nI (t + 1)), ?_, V, hI.1, hI.2, Or.inr rfl⟩
        have hne : ¬ nI V = nI V0 := by rw [nI_eq (by omega) (by omega)]; exact e
        simp only [X4_hardOnes_L16, Int32.le_refl, ↓reduceIte, X4_hardOnes_J78, hne, bnd_at, nI_1, Option.map_some]
  have outer : ∃ o, loopO (X4_hardOnes_L4 canA (nI n) Bs) (nI A, nI 0) = some o ∧ ∃ H, o = nI H ∧ Sub H A ∧ (Poss fs sc can H → Poss fs sc can A) := by
    refine for_inv (fun (V : Nat) i => (nI V, nI i)) 12 (fun i V => Sub V A ∧ (Poss fs sc can V → Poss fs sc can A)) _ (fun t V ht hI => ?_) (fun V hI => ?_) (i := 0) (Nat.zero_le _) ⟨fun i h => h, fun h => h⟩
    · obtain ⟨o, k1, V', v1, v2, v3⟩ := inner t V (sub_lt hI.1 hA)
      have e0 : X4_hardOnes_L4 canA (nI n) Bs (nI V, nI t) = some o := by
        rw [← k1]
        simp (disch := omega) only [X4_hardOnes_L4, leL12, Nat.not_le.mpr ht, ↓reduceIte]
        rfl
      rcases v3 with rfl | rfl
      · right
        exact ⟨_, e0, V', rfl, fun i h => hI.1 i (v1 i h), fun h => hI.2 (v2 h)⟩
      · left
        exact ⟨V', e0, fun i h => hI.1 i (v1 i h), fun h => hI.2 (v2 h)⟩
    · refine ⟨nI V, ?_, V, rfl, hI⟩
      have : (12 : Int32) ≤ nI 12 := by decide
      simp only [X4_hardOnes_L4, this, ↓reduceIte]
  obtain ⟨o, h1, H, rfl, h2, h3⟩ := outer
  refine ⟨H, ?_, h2, h3⟩
  unfold FX4_hardOnes
  exact h1
def endP (fs sc : Nat → Nat) (n H q : Nat) : Bool := ex (fun r => H.testBit r && E fs sc r q) n
theorem x_endsOf (hE : EndsOK n p fs sc F S) {H : Nat} (hH : H < 2 ^ 31) : FX3_endsOf (nI n) F S (nI H) = some (nI (mk (endP fs sc n H) 12)) := by
  have hn := hE.1
  have hp := hE.2.1
  unfold FX3_endsOf
  have h0 : ((0 : Int32), (0 : Int32)) = (nI (mk (endP fs sc 0 H) 12), nI 0) := by
    have : mk (endP fs sc 0 H) 12 = 0 := mk_zero.mpr (fun i _ => by unfold endP; rw [ex_false]; intro r hr; omega)
    rw [this]; rfl
  rw [h0]
  refine for_fun (fun i => (nI (mk (endP fs sc i H) 12), nI i)) 0 n (Nat.zero_le _) (fun i _ hi => ?_) ?_
  · obtain ⟨e1, e2, e3, e4, -⟩ := hE.2.2 i hi
    have hs : ∀ q, endP fs sc (i + 1) H q = (endP fs sc i H q || (H.testBit i && E fs sc i q)) := fun q => by
      unfold endP; rw [ex_succ]
    cases hb : H.testBit i
    · simp (disch := omega) only [X3_endsOf_L4, nI_leI, Nat.not_le.mpr hi, ↓reduceIte, isIn_nI, hb, Bool.false_eq_true, Option.bind_some, bnd_at, nI_1]
      rw [mk_cong (P := endP fs sc (i + 1) H) (Q := endP fs sc i H) (fun q _ => by rw [hs, hb]; simp)]
    · simp (disch := omega) only [X3_endsOf_L4, nI_leI, Nat.not_le.mpr hi, ↓reduceIte, isIn_nI, hb, Option.bind_some, o10, rd_nI, e1, e2, sh_nI, fa_or, bnd_at, nI_1]
      have : mk (endP fs sc i H) 12 ||| (2 ^ fs i ||| 2 ^ sc i) = mk (endP fs sc (i + 1) H) 12 := by
        refine Nat.eq_of_testBit_eq (fun q => ?_)
        rw [Nat.testBit_or, Nat.testBit_or, Nat.testBit_two_pow, Nat.testBit_two_pow, mk_bit, mk_bit, hs, hb]
        unfold E
        by_cases h1 : fs i = q
        · have : q < 12 := by omega
          simp [h1, this]
        · by_cases h2 : sc i = q
          · have : q < 12 := by omega
            simp [h2, this]
          · rw [show (fs i == q) = false from beq_false_of_ne h1, show (sc i == q) = false from beq_false_of_ne h2]
            simp [h1, h2]
      rw [this]
  · simp only [X3_endsOf_L4, Int32.le_refl, ↓reduceIte]
theorem x_that {canA : Nat → Int32} {can : Nat → Nat} (hn : n ≤ 12) (hc : CanOK n canA can) {A k : Nat} (hA : A < 2 ^ 31) (hk : k < 16) : FX4_roadsThatCan canA (nI n) (nI A) (nI k) = some (nI (mk (fun r => A.testBit r && (can r).testBit k) n)) := by
  unfold FX4_roadsThatCan
  refine for_fun (fun i => (nI (mk (fun r => A.testBit r && (can r).testBit k) i), nI i)) 0 n (Nat.zero_le _) (fun i _ hi => ?_) ?_
  · obtain ⟨c1, c2⟩ := hc i hi
    have hs : mk (fun r => A.testBit r && (can r).testBit k) (i + 1) = if A.testBit i && (can i).testBit k then mk (fun r => A.testBit r && (can r).testBit k) i ||| 2 ^ i else mk (fun r => A.testBit r && (can r).testBit k) i := by
      refine Nat.eq_of_testBit_eq (fun q => ?_)
      have : ∀ b : Bool, ((if b then mk (fun r => A.testBit r && (can r).testBit k) i ||| 2 ^ i else mk (fun r => A.testBit r && (can r).testBit k) i).testBit q) = ((mk (fun r => A.testBit r && (can r).testBit k) i).testBit q || (b && decide (q = i))) := fun b => by
        cases b
        · simp
        · simp only [↓reduceIte, Bool.true_and]; rw [fb_bit_set]
      rw [this, mk_bit, mk_bit]
      by_cases e : q = i
      · rw [e]; simp
      · by_cases e2 : q < i
        · have : q < i + 1 := by omega
          simp [e, e2, this]
        · have : ¬ q < i + 1 := by omega
          simp [e, e2, this]
    simp (disch := omega) only [X4_roadsThatCan_L5, nI_leI, Nat.not_le.mpr hi, ↓reduceIte, isIn_nI hA, Option.bind_some, b1, rd_nI, c1, isIn_nI, sh_nI, fa_or, bnd_at, nI_1, hs]
    cases A.testBit i <;> cases (can i).testBit k <;> simp
  · simp only [X4_roadsThatCan_L5, Int32.le_refl, ↓reduceIte]
end POSS
