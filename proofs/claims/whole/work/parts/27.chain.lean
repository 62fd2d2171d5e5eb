/-! ===== chains: the least closed set ===== -/
theorem ct_lt {p q : Nat → Bool} {n k : Nat} (hs : ∀ j, j < n → p j = true → q j = true) (hk : k < n) (h1 : p k = false) (h2 : q k = true) : fb_ct p n < fb_ct q n := by
  have a := fb_ct_upd p true hk
  have b : fb_ct (fun j => if j = k then true else p j) n ≤ fb_ct q n := fb_ct_sub (fun j hj hp => by
    by_cases e : j = k
    · rw [e]; exact h2
    · rw [if_neg e] at hp; exact hs j hj hp)
  rw [h1] at a
  simp only [Bool.false_eq_true, ↓reduceIte, Nat.add_zero] at a
  omega
/-- the roads that a chain may have -/
def xyP (c : Nat → Int32) (x y : Int32) (r : Nat) : Bool := decide (c r = x) || decide (c r = y)
def Closed (fs sc : Nat → Nat) (c : Nat → Int32) (n : Nat) (x y : Int32) (K : Nat) : Prop := ∀ s q, s < n → q < n → K.testBit s = true → xyP c x y q = true → adj fs sc s q = true → K.testBit q = true
def Sub (A B : Nat) : Prop := ∀ i, A.testBit i = true → B.testBit i = true
/-- C is the least closed set over S -/
def Least (fs sc : Nat → Nat) (c : Nat → Int32) (n : Nat) (x y : Int32) (S C : Nat) : Prop := C < 2 ^ n ∧ Sub S C ∧ Closed fs sc c n x y C ∧ ∀ K, Sub S K → Closed fs sc c n x y K → Sub C K
theorem sub_eq {A B : Nat} (h1 : Sub A B) (h2 : Sub B A) : A = B := by
  apply Nat.eq_of_testBit_eq
  intro i
  rw [Bool.eq_iff_iff]
  exact ⟨h1 i, h2 i⟩
theorem least_one {fs sc : Nat → Nat} {c : Nat → Int32} {n : Nat} {x y : Int32} {S C C' : Nat} (h : Least fs sc c n x y S C) (h' : Least fs sc c n x y S C') : C = C' := sub_eq (h.2.2.2 C' h'.2.1 h'.2.2.1) (h'.2.2.2 C h.2.1 h.2.2.1)
section CHAIN
variable {fs sc : Nat → Nat} {c : Nat → Int32} {n p : Nat} {x y : Int32}
def nbm (fs sc : Nat → Nat) (n S : Nat) : Nat → Nat
  | 0 => 0
  | i + 1 => if S.testBit i then nbm fs sc n S i ||| mk (fun s => adj fs sc i s) n else nbm fs sc n S i
theorem nbm_bit (S : Nat) (q : Nat) : ∀ i, (nbm fs sc n S i).testBit q = (decide (q < n) && ex (fun r => S.testBit r && adj fs sc r q) i)
  | 0 => by simp [nbm, ex]
  | i + 1 => by
    rw [nbm, ex_succ]
    have ih := nbm_bit S q i
    cases hS : S.testBit i
    · simp [ih]
    · simp only [↓reduceIte, Nat.testBit_or, ih, mk_bit, Bool.true_and]
      cases decide (q < n) <;> simp
theorem nbm_lt (S : Nat) : ∀ i, nbm fs sc n S i < 2 ^ n
  | 0 => Nat.two_pow_pos n
  | i + 1 => by
    rw [nbm]
    split
    · exact Nat.or_lt_two_pow (nbm_lt S i) (mk_lt _ n)
    · exact nbm_lt S i
theorem x_besideAny {Bs : Nat → Int32} (hn : n ≤ 24) (hB : BsOK n fs sc Bs) {S : Nat} (hS : S < 2 ^ 31) : FX3_besideAny (nI n) Bs (nI S) = some (nI (nbm fs sc n S n)) := by
  refine for_fun (fun i => (nI (nbm fs sc n S i), nI i)) 0 n (Nat.zero_le _) (fun i _ hi => ?_) ?_
  · simp (disch := omega) only [X3_besideAny_L4, nI_leI, Nat.not_le.mpr hi, ↓reduceIte, isIn_nI hS, Option.bind_some, b1, bnd, nI_1, rd_nI, hB i hi, fa_or, nbm]
    cases S.testBit i <;> simp
  · simp only [X3_besideAny_L4, Int32.le_refl, ↓reduceIte]
/-- the chain as it grows -/
def cl (fs sc : Nat → Nat) (c : Nat → Int32) (n : Nat) (x y : Int32) (S : Nat) : Nat → Nat
  | 0 => S
  | k + 1 => cl fs sc c n x y S k ||| (nbm fs sc n (cl fs sc c n x y S k) n &&& mk (xyP c x y) n)
theorem cl_lt {S : Nat} (hS : S < 2 ^ n) : ∀ k, cl fs sc c n x y S k < 2 ^ n
  | 0 => hS
  | k + 1 => Nat.or_lt_two_pow (cl_lt hS k) (and_lt_l (nbm_lt _ n))
theorem cl_up {S : Nat} (k : Nat) : Sub (cl fs sc c n x y S k) (cl fs sc c n x y S (k + 1)) := fun i h => by rw [cl, Nat.testBit_or, h]; rfl
theorem cl_from {S : Nat} : ∀ k, Sub S (cl fs sc c n x y S k)
  | 0 => fun _ h => h
  | k + 1 => fun i h => cl_up k i (cl_from k i h)
theorem cl_in {S K : Nat} (hK : Sub S K) (hc : Closed fs sc c n x y K) : ∀ k, Sub (cl fs sc c n x y S k) K
  | 0 => hK
  | k + 1 => fun i h => by
    rw [cl, Nat.testBit_or, Bool.or_eq_true, Nat.testBit_and, nbm_bit, mk_bit] at h
    rcases h with h | h
    · exact cl_in hK hc k i h
    · simp only [Bool.and_eq_true, decide_eq_true_eq] at h
      obtain ⟨⟨h1, h2⟩, -, h3⟩ := h
      obtain ⟨r, hr, hr2⟩ := ex_true.mp h2
      simp only [Bool.and_eq_true] at hr2
      exact hc r i hr h1 (cl_in hK hc k r hr2.1) h3 hr2.2
theorem cl_stop {S : Nat} (hn : n ≤ 24) (hS : S < 2 ^ n) (h0 : S ≠ 0) : fa_first (fun k => decide (cl fs sc c n x y S (k + 1) = cl fs sc c n x y S k)) 24 < 24 := by
  rcases Nat.lt_or_ge (fa_first (fun k => decide (cl fs sc c n x y S (k + 1) = cl fs sc c n x y S k)) 24) 24 with h | h
  · exact h
  · exfalso
    have key : ∀ k, k ≤ 24 → k + 1 ≤ fb_ct (fun i => (cl fs sc c n x y S k).testBit i) n := by
      intro k
      induction k with
      | zero =>
        intro _
        obtain ⟨i, hi⟩ := Nat.exists_testBit_of_ne_zero h0
        have hin : i < n := by
          rcases Nat.lt_or_ge i n with q | q
          · exact q
          · rw [Nat.testBit_lt_two_pow (Nat.lt_of_lt_of_le hS (Nat.pow_le_pow_right (by decide) q))] at hi; cases hi
        exact fb_ct_pos.mpr ⟨i, hin, hi⟩
      | succ k ih =>
        intro hk
        have h1 := ih (by omega)
        have h2 : ¬ cl fs sc c n x y S (k + 1) = cl fs sc c n x y S k := by
          have := fa_first_no (fun k => decide (cl fs sc c n x y S (k + 1) = cl fs sc c n x y S k)) 24 k (by omega)
          simpa using this
        obtain ⟨i, hi⟩ := Nat.exists_testBit_ne_of_ne h2
        have hlt := cl_lt (fs := fs) (sc := sc) (c := c) (x := x) (y := y) hS (k + 1)
        have up := cl_up (fs := fs) (sc := sc) (c := c) (n := n) (x := x) (y := y) (S := S) k i
        have hb : (cl fs sc c n x y S k).testBit i = false ∧ (cl fs sc c n x y S (k + 1)).testBit i = true := by
          cases e1 : (cl fs sc c n x y S k).testBit i
          · cases e2 : (cl fs sc c n x y S (k + 1)).testBit i
            · rw [e1, e2] at hi; exact absurd rfl hi
            · exact ⟨rfl, rfl⟩
          · rw [e1, up e1] at hi; exact absurd rfl hi
        have hin : i < n := by
          rcases Nat.lt_or_ge i n with q | q
          · exact q
          · have := hb.2
            rw [Nat.testBit_lt_two_pow (Nat.lt_of_lt_of_le hlt (Nat.pow_le_pow_right (by decide) q))] at this; cases this
        have := ct_lt (p := fun i => (cl fs sc c n x y S k).testBit i) (q := fun i => (cl fs sc c n x y S (k + 1)).testBit i) (fun j _ hj => cl_up k j hj) hin hb.1 hb.2
        omega
    have := key 24 (Nat.le_refl _)
    have := fb_ct_le (fun i => (cl fs sc c n x y S 24).testBit i) n
    omega
theorem cl_least {S : Nat} (hS : S < 2 ^ n) {k : Nat} (hk : cl fs sc c n x y S (k + 1) = cl fs sc c n x y S k) : Least fs sc c n x y S (cl fs sc c n x y S k) := by
  refine ⟨cl_lt hS k, cl_from k, ?_, fun K h1 h2 => cl_in h1 h2 k⟩
  intro s q hs hq h1 h2 h3
  rw [← hk, cl, Nat.testBit_or, Nat.testBit_and, nbm_bit, mk_bit, h2]
  have : ex (fun r => (cl fs sc c n x y S k).testBit r && adj fs sc r q) n = true := ex_true.mpr ⟨s, hs, by rw [h1, h3]; rfl⟩
  rw [this]
  simp [hq]
theorem xy_mask (c : Nat → Int32) (x y : Int32) (n : Nat) : mk (fun r => decide (c r = x)) n ||| mk (fun r => decide (c r = y)) n = mk (xyP c x y) n := by
  refine bits_eq (k := n) (Nat.or_lt_two_pow (mk_lt _ n) (mk_lt _ n)) (mk_lt _ n) (fun i hi => ?_)
  rw [Nat.testBit_or, mk_bit, mk_bit, mk_bit]
  simp [hi, xyP]
theorem x_chainOf {Bs : Nat → Int32} (hn : n ≤ 24) (hB : BsOK n fs sc Bs) {r : Nat} (hr : r < n) : ∃ C, Least fs sc c n x y (2 ^ r) C ∧ FX3_chainOf (nI n) c Bs (nI r) x y = some (nI C) := by
  have hS : 2 ^ r < 2 ^ n := Nat.pow_lt_pow_right (by decide) hr
  have h0 : (2 : Nat) ^ r ≠ 0 := Nat.ne_of_gt (Nat.two_pow_pos r)
  have hf := cl_stop (fs := fs) (sc := sc) (c := c) (x := x) (y := y) hn hS h0
  refine ⟨_, cl_least hS (of_decide_eq_true (fa_first_yes (fun k => decide (cl fs sc c n x y (2 ^ r) (k + 1) = cl fs sc c n x y (2 ^ r) k)) 24 hf)), ?_⟩
  have h31 : ∀ k, cl fs sc c n x y (2 ^ r) k < 2 ^ 31 := fun k => Nat.lt_of_lt_of_le (cl_lt hS k) (Nat.pow_le_pow_right (by decide) (by omega))
  simp (disch := omega) only [FX3_chainOf, x_roadsNumbered hn, Option.bind_some, fa_or, xy_mask, bnd, sh_nI]
  refine find_fun2 (f := X3_chainOf_L21 (nI n) Bs (nI (mk (xyP c x y) n))) (fun k => (nI (cl fs sc c n x y (2 ^ r) k), nI k)) _ 24 (fun k => nI (cl fs sc c n x y (2 ^ r) k)) (fun i hi hp => ?_) (fun i hi hp => ?_) ?_
  · have e : ¬ cl fs sc c n x y (2 ^ r) (i + 1) = cl fs sc c n x y (2 ^ r) i := by simpa using hp
    have e' := e
    rw [cl] at e'
    simp (disch := omega) only [X3_chainOf_L21, leL24, Nat.not_le.mpr hi, ↓reduceIte, x_besideAny hn hB (h31 i), Option.bind_some, fa_and, fa_or, bnd, nI_1]
    rw [if_neg (by rw [nI_eq (by have := h31 (i + 1); rw [cl] at this; exact this) (h31 i)]; exact e')]
    rw [cl]
  · have e : cl fs sc c n x y (2 ^ r) (i + 1) = cl fs sc c n x y (2 ^ r) i := by simpa using hp
    have e' := e
    rw [cl] at e'
    simp (disch := omega) only [X3_chainOf_L21, leL24, Nat.not_le.mpr hi, ↓reduceIte, x_besideAny hn hB (h31 i), Option.bind_some, fa_and, fa_or, bnd, nI_1, e']
  · simp (disch := omega) only [X3_chainOf_L21, leL24, Nat.le_refl, ↓reduceIte]
/-! the reference's chain -/
def tch (fs sc : Nat → Nat) (n S q : Nat) : Bool := ex (fun k => S.testBit k && T fs sc q k) n
theorem m_touch {F S0 : Nat → Int32} (h : EndsOK n p fs sc F S0) {S q : Nat} (hS : S < 2 ^ 31) (hq : q < n) (m : Int32) : loopO (X8_chainOf_L70 (nI n) F S0 c x y (nI S) m (nI q)) (0, 0) = some (.inl (if tch fs sc n S q then (nI (S ||| 2 ^ q), 1, nI (q + 1)) else (nI S, m, nI (q + 1)))) := by
  have hn := h.1
  have key := for_fun (f := X8_chainOf_L70 (nI n) F S0 c x y (nI S) m (nI q)) (fun i => (if ex (fun k => S.testBit k && T fs sc q k) i then (1 : Int32) else 0, nI i)) 0 n (r := .inl (if tch fs sc n S q then (nI (S ||| 2 ^ q), 1, nI (q + 1)) else (nI S, m, nI (q + 1)))) (Nat.zero_le _) (fun i _ hi => ?_) ?_
  · exact key
  · have ht : ((nI S >>> (nI i &&& 31)) &&& 1 = 1) ↔ S.testBit i = true := by
      rw [tb_nI hS (by omega)]
      cases S.testBit i <;> simp
    rw [ex_succ]
    simp (disch := omega) only [X8_chainOf_L70, nI_leI, Nat.not_le.mpr hi, ↓reduceIte, ht, meet_nI h hq hi, Option.bind_some, b1, bnd, nI_1]
    cases ex (fun k => S.testBit k && T fs sc q k) i
    · cases S.testBit i
      · simp
      · cases T fs sc q i <;> simp
    · simp
  · simp (disch := omega) only [X8_chainOf_L70, Int32.le_refl, ↓reduceIte, X8_chainOf_J119, b1, bnd, nI_1, sh_nI, fa_or]
    unfold tch
    cases ex (fun k => S.testBit k && T fs sc q k) n <;> simp
theorem m_chainOf {F S0 : Nat → Int32} (h : EndsOK n p fs sc F S0) {r : Nat} (hr : r < n) : ∃ C, Least fs sc c n x y (2 ^ r) C ∧ FX8_chainOf (nI n) F S0 c (nI r) x y = some (nI C) := by
  have hn := h.1
  have hpow : (2 : Nat) ^ n ≤ 2 ^ 24 := Nat.pow_le_pow_right (by decide) hn
  have h31 : ∀ S, S < 2 ^ n → S < 2 ^ 31 := fun S hS => by
    have : (2 : Nat) ^ 24 < 2 ^ 31 := by decide
    omega
  -- a pass
  have pass : ∀ S, S < 2 ^ n → ∃ (S' : Nat) (m : Int32), loopO (X8_chainOf_L19 (nI n) F S0 c x y) (nI S, 0, 0) = some (.inl (nI S', m)) ∧ S' < 2 ^ n ∧ Sub S S' ∧ (∀ K, Sub S K → Closed fs sc c n x y K → Sub S' K) ∧ ((m = 0 ∧ S' = S ∧ Closed fs sc c n x y S) ∨ (m = 1 ∧ S < S')) := by
    intro S hS
    have key := for_inv (f := X8_chainOf_L19 (nI n) F S0 c x y) (fun (a : Nat × Int32) q => (nI a.1, a.2, nI q)) n
      (fun q a => a.1 < 2 ^ n ∧ Sub S a.1 ∧ (∀ K, Sub S K → Closed fs sc c n x y K → Sub a.1 K) ∧ ((a.2 = 0 ∧ a.1 = S ∧ ∀ j, j < q → S.testBit j = false → xyP c x y j = true → tch fs sc n S j = false) ∨ (a.2 = 1 ∧ S < a.1)))
      (fun z => ∃ S' m, z = .inl (nI S', m) ∧ S' < 2 ^ n ∧ Sub S S' ∧ (∀ K, Sub S K → Closed fs sc c n x y K → Sub S' K) ∧ ((m = 0 ∧ S' = S ∧ Closed fs sc c n x y S) ∨ (m = 1 ∧ S < S')))
      (fun i a hi hI => ?_) (fun a hI => ?_) (i := 0) (a := (S, 0)) (Nat.zero_le _) ⟨hS, fun _ z => z, fun K hK _ => hK, Or.inl ⟨rfl, rfl, fun j hj => by omega⟩⟩
    · obtain ⟨z, hz, S', m, rfl, rest⟩ := key
      exact ⟨S', m, hz, rest⟩
    · left
      obtain ⟨A, m⟩ := a
      obtain ⟨i1, i2, i3, i4⟩ := hI
      dsimp only at i1 i2 i3 i4
      have ht : ((nI A >>> (nI i &&& 31)) &&& 1 = 1) ↔ A.testBit i = true := by
        rw [tb_nI (h31 A i1) (by omega)]
        cases A.testBit i <;> simp
      have hrd : X8_chainOf_L19 (nI n) F S0 c x y (nI A, m, nI i) = if A.testBit i = true ∨ xyP c x y i = false then some (.inl (nI A, m, nI (i + 1))) else some (.inl (if tch fs sc n A i then (nI (A ||| 2 ^ i), 1, nI (i + 1)) else (nI A, m, nI (i + 1)))) := by
        simp (disch := omega) only [X8_chainOf_L19, nI_leI, Nat.not_le.mpr hi, ↓reduceIte, ht, rd_nI, m_touch h (h31 A i1) hi, bnd, nI_1]
        unfold xyP
        cases A.testBit i
        · by_cases e1 : c i = x
          · simp [e1]
          · by_cases e2 : c i = y
            · simp [e2]
            · simp [e1, e2]
        · simp
      dsimp only
      rw [hrd]
      by_cases hc : A.testBit i = true ∨ xyP c x y i = false
      · rw [if_pos hc]
        refine ⟨(A, m), rfl, i1, i2, i3, ?_⟩
        rcases i4 with ⟨m0, rfl, i5⟩ | i5
        · refine Or.inl ⟨m0, rfl, fun j hj h1 h2 => ?_⟩
          by_cases hj2 : j = i
          · subst hj2
            rcases hc with hc | hc
            · rw [hc] at h1; cases h1
            · rw [hc] at h2; cases h2
          · exact i5 j (by omega) h1 h2
        · exact Or.inr i5
      · rw [if_neg hc]
        have hc1 : A.testBit i = false := by
          cases e : A.testBit i
          · rfl
          · exact absurd (Or.inl e) hc
        have hc2 : xyP c x y i = true := by
          cases e : xyP c x y i
          · exact absurd (Or.inr e) hc
          · rfl
        cases ht2 : tch fs sc n A i
        · refine ⟨(A, m), by simp, i1, i2, i3, ?_⟩
          rcases i4 with ⟨m0, rfl, i5⟩ | i5
          · refine Or.inl ⟨m0, rfl, fun j hj h1 h2 => ?_⟩
            by_cases hj2 : j = i
            · subst hj2; exact ht2
            · exact i5 j (by omega) h1 h2
          · exact Or.inr i5
        · have hlt : A < A ||| 2 ^ i := by
            have h1 : A ≤ A ||| 2 ^ i := Nat.left_le_or
            have h2 : A ≠ A ||| 2 ^ i := fun q => by
              have := congrArg (fun z => z.testBit i) q
              simp [hc1] at this
            omega
          refine ⟨(A ||| 2 ^ i, 1), by simp, Nat.or_lt_two_pow i1 (Nat.pow_lt_pow_right (by decide) hi), fun j hj => ?_, fun K h1 h2 j hj => ?_, Or.inr ⟨rfl, ?_⟩⟩
          · dsimp only
            rw [Nat.testBit_or, i2 j hj]; rfl
          · dsimp only at hj
            rw [Nat.testBit_or, Bool.or_eq_true, Nat.testBit_two_pow] at hj
            rcases hj with hj | hj
            · exact i3 K h1 h2 j hj
            · have : i = j := of_decide_eq_true hj
              subst this
              obtain ⟨k, hk, hk2⟩ := ex_true.mp ht2
              simp only [Bool.and_eq_true] at hk2
              have hne : ¬ k = i := fun q => by rw [q, hc1] at hk2; exact absurd hk2.1 (by decide)
              refine h2 k i hk hi (i3 K h1 h2 k hk2.1) hc2 ?_
              unfold adj
              rw [T_symm, hk2.2]
              simp [hne]
          · dsimp only
            rcases i4 with ⟨-, rfl, -⟩ | ⟨-, i5⟩
            · exact hlt
            · omega
    · obtain ⟨A, m⟩ := a
      obtain ⟨i1, i2, i3, i4⟩ := hI
      dsimp only at i1 i2 i3 i4
      refine ⟨.inl (nI A, m), by simp only [X8_chainOf_L19, Int32.le_refl, ↓reduceIte], A, m, rfl, i1, i2, i3, ?_⟩
      rcases i4 with ⟨m0, rfl, i5⟩ | i5
      · refine Or.inl ⟨m0, rfl, ?_⟩
        intro s q hs hq h1 h2 h3
        cases e : A.testBit q
        · have := i5 q hq e h2
          have h4 : tch fs sc n A q = true := by
            unfold tch
            refine ex_true.mpr ⟨s, hs, ?_⟩
            rw [h1]
            unfold adj at h3
            simp only [Bool.and_eq_true] at h3
            rw [T_symm, h3.2]; rfl
          rw [this] at h4; cases h4
        · rfl
      · exact Or.inr i5
  have hS : 2 ^ r < 2 ^ n := Nat.pow_lt_pow_right (by decide) hr
  have key := loopO_inv (f := X8_chainOf_L8 (nI n) F S0 c x y) (fun z : Int32 × Int32 => if z.2 = 0 then 0 else 1 + (2 ^ 24 - z.1.toNatClampNeg))
    (fun z => ∃ S, z.1 = nI S ∧ S < 2 ^ n ∧ Sub (2 ^ r) S ∧ (∀ K, Sub (2 ^ r) K → Closed fs sc c n x y K → Sub S K) ∧ ((z.2 = 0 ∧ Closed fs sc c n x y S) ∨ z.2 = 1))
    (fun z => ∃ C, Least fs sc c n x y (2 ^ r) C ∧ z = nI C) ?_ (nI (2 ^ r), 1) ⟨2 ^ r, rfl, hS, fun _ z => z, fun K hK _ => hK, Or.inr rfl⟩
  · obtain ⟨z, hz, C, hC, rfl⟩ := key
    refine ⟨C, hC, ?_⟩
    simp (disch := omega) only [FX8_chainOf, bnd, sh_nI]
    exact hz
  · rintro ⟨z1, z2⟩ ⟨S, e1, i1, i2, i3, i4⟩
    dsimp only at e1 i4
    subst e1
    rcases i4 with ⟨rfl, i4⟩ | rfl
    · right
      exact ⟨nI S, by simp only [X8_chainOf_L8, ↓reduceIte], S, ⟨i1, i2, i4, i3⟩, rfl⟩
    · left
      obtain ⟨S', m, h1, h2, h3, h4, h5⟩ := pass S i1
      refine ⟨(nI S', m), by simp only [X8_chainOf_L8, o10, ↓reduceIte]; exact h1, ⟨S', rfl, h2, fun j hj => h3 j (i2 j hj), fun K k1 k2 => h4 K (i3 K k1 k2) k2, ?_⟩, ?_⟩
      · rcases h5 with ⟨a, rfl, b⟩ | ⟨a, -⟩
        · exact Or.inl ⟨a, b⟩
        · exact Or.inr a
      · rcases h5 with ⟨rfl, -, -⟩ | ⟨rfl, hlt⟩
        · simp; omega
        · simp only [o10, ↓reduceIte, nI_clamp (h31 S i1), nI_clamp (h31 S' h2)]
          omega
end CHAIN
