/-! ===== a row more always goes ===== -/
def NU (A : Nat → Nat) (Z : Nat) : Nat := mk (fun v => ex (fun c => Z.testBit c && (A c).testBit v) 9) 9
theorem nu_bit {A : Nat → Nat} {Z v : Nat} (hA : ∀ c, A c < 2 ^ 9) (hZ : Z < 2 ^ 9) : (NU A Z).testBit v = true ↔ ∃ c, Z.testBit c = true ∧ (A c).testBit v = true := by
  unfold NU
  rw [mk_bit]
  simp only [Bool.and_eq_true, decide_eq_true_eq, ex_true]
  constructor
  · rintro ⟨-, c, -, h⟩
    exact ⟨c, h⟩
  · rintro ⟨c, h1, h2⟩
    exact ⟨bit_lt (hA c) h2, c, bit_lt hZ h1, h1, h2⟩
theorem pcn_or {a b : Nat} (h : ∀ i, ¬ (a.testBit i = true ∧ b.testBit i = true)) : pcn (a ||| b) = pcn a + pcn b := by
  unfold pcn
  rw [← fb_ct_or (fun k _ => h k)]
  exact fb_ct_cong (fun k _ => Nat.testBit_or a b k)
theorem pcn_sub {a b : Nat} (h : Sub a b) : pcn a ≤ pcn b := fb_ct_sub (fun k _ => h k)
theorem pcn_sub_lt {a b i : Nat} (hi : i < 32) (h : Sub a b) (h1 : a.testBit i = false) (h2 : b.testBit i = true) : pcn a < pcn b := ct_lt (fun k _ => h k) hi h1 h2
theorem pcn_0 {a : Nat} (ha : a < 2 ^ 9) : pcn a = 0 ↔ a = 0 := by
  constructor
  · intro h
    refine Nat.eq_of_testBit_eq (fun i => ?_)
    rw [Nat.zero_testBit]
    cases q : a.testBit i
    · rfl
    · have := fb_ct_zero.mp h i (by have := bit_lt ha q; omega)
      rw [q] at this
      exact this
  · rintro rfl; decide
theorem hall : ∀ (k C : Nat) (A : Nat → Nat), pcn C = k → C < 2 ^ 9 → (∀ c, A c < 2 ^ 9) → (∀ Z, Sub Z C → pcn Z ≤ pcn (NU A Z)) → ∃ f : Nat → Nat, (∀ c, C.testBit c = true → (A c).testBit (f c) = true) ∧ ∀ c c', C.testBit c = true → C.testBit c' = true → c ≠ c' → f c ≠ f c' := by
  intro k
  induction k using Nat.strongRecOn with
  | _ k ih =>
    intro C A hk hC hA hH
    by_cases hC0 : C = 0
    · exact ⟨fun _ => 0, fun c hc => by rw [hC0, Nat.zero_testBit] at hc; exact Bool.noConfusion hc, fun c c' hc => by rw [hC0, Nat.zero_testBit] at hc; exact Bool.noConfusion hc⟩
    · by_cases hcase : ∀ Z, Sub Z C → Z ≠ 0 → Z ≠ C → pcn Z < pcn (NU A Z)
      · obtain ⟨c1, c2⟩ := low_bit hC hC0 (by decide)
        obtain ⟨c0, e0⟩ : ∃ c0, c0 = fa_first (fun i => C.testBit i) 12 := ⟨_, rfl⟩
        rw [← e0] at c1 c2
        have hone : Sub (2 ^ c0) C := fun i hi => by
          rw [Nat.testBit_two_pow] at hi
          rw [← of_decide_eq_true hi]; exact c2
        have hone9 := sub_lt hone hC
        obtain ⟨v0, hv0⟩ : ∃ v, (A c0).testBit v = true := by
          have h1 := hH (2 ^ c0) hone
          have h2 : 0 < pcn (2 ^ c0) := by
            rcases Nat.eq_zero_or_pos (pcn (2 ^ c0)) with q | q
            · have := (pcn_0 hone9).mp q
              have := Nat.two_pow_pos c0
              omega
            · exact q
          obtain ⟨v, -, hv⟩ := fb_ct_pos.mp (Nat.lt_of_lt_of_le h2 h1)
          obtain ⟨c, g1, g2⟩ := (nu_bit hA hone9).mp hv
          rw [Nat.testBit_two_pow] at g1
          rw [← of_decide_eq_true g1] at g2
          exact ⟨v, g2⟩
        have hv09 := bit_lt (hA c0) hv0
        have hpx := pcn_xor (by omega) c2
        have hlow := xor_low c2
        have hA' : ∀ c, sd (A c) (2 ^ v0) < 2 ^ 9 := fun c => sd_lt (hA c)
        have hbit' : ∀ c, (C ^^^ 2 ^ c0).testBit c = true ↔ C.testBit c = true ∧ c ≠ c0 := fun c => by
          rw [xor_bit]
          by_cases e : c = c0
          · rw [e, c2]; simp
          · simp [e]
        obtain ⟨f, f1, f2⟩ := ih (pcn (C ^^^ 2 ^ c0)) (by omega) (C ^^^ 2 ^ c0) (fun c => sd (A c) (2 ^ v0)) rfl (by omega) hA' (fun Z hZ => by
          by_cases hZ0 : Z = 0
          · rw [hZ0]; exact Nat.zero_le _
          · have hZC : Sub Z C := fun i hi => ((hbit' i).mp (hZ i hi)).1
            have hZ9 := sub_lt hZC hC
            have h1 := hcase Z hZC hZ0 (fun e => by
              have := (hbit' c0).mp (hZ c0 (by rw [e]; exact c2))
              exact this.2 rfl)
            have h2 : pcn (NU A Z) ≤ pcn (NU (fun c => sd (A c) (2 ^ v0)) Z ||| 2 ^ v0) := pcn_sub (fun v hv => by
              obtain ⟨c, g1, g2⟩ := (nu_bit hA hZ9).mp hv
              rw [fb_bit_set]
              by_cases e : v = v0
              · simp [e]
              · have : (NU (fun c => sd (A c) (2 ^ v0)) Z).testBit v = true := (nu_bit hA' hZ9).mpr ⟨c, g1, sd_mem.mpr ⟨g2, by rw [Nat.testBit_two_pow]; simp [Ne.symm e]⟩⟩
                rw [this]; rfl)
            rw [pcn_or (fun i hi => by
              obtain ⟨g1, g2⟩ := hi
              obtain ⟨c, -, g3⟩ := (nu_bit hA' hZ9).mp g1
              have := (sd_mem.mp g3).2
              rw [g2] at this
              exact Bool.noConfusion this)] at h2
            have h3 : pcn (2 ^ v0) ≤ 1 := by
              have := pcn_xor (Z := 2 ^ v0) (v := v0) (Nat.pow_lt_pow_right (by decide) (by omega)) (by rw [Nat.testBit_two_pow]; simp)
              rw [Nat.xor_self, show pcn 0 = 0 by decide] at this
              omega
            omega)
        refine ⟨fun c => if c = c0 then v0 else f c, fun c hc => ?_, fun c c' hc hc' hne => ?_⟩
        · show (A c).testBit (if c = c0 then v0 else f c) = true
          by_cases e : c = c0
          · rw [if_pos e, e]; exact hv0
          · rw [if_neg e]
            exact (sd_mem.mp (f1 c ((hbit' c).mpr ⟨hc, e⟩))).1
        · show (if c = c0 then v0 else f c) ≠ (if c' = c0 then v0 else f c')
          have nv : ∀ z, C.testBit z = true → z ≠ c0 → f z ≠ v0 := fun z hz hz0 e => by
            have := (sd_mem.mp (f1 z ((hbit' z).mpr ⟨hz, hz0⟩))).2
            rw [e, Nat.testBit_two_pow] at this
            simp at this
          by_cases e : c = c0 <;> by_cases e' : c' = c0
          · exact absurd (e.trans e'.symm) hne
          · rw [if_pos e, if_neg e']; exact Ne.symm (nv c' hc' e')
          · rw [if_neg e, if_pos e']; exact nv c hc e
          · rw [if_neg e, if_neg e']
            exact f2 c c' ((hbit' c).mpr ⟨hc, e⟩) ((hbit' c').mpr ⟨hc', e'⟩) hne
      · obtain ⟨Z0, z1, z2, z3, z4⟩ : ∃ Z, Sub Z C ∧ Z ≠ 0 ∧ Z ≠ C ∧ pcn (NU A Z) ≤ pcn Z := by
          refine Classical.byContradiction (fun hno => hcase (fun Z h1 h2 h3 => ?_))
          rcases Nat.lt_or_ge (pcn Z) (pcn (NU A Z)) with q | q
          · exact q
          · exact absurd ⟨Z, h1, h2, h3, q⟩ hno
        have hZ9 := sub_lt z1 hC
        have hlt1 : pcn Z0 < pcn C := by
          have : ∃ i, C.testBit i = true ∧ Z0.testBit i = false := by
            refine Classical.byContradiction (fun hno => z3 (sub_eq z1 (fun i hi => ?_)))
            cases q : Z0.testBit i
            · exact absurd ⟨i, hi, q⟩ hno
            · rfl
          obtain ⟨i, g1, g2⟩ := this
          exact pcn_sub_lt (by have := bit_lt hC g1; omega) z1 g2 g1
        have hsplit : pcn C = pcn (sd C Z0) + pcn Z0 := by
          rw [← pcn_or (fun i hi => by
            have := (sd_mem.mp hi.1).2
            rw [hi.2] at this
            exact Bool.noConfusion this)]
          congr 1
          refine Nat.eq_of_testBit_eq (fun i => ?_)
          rw [Nat.testBit_or, sd_bit]
          cases q : Z0.testBit i
          · simp
          · rw [z1 i q]; rfl
        have hpos : 0 < pcn Z0 := by
          rcases Nat.eq_zero_or_pos (pcn Z0) with q | q
          · exact absurd ((pcn_0 hZ9).mp q) z2
          · exact q
        obtain ⟨f1, p1, p2⟩ := ih (pcn Z0) (by omega) Z0 A rfl hZ9 hA (fun Z hZ => hH Z (fun i hi => z1 i (hZ i hi)))
        have hA2 : ∀ c, sd (A c) (NU A Z0) < 2 ^ 9 := fun c => sd_lt (hA c)
        obtain ⟨f2, q1, q2⟩ := ih (pcn (sd C Z0)) (by omega) (sd C Z0) (fun c => sd (A c) (NU A Z0)) rfl (sd_lt hC) hA2 (fun Z hZ => by
          have hZC : Sub Z C := fun i hi => (sd_mem.mp (hZ i hi)).1
          have hZ9' := sub_lt hZC hC
          have hor : Sub (Z ||| Z0) C := fun i hi => by
            rw [Nat.testBit_or] at hi
            rcases (Bool.or_eq_true _ _).mp hi with g | g
            · exact hZC i g
            · exact z1 i g
          have h1 := hH (Z ||| Z0) hor
          rw [pcn_or (fun i hi => by
            have := (sd_mem.mp (hZ i hi.1)).2
            rw [hi.2] at this
            exact Bool.noConfusion this)] at h1
          have h2 : pcn (NU A (Z ||| Z0)) ≤ pcn (NU (fun c => sd (A c) (NU A Z0)) Z ||| NU A Z0) := pcn_sub (fun v hv => by
            obtain ⟨c, g1, g2⟩ := (nu_bit hA (sub_lt hor hC)).mp hv
            rw [Nat.testBit_or]
            cases hq : (NU A Z0).testBit v
            · rw [Nat.testBit_or] at g1
              rcases (Bool.or_eq_true _ _).mp g1 with g | g
              · rw [(nu_bit hA2 hZ9').mpr ⟨c, g, sd_mem.mpr ⟨g2, hq⟩⟩]; rfl
              · rw [(nu_bit hA hZ9).mpr ⟨c, g, g2⟩] at hq
                exact Bool.noConfusion hq
            · simp)
          rw [pcn_or (fun i hi => by
            obtain ⟨c, -, g3⟩ := (nu_bit hA2 hZ9').mp hi.1
            have := (sd_mem.mp g3).2
            rw [hi.2] at this
            exact Bool.noConfusion this)] at h2
          omega)
        refine ⟨fun c => if Z0.testBit c then f1 c else f2 c, fun c hc => ?_, fun c c' hc hc' hne => ?_⟩
        · show (A c).testBit (if Z0.testBit c then f1 c else f2 c) = true
          cases e : Z0.testBit c
          · exact (sd_mem.mp (q1 c (sd_mem.mpr ⟨hc, e⟩))).1
          · exact p1 c e
        · show (if Z0.testBit c then f1 c else f2 c) ≠ (if Z0.testBit c' then f1 c' else f2 c')
          have inN : ∀ z, Z0.testBit z = true → (NU A Z0).testBit (f1 z) = true := fun z hz => (nu_bit hA hZ9).mpr ⟨z, hz, p1 z hz⟩
          have outN : ∀ z, C.testBit z = true → Z0.testBit z = false → (NU A Z0).testBit (f2 z) = false := fun z hz hz0 => (sd_mem.mp (q1 z (sd_mem.mpr ⟨hz, hz0⟩))).2
          cases e : Z0.testBit c <;> cases e' : Z0.testBit c'
          · exact q2 c c' (sd_mem.mpr ⟨hc, e⟩) (sd_mem.mpr ⟨hc', e'⟩) hne
          · intro he
            have he' : f2 c = f1 c' := he
            have := outN c hc e
            rw [he', inN c' e'] at this
            exact Bool.noConfusion this
          · intro he
            have he' : f1 c = f2 c' := he
            have := outN c' hc' e'
            rw [← he', inN c e] at this
            exact Bool.noConfusion this
          · exact p2 c c' e e' hne
theorem sm_ind (p : Nat → Bool) : ∀ n, fb_sm (fun v => if p v then 1 else 0) n = fb_ct p n
  | 0 => rfl
  | n + 1 => by rw [fb_sm_succ, fb_ct_succ, sm_ind p n]
theorem sm_if (p : Nat → Bool) (K : Nat) : ∀ n, fb_sm (fun v => if p v then K else 0) n = K * fb_ct p n
  | 0 => rfl
  | n + 1 => by
    rw [fb_sm_succ, fb_ct_succ, sm_if p K n, Nat.mul_add]
    cases p n <;> simp
theorem sm_swap (P : Nat → Nat → Bool) (n : Nat) : ∀ m, fb_sm (fun c => fb_ct (fun v => P c v) n) m = fb_sm (fun v => fb_ct (fun c => P c v) m) n
  | 0 => by
    have := fb_sm_bound (f := fun v => fb_ct (fun c => P c v) 0) (c := 0) (n := n) (fun v _ => Nat.le_refl _)
    rw [show fb_sm (fun c => fb_ct (fun v => P c v) n) 0 = 0 from rfl]
    omega
  | m + 1 => by
    rw [fb_sm_succ, sm_swap P n m]
    have : fb_sm (fun v => fb_ct (fun c => P c v) (m + 1)) n = fb_sm (fun v => fb_ct (fun c => P c v) m + (if P m v then 1 else 0)) n := fb_sm_cong (fun v _ => fb_ct_succ _ _)
    rw [this, fb_sm_add, sm_ind]
section EXT
variable {N h : Nat} {sq : Nat → Nat → Nat}
def Latin (sq : Nat → Nat → Nat) (h N : Nat) : Prop := (∀ i c, i < h → c < N → sq i c < N) ∧ (∀ i c c', i < h → c < c' → c' < N → sq i c ≠ sq i c') ∧ ∀ i i' c, i < i' → i' < h → c < N → sq i c ≠ sq i' c
theorem wn_of {tk : Nat → Nat} {f : Nat → Nat} (hf : ∀ c, c < N → f c < N ∧ (tk c).testBit (f c) = false) (hi : ∀ c c', c < c' → c' < N → f c ≠ f c') : ∀ (e Z : Nat), e ≤ N → (∀ c, N - e ≤ c → c < N → Z.testBit (f c) = true) → 0 < Wn N tk e Z
  | 0, _, _, _ => Nat.one_pos
  | e + 1, Z, he, hZ => by
    obtain ⟨c, hc⟩ : ∃ c, c = N - (e + 1) := ⟨_, rfl⟩
    have ih := wn_of hf hi e (Z ^^^ 2 ^ f c) (by omega) (fun j h1 h2 => by
      rw [xor_bit, hZ j (by omega) h2]
      have : ¬ f j = f c := Ne.symm (hi c j (by omega) h2)
      simp [this])
    rw [Wn, ← hc]
    have hb : (Z.testBit (f c) && !(tk c).testBit (f c)) = true := by
      rw [hZ c (by omega) (by omega), (hf c (by omega)).2]; rfl
    have := fb_sm_part (fun v => if Z.testBit v && !(tk c).testBit v then Wn N tk e (Z ^^^ 2 ^ v) else 0) (hf c (by omega)).1
    simp only [hb, ↓reduceIte] at this
    omega
theorem row_more (hN : N ≤ 9) (hh : h < N) (hL : Latin sq h N) : 0 < Wn N (tkOf sq h N) N (2 ^ N - 1) := by
  obtain ⟨l1, l2, l3⟩ := hL
  have h9 : (2 : Nat) ^ N ≤ 2 ^ 9 := Nat.pow_le_pow_right (by decide) hN
  have hp := Nat.two_pow_pos N
  have hA : ∀ c, sd (2 ^ N - 1) (tkOf sq h N c) < 2 ^ 9 := fun c => by
    have : sd (2 ^ N - 1) (tkOf sq h N c) < 2 ^ N := sd_lt (by omega)
    omega
  have hbit : ∀ c v, (sd (2 ^ N - 1) (tkOf sq h N c)).testBit v = (decide (v < N) && !(ex (fun i => decide (sq i c = v)) h)) := fun c v => by
    rw [sd_bit, Nat.testBit_two_pow_sub_one]
    unfold tkOf
    rw [mk_bit]
    by_cases q : v < N <;> simp [q]
  -- a column leaves at least N - h numbers
  have colc : ∀ c, c < N → N - h ≤ fb_ct (fun v => (sd (2 ^ N - 1) (tkOf sq h N c)).testBit v) N := fun c hc => by
    have h1 : fb_ct (fun v => ex (fun i => decide (sq i c = v)) h) N ≤ fb_ct (fun _ => true) h := ct_inj (g := fun v => fa_first (fun i => decide (sq i c = v)) h) (fun v _ hv => by
      unfold ex at hv
      exact ⟨of_decide_eq_true hv, rfl⟩) (fun a b _ _ ha hb hab e => by
      unfold ex at ha hb
      have g1 := fa_first_yes _ h (of_decide_eq_true ha)
      have g2 := fa_first_yes _ h (of_decide_eq_true hb)
      have e' : fa_first (fun i => decide (sq i c = a)) h = fa_first (fun i => decide (sq i c = b)) h := e
      rw [e'] at g1
      exact hab ((of_decide_eq_true g1).symm.trans (of_decide_eq_true g2)))
    have h2 : fb_ct (fun _ => true) h ≤ h := fb_ct_le _ _
    have h3 := fb_ct_not (fun v => ex (fun i => decide (sq i c = v)) h) N
    have h4 : fb_ct (fun v => (sd (2 ^ N - 1) (tkOf sq h N c)).testBit v) N = fb_ct (fun k => !(ex (fun i => decide (sq i c = k)) h)) N := fb_ct_cong (fun v hv => by rw [hbit]; simp [hv])
    omega
  -- a number is left by at most N - h columns
  have numc : ∀ v, v < N → fb_ct (fun c => (sd (2 ^ N - 1) (tkOf sq h N c)).testBit v) N ≤ N - h := fun v hv => by
    have where' : ∀ i, i < h → ∃ c, c < N ∧ sq i c = v := fun i hi => fb_onto (f := sq i) (fun c hc => l1 i c hi hc) (fun c c' q1 q2 => l2 i c c' hi q1 q2) hv
    have h1 : h ≤ fb_ct (fun c => ex (fun i => decide (sq i c = v)) h) N := by
      refine inj_ct (f := fun i => fa_first (fun c => decide (sq i c = v)) N) (fun i hi => ?_) (fun i j hij hj e => ?_)
      · obtain ⟨c, c1, c2⟩ := where' i hi
        have hx : ex (fun c => decide (sq i c = v)) N = true := ex_true.mpr ⟨c, c1, decide_eq_true c2⟩
        unfold ex at hx
        have hy := of_decide_eq_true hx
        have hz := of_decide_eq_true (fa_first_yes _ N hy)
        exact ⟨hy, ex_true.mpr ⟨i, hi, decide_eq_true hz⟩⟩
      · have get : ∀ i, i < h → fa_first (fun c => decide (sq i c = v)) N < N ∧ sq i (fa_first (fun c => decide (sq i c = v)) N) = v := fun i hi => by
          obtain ⟨c, c1, c2⟩ := where' i hi
          have hx : ex (fun c => decide (sq i c = v)) N = true := ex_true.mpr ⟨c, c1, decide_eq_true c2⟩
          unfold ex at hx
          have hy := of_decide_eq_true hx
          exact ⟨hy, of_decide_eq_true (fa_first_yes _ N hy)⟩
        obtain ⟨a1, a2⟩ := get i (by omega)
        obtain ⟨b1, b2⟩ := get j hj
        have e' : fa_first (fun c => decide (sq i c = v)) N = fa_first (fun c => decide (sq j c = v)) N := e
        rw [e'] at a2
        exact l3 i j _ hij hj b1 (a2.trans b2.symm)
    have h3 := fb_ct_not (fun c => ex (fun i => decide (sq i c = v)) h) N
    have h4 : fb_ct (fun c => (sd (2 ^ N - 1) (tkOf sq h N c)).testBit v) N = fb_ct (fun c => !(ex (fun i => decide (sq i c = v)) h)) N := fb_ct_cong (fun c _ => by rw [hbit]; simp [hv])
    omega
  obtain ⟨f, f1, f2⟩ := hall (pcn (2 ^ N - 1)) (2 ^ N - 1) (fun c => sd (2 ^ N - 1) (tkOf sq h N c)) rfl (by omega) hA (fun Z hZ => by
    have hZN : Z < 2 ^ N := sub_lt hZ (by omega)
    have hZ9 : Z < 2 ^ 9 := by omega
    have pz : pcn Z = fb_ct (fun c => Z.testBit c) N := by
      conv => lhs; rw [mk_of hZN]
      exact pcn_mk _ (by omega)
    have hNUN : NU (fun c => sd (2 ^ N - 1) (tkOf sq h N c)) Z < 2 ^ N := Nat.lt_pow_two_of_testBit _ (fun i hi => by
      cases q : (NU (fun c => sd (2 ^ N - 1) (tkOf sq h N c)) Z).testBit i
      · rfl
      · obtain ⟨c, -, g⟩ := (nu_bit hA hZ9).mp q
        rw [hbit] at g
        simp only [Bool.and_eq_true, decide_eq_true_eq] at g
        omega)
    have pn : pcn (NU (fun c => sd (2 ^ N - 1) (tkOf sq h N c)) Z) = fb_ct (fun v => (NU (fun c => sd (2 ^ N - 1) (tkOf sq h N c)) Z).testBit v) N := by
      conv => lhs; rw [mk_of hNUN]
      exact pcn_mk _ (by omega)
    have s1 := sm_swap (fun c v => Z.testBit c && (sd (2 ^ N - 1) (tkOf sq h N c)).testBit v) N N
    have s2 : (N - h) * pcn Z ≤ fb_sm (fun c => fb_ct (fun v => Z.testBit c && (sd (2 ^ N - 1) (tkOf sq h N c)).testBit v) N) N := by
      rw [pz, ← sm_if (fun c => Z.testBit c)]
      refine fb_sm_le (fun c hc => ?_)
      cases q : Z.testBit c
      · exact Nat.zero_le _
      · simp only [↓reduceIte, Bool.true_and]
        exact colc c hc
    have s3 : fb_sm (fun v => fb_ct (fun c => Z.testBit c && (sd (2 ^ N - 1) (tkOf sq h N c)).testBit v) N) N ≤ (N - h) * pcn (NU (fun c => sd (2 ^ N - 1) (tkOf sq h N c)) Z) := by
      rw [pn, ← sm_if (fun v => (NU (fun c => sd (2 ^ N - 1) (tkOf sq h N c)) Z).testBit v)]
      refine fb_sm_le (fun v hv => ?_)
      cases q : (NU (fun c => sd (2 ^ N - 1) (tkOf sq h N c)) Z).testBit v
      · rw [if_neg (by decide)]
        refine Nat.le_of_eq (fb_ct_zero.mpr (fun c _ => ?_))
        cases q2 : Z.testBit c && (sd (2 ^ N - 1) (tkOf sq h N c)).testBit v
        · rfl
        · simp only [Bool.and_eq_true] at q2
          rw [(nu_bit hA hZ9).mpr ⟨c, q2.1, q2.2⟩] at q
          exact q
      · rw [if_pos rfl]
        refine Nat.le_trans (fb_ct_sub (fun c _ hq => ?_)) (numc v hv)
        simp only [Bool.and_eq_true] at hq
        exact hq.2
    exact Nat.le_of_mul_le_mul_left (Nat.le_trans s2 (s1 ▸ s3)) (by omega))
  have hff : ∀ c, c < N → f c < N ∧ (tkOf sq h N c).testBit (f c) = false := fun c hc => by
    have := f1 c (all_bit.mpr hc)
    obtain ⟨g1, g2⟩ := sd_mem.mp this
    exact ⟨all_bit.mp g1, g2⟩
  exact wn_of hff (fun c c' q1 q2 => f2 c c' (all_bit.mpr (by omega)) (all_bit.mpr q2) (by omega)) N (2 ^ N - 1) (Nat.le_refl _) (fun c _ hc => all_bit.mpr (hff c hc).1)
end EXT
