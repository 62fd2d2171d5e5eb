/-! ===== even: a chain in a fair colouring, and the search for a heavy one ===== -/
def Fair (fs sc : Nat → Nat) (n : Nat) (c : Nat → Int32) : Prop := ∀ r q, r < n → q < n → adj fs sc r q = true → c q = c r → c r = -1
theorem fair_iff {fs sc : Nat → Nat} {n : Nat} {c : Nat → Int32} (hn : n ≤ 24) : enc n (clP fs sc c n) = -1 ↔ Fair fs sc n c := by
  rw [enc_m1 (by omega), ex_false]
  unfold clP Fair
  constructor
  · intro h r q hr hq ha he
    have := ex_false.mp (h r hr) q hq
    simp only [ha, he, decide_true, Bool.true_and, Bool.not_eq_false', decide_eq_true_eq] at this
    exact this
  · intro h r hr
    rw [ex_false]
    intro q hq
    cases ha : adj fs sc r q
    · rfl
    · by_cases he : c q = c r
      · simp [he, h r q hr hq ha he]
      · simp [he]
theorem E_adj {fs sc : Nat → Nat} {s t w : Nat} (h1 : E fs sc s w = true) (h2 : E fs sc t w = true) (h : s ≠ t) : adj fs sc s t = true := by
  unfold adj T
  unfold E at *
  simp only [Bool.and_eq_true, Bool.not_eq_true', beq_eq_false_iff_ne, ne_eq, Bool.or_eq_true, beq_iff_eq] at *
  refine ⟨h, ?_⟩
  omega
section EVEN
variable {n p : Nat} {fs sc : Nat → Nat} {F S : Nat → Int32} {c : Nat → Int32} {x y : Int32}
def hitA (fs sc : Nat → Nat) (n : Nat) (c : Nat → Int32) (x y : Int32) (e : Nat → Nat) (K q : Nat) : Bool := K.testBit q && (decide (c q = y) && ex (fun s => K.testBit s && (decide (c s = x) && E fs sc s (e q))) n)
theorem hit_mono {e : Nat → Nat} {K K' : Nat} (h : Sub K K') (q : Nat) (hq : hitA fs sc n c x y e K q = true) : hitA fs sc n c x y e K' q = true := by
  unfold hitA at *
  simp only [Bool.and_eq_true, ex_true] at *
  obtain ⟨h1, h2, s, h3, h4, h5⟩ := hq
  exact ⟨h _ h1, h2, s, h3, h _ h4, h5⟩
theorem chain_in (hn : n ≤ 24) {r C : Nat} (hr : r < n) (hU : xyP c x y r = true) (hC : Least fs sc c n x y (2 ^ r) C) : ∀ i, C.testBit i = true → i < n ∧ xyP c x y i = true := by
  intro i hi
  have := hC.2.2.2 (mk (xyP c x y) n) (fun j hj => by
    rw [Nat.testBit_two_pow] at hj
    have : r = j := of_decide_eq_true hj
    rw [mk_bit, ← this]; simp [hr, hU]) (fun s q hs hq _ h2 _ => by rw [mk_bit]; simp [hq, h2]) i hi
  rw [mk_bit] at this
  simpa using this
theorem chain_bal (hn : n ≤ 24) (hF : Fair fs sc n c) (hxy : x ≠ y) (hx : x ≠ -1) (hy : y ≠ -1) {r C : Nat} (hr : r < n) (hU : xyP c x y r = true) (hC : Least fs sc c n x y (2 ^ r) C) : fb_ct (fun i => C.testBit i && decide (c i = x)) n ≤ fb_ct (fun i => C.testBit i && decide (c i = y)) n + 1 := by
  have hCU := chain_in hn hr hU hC
  have hrC : C.testBit r = true := hC.2.1 r (by rw [Nat.testBit_two_pow]; simp)
  have grow : ∀ m, m + 1 ≤ fb_ct (fun i => C.testBit i) n → ∃ K, Sub K C ∧ K.testBit r = true ∧ fb_ct (fun i => K.testBit i) n = m + 1 ∧ m ≤ fb_ct (hitA fs sc n c x y fs K) n + fb_ct (hitA fs sc n c x y sc K) n := by
    intro m
    induction m with
    | zero =>
      intro _
      refine ⟨2 ^ r, hC.2.1, by rw [Nat.testBit_two_pow]; simp, ?_, Nat.zero_le _⟩
      have h1 := fb_ct_upd (fun _ => false) true hr
      have h2 : fb_ct (fun _ : Nat => false) n = 0 := fb_ct_zero.mpr (fun _ _ => rfl)
      have h3 : fb_ct (fun i => (2 ^ r).testBit i) n = fb_ct (fun k => if k = r then true else false) n := fb_ct_cong (fun k _ => by
        rw [Nat.testBit_two_pow]
        by_cases e : k = r
        · simp [e]
        · simp [e, Ne.symm e])
      rw [h3]
      simp only [Bool.false_eq_true, ↓reduceIte] at h1
      omega
    | succ m ih =>
      intro hm
      obtain ⟨K, k1, k2, k3, k4⟩ := ih (by omega)
      obtain ⟨t, s, h1, h2, h3, h4⟩ : ∃ t s, K.testBit t = true ∧ C.testBit s = true ∧ K.testBit s = false ∧ adj fs sc t s = true := by
        refine Classical.byContradiction (fun hno => ?_)
        have hcl : Closed fs sc c n x y K := fun s q hs hq h1 h2 h3 => by
          have hq2 := hC.2.2.1 s q hs hq (k1 _ h1) h2 h3
          cases hh : K.testBit q
          · exact absurd ⟨s, q, h1, hq2, hh, h3⟩ hno
          · rfl
        have := hC.2.2.2 K (fun i hi => by
          rw [Nat.testBit_two_pow] at hi
          have : r = i := of_decide_eq_true hi
          rw [← this]; exact k2) hcl
        have h2 : fb_ct (fun i => C.testBit i) n ≤ fb_ct (fun i => K.testBit i) n := fb_ct_sub (fun k _ hk => this k hk)
        omega
      obtain ⟨s1, s2⟩ := hCU s h2
      obtain ⟨t1, t2⟩ := hCU t (k1 _ h1)
      have hsub : Sub K (K ||| 2 ^ s) := sub_or_l _ _
      have hbs : ∀ i, (K ||| 2 ^ s).testBit i = (K.testBit i || decide (i = s)) := fun i => fb_bit_set K s i
      refine ⟨K ||| 2 ^ s, fun i hi => ?_, by rw [hbs, k2]; rfl, ?_, ?_⟩
      · rw [hbs] at hi
        rcases (Bool.or_eq_true _ _).mp hi with q | q
        · exact k1 _ q
        · rw [of_decide_eq_true q]; exact h2
      · have q1 := fb_ct_upd (fun i => K.testBit i) true s1
        have q2 : fb_ct (fun i => (K ||| 2 ^ s).testBit i) n = fb_ct (fun k => if k = s then true else K.testBit k) n := fb_ct_cong (fun k _ => by
          rw [hbs]
          by_cases e : k = s <;> simp [e])
        rw [q2]
        simp only [h3, Bool.false_eq_true, ↓reduceIte] at q1
        omega
      · have mono : ∀ e : Nat → Nat, fb_ct (hitA fs sc n c x y e K) n ≤ fb_ct (hitA fs sc n c x y e (K ||| 2 ^ s)) n := fun e => fb_ct_sub (fun k _ hk => hit_mono hsub k hk)
        have key : ∃ e, (e = fs ∨ e = sc) ∧ ∃ q, q < n ∧ hitA fs sc n c x y e K q = false ∧ hitA fs sc n c x y e (K ||| 2 ^ s) q = true := by
          have hne : c s ≠ c t := fun he => by
            have := hF t s t1 s1 h4 he
            unfold xyP at t2
            simp only [Bool.or_eq_true, decide_eq_true_eq] at t2
            rcases t2 with q | q
            · exact hx (by rw [← q, this])
            · exact hy (by rw [← q, this])
          have hT : T fs sc t s = true := by
            unfold adj at h4
            simp only [Bool.and_eq_true] at h4
            exact h4.2
          unfold xyP at s2 t2
          simp only [Bool.or_eq_true, decide_eq_true_eq] at s2 t2
          rcases s2 with hs | hs
          · have ht : c t = y := by
              rcases t2 with q | q
              · exact absurd (by rw [hs, q]) hne
              · exact q
            rw [T_symm] at hT
            obtain ⟨e, he, hEe⟩ : ∃ e, (e = fs ∨ e = sc) ∧ E fs sc s (e t) = true := by
              unfold T at hT
              rcases (Bool.or_eq_true _ _).mp hT with q | q
              · exact ⟨fs, Or.inl rfl, q⟩
              · exact ⟨sc, Or.inr rfl, q⟩
            refine ⟨e, he, t, t1, ?_, ?_⟩
            · unfold hitA
              have : ex (fun s => K.testBit s && (decide (c s = x) && E fs sc s (e t))) n = false := by
                rw [ex_false]
                intro s' hs'
                cases hh : K.testBit s' && (decide (c s' = x) && E fs sc s' (e t))
                · rfl
                · simp only [Bool.and_eq_true, decide_eq_true_eq] at hh
                  obtain ⟨g1, g2, g3⟩ := hh
                  have hd : s' ≠ s := fun q => by rw [q, h3] at g1; exact Bool.noConfusion g1
                  have := hF s' s hs' s1 (E_adj g3 hEe hd) (by rw [hs, g2])
                  exact absurd (g2.symm.trans this) hx
              rw [this]
              simp
            · unfold hitA
              simp only [Bool.and_eq_true, ex_true, decide_eq_true_eq]
              exact ⟨hsub _ h1, ht, s, s1, by rw [hbs]; simp, hs, hEe⟩
          · have ht : c t = x := by
              rcases t2 with q | q
              · exact q
              · exact absurd (by rw [hs, q]) hne
            obtain ⟨e, he, hEe⟩ : ∃ e, (e = fs ∨ e = sc) ∧ E fs sc t (e s) = true := by
              unfold T at hT
              rcases (Bool.or_eq_true _ _).mp hT with q | q
              · exact ⟨fs, Or.inl rfl, q⟩
              · exact ⟨sc, Or.inr rfl, q⟩
            refine ⟨e, he, s, s1, ?_, ?_⟩
            · unfold hitA
              rw [h3]; rfl
            · unfold hitA
              simp only [Bool.and_eq_true, ex_true, decide_eq_true_eq]
              exact ⟨by rw [hbs]; simp, hs, t, t1, hsub _ h1, ht, hEe⟩
        obtain ⟨e, he, q, q1, q2, q3⟩ := key
        have hlt : fb_ct (hitA fs sc n c x y e K) n < fb_ct (hitA fs sc n c x y e (K ||| 2 ^ s)) n := ct_lt (fun j _ hj => hit_mono hsub j hj) q1 q2 q3
        have m1 := mono fs
        have m2 := mono sc
        rcases he with rfl | rfl <;> omega
  have hpos : 0 < fb_ct (fun i => C.testBit i) n := fb_ct_pos.mpr ⟨r, hr, hrC⟩
  obtain ⟨m, hm⟩ : ∃ m, fb_ct (fun i => C.testBit i) n = m + 1 := ⟨_, (Nat.succ_pred_eq_of_pos hpos).symm⟩
  obtain ⟨K, k1, k2, k3, k4⟩ := grow m (by omega)
  have hle : ∀ e : Nat → Nat, fb_ct (hitA fs sc n c x y e K) n ≤ fb_ct (fun i => C.testBit i && decide (c i = y)) n := fun e => fb_ct_sub (fun k _ hk => by
    unfold hitA at hk
    simp only [Bool.and_eq_true] at hk
    simp only [Bool.and_eq_true]
    exact ⟨k1 _ hk.1, hk.2.1⟩)
  have l1 := hle fs
  have l2 := hle sc
  have hsum : fb_ct (fun i => C.testBit i) n = fb_ct (fun i => C.testBit i && decide (c i = x)) n + fb_ct (fun i => C.testBit i && decide (c i = y)) n := by
    rw [← fb_ct_or (fun k _ hk => by
      simp only [Bool.and_eq_true, decide_eq_true_eq] at hk
      exact hxy (hk.1.2.symm.trans hk.2.2))]
    refine fb_ct_cong (fun k _ => ?_)
    cases hh : C.testBit k
    · rfl
    · have := (hCU k hh).2
      unfold xyP at this
      simp [this]
  omega
/-- fairness stays when a chain is swapped -/
theorem fair_swap (hn : n ≤ 24) (hF : Fair fs sc n c) (hxy : x ≠ y) (hx : x ≠ -1) (hy : y ≠ -1) {r C : Nat} (hr : r < n) (hU : xyP c x y r = true) (hC : Least fs sc c n x y (2 ^ r) C) : Fair fs sc n (sxc C x y c n) := by
  have hCU := chain_in hn hr hU hC
  have out : ∀ a b, a < n → b < n → adj fs sc a b = true → C.testBit a = true → C.testBit b = false → (c b ≠ x ∧ c b ≠ y) := fun a b ha hb hab h1 h2 => by
    cases hh : xyP c x y b
    · unfold xyP at hh
      simpa using hh
    · have := hC.2.2.1 a b ha hb h1 hh hab
      rw [h2] at this
      exact Bool.noConfusion this
  have inC : ∀ a, a < n → C.testBit a = true → (c a = x ∧ sxc C x y c n a = y) ∨ (c a = y ∧ sxc C x y c n a = x) := fun a ha h1 => by
    have := (hCU a h1).2
    unfold xyP at this
    simp only [Bool.or_eq_true, decide_eq_true_eq] at this
    rcases this with q | q
    · left; exact ⟨q, by unfold sxc; rw [if_pos ⟨ha, h1⟩, if_pos q]⟩
    · right; exact ⟨q, by unfold sxc; rw [if_pos ⟨ha, h1⟩, if_neg (by rw [q]; exact Ne.symm hxy)]⟩
  have noC : ∀ a, C.testBit a = false → sxc C x y c n a = c a := fun a h1 => by
    unfold sxc; rw [if_neg (by rw [h1]; simp)]
  intro a b ha hb hab he
  cases h1 : C.testBit a <;> cases h2 : C.testBit b
  · rw [noC a h1, noC b h2] at he
    rw [noC a h1]
    exact hF a b ha hb hab he
  · obtain ⟨g1, g2⟩ := out b a hb ha (by rw [adj_symm]; exact hab) h2 h1
    rw [noC a h1] at he
    rcases inC b hb h2 with ⟨_, q⟩ | ⟨_, q⟩
    · exact absurd (by rw [← he, q]) g2
    · exact absurd (by rw [← he, q]) g1
  · obtain ⟨g1, g2⟩ := out a b ha hb hab h1 h2
    rw [noC b h2] at he
    rcases inC a ha h1 with ⟨_, q⟩ | ⟨_, q⟩
    · exact absurd (by rw [he, q]) g2
    · exact absurd (by rw [he, q]) g1
  · rcases inC a ha h1 with ⟨z1, q1⟩ | ⟨z1, q1⟩ <;> rcases inC b hb h2 with ⟨z2, q2⟩ | ⟨z2, q2⟩
    · exact absurd ((z1).symm.trans (hF a b ha hb hab (by rw [z1, z2]))) hx
    · rw [q1, q2] at he; exact absurd he hxy
    · rw [q1, q2] at he; exact absurd he.symm hxy
    · exact absurd ((z1).symm.trans (hF a b ha hb hab (by rw [z1, z2]))) hy
/-- how many roads bear a number -/
def kc (c : Nat → Int32) (n a : Nat) : Nat := fb_ct (fun r => decide (c r = nI a)) n
theorem kc_le (c : Nat → Int32) (n a : Nat) : kc c n a ≤ n := fb_ct_le _ _
theorem ct_split (P Q : Nat → Bool) (n : Nat) : fb_ct P n = fb_ct (fun i => Q i && P i) n + fb_ct (fun i => !Q i && P i) n := by
  rw [← fb_ct_or (fun k _ hk => by
    simp only [Bool.and_eq_true] at hk
    rw [hk.1.1] at hk
    simp at hk)]
  refine fb_ct_cong (fun k _ => ?_)
  cases Q k <;> simp
theorem swap_counts (hn : n ≤ 24) (hxy : x ≠ y) {r C : Nat} (hr : r < n) (hU : xyP c x y r = true) (hC : Least fs sc c n x y (2 ^ r) C) : fb_ct (fun r => decide (sxc C x y c n r = x)) n + fb_ct (fun i => C.testBit i && decide (c i = x)) n = fb_ct (fun r => decide (c r = x)) n + fb_ct (fun i => C.testBit i && decide (c i = y)) n ∧ fb_ct (fun r => decide (sxc C x y c n r = y)) n + fb_ct (fun i => C.testBit i && decide (c i = y)) n = fb_ct (fun r => decide (c r = y)) n + fb_ct (fun i => C.testBit i && decide (c i = x)) n ∧ ∀ z, z ≠ x → z ≠ y → fb_ct (fun r => decide (sxc C x y c n r = z)) n = fb_ct (fun r => decide (c r = z)) n := by
  have hCU := chain_in hn hr hU hC
  have val : ∀ a, a < n → sxc C x y c n a = if C.testBit a then (if c a = x then y else x) else c a := fun a ha => by
    unfold sxc
    cases C.testBit a <;> simp [ha]
  have inC : ∀ a, C.testBit a = true → c a = x ∨ c a = y := fun a h1 => by
    have := (hCU a h1).2
    unfold xyP at this
    simpa using this
  have a1 : fb_ct (fun i => C.testBit i && decide (sxc C x y c n i = x)) n = fb_ct (fun i => C.testBit i && decide (c i = y)) n := fb_ct_cong (fun k hk => by
    rw [val k hk]
    cases hh : C.testBit k
    · rfl
    · rcases inC k hh with q | q
      · simp [q, hxy, Ne.symm hxy]
      · simp [q, Ne.symm hxy])
  have a2 : fb_ct (fun i => C.testBit i && decide (sxc C x y c n i = y)) n = fb_ct (fun i => C.testBit i && decide (c i = x)) n := fb_ct_cong (fun k hk => by
    rw [val k hk]
    cases hh : C.testBit k
    · rfl
    · rcases inC k hh with q | q
      · simp [q]
      · simp [q, hxy, Ne.symm hxy])
  have a3 : ∀ z, fb_ct (fun i => !C.testBit i && decide (sxc C x y c n i = z)) n = fb_ct (fun i => !C.testBit i && decide (c i = z)) n := fun z => fb_ct_cong (fun k hk => by
    rw [val k hk]
    cases hh : C.testBit k <;> simp)
  refine ⟨?_, ?_, fun z hz1 hz2 => ?_⟩
  · rw [ct_split (fun r => decide (sxc C x y c n r = x)) (fun i => C.testBit i) n, ct_split (fun r => decide (c r = x)) (fun i => C.testBit i) n, a1, a3]
    omega
  · rw [ct_split (fun r => decide (sxc C x y c n r = y)) (fun i => C.testBit i) n, ct_split (fun r => decide (c r = y)) (fun i => C.testBit i) n, a2, a3]
    omega
  · refine fb_ct_cong (fun k hk => ?_)
    rw [val k hk]
    cases hh : C.testBit k
    · rfl
    · rcases inC k hh with q | q
      · simp [q, Ne.symm hz1, Ne.symm hz2]
      · simp [q, Ne.symm hz1, Ne.symm hz2, Ne.symm hxy]
/-- the sum of the squares -/
def sqs (c : Nat → Int32) (n L : Nat) : Nat := fb_sm (fun a => kc c n a * kc c n a) L
theorem sm_one (f : Nat → Int32) (z : Int32) : ∀ L, L ≤ 16 → fb_sm (fun a => if z = nI a then 1 else 0) L ≤ 1 ∧ ((∃ a, a < L ∧ z = nI a) ∨ fb_sm (fun a => if z = nI a then 1 else 0) L = 0)
  | 0, _ => ⟨by simp [fb_sm], Or.inr rfl⟩
  | L + 1, h => by
    obtain ⟨h1, h2⟩ := sm_one f z L (by omega)
    rw [fb_sm_succ]
    by_cases e : z = nI L
    · rcases h2 with ⟨a, ha, e2⟩ | h2
      · rw [e] at e2
        have := (nI_eq (by omega) (by omega)).mp e2
        omega
      · rw [h2, if_pos e]
        exact ⟨by omega, Or.inl ⟨L, by omega, e⟩⟩
    · rw [if_neg e]
      refine ⟨by omega, ?_⟩
      rcases h2 with ⟨a, ha, e2⟩ | h2
      · exact Or.inl ⟨a, by omega, e2⟩
      · exact Or.inr (by omega)
theorem kc_sum (c : Nat → Int32) {L : Nat} (hL : L ≤ 16) : ∀ m, fb_sm (fun a => kc c m a) L ≤ m
  | 0 => by
    have := fb_sm_bound (f := fun a => kc c 0 a) (c := 0) (n := L) (fun k _ => by unfold kc; simp [fb_ct])
    omega
  | m + 1 => by
    have ih := kc_sum c hL m
    have e : fb_sm (fun a => kc c (m + 1) a) L = fb_sm (fun a => kc c m a + (if c m = nI a then 1 else 0)) L := fb_sm_cong (fun k _ => by
      unfold kc; rw [fb_ct_succ]; simp)
    rw [e, fb_sm_add]
    have := (sm_one c (c m) L hL).1
    have ih' : fb_sm (kc c m) L ≤ m := ih
    omega
theorem sqs_le (c : Nat → Int32) {n L : Nat} (hn : n ≤ 24) (hL : L ≤ 16) : sqs c n L ≤ 576 := by
  have h1 := kc_sum c hL n
  have h2 : ∀ L, sqs c n L ≤ 24 * fb_sm (fun a => kc c n a) L := by
    intro L
    induction L with
    | zero => simp [sqs, fb_sm]
    | succ L ih =>
      unfold sqs at *
      rw [fb_sm_succ, fb_sm_succ]
      have := kc_le c n L
      have : kc c n L * kc c n L ≤ 24 * kc c n L := Nat.mul_le_mul_right _ (by omega)
      omega
  have := h2 L
  omega
theorem sqs_swap (hn : n ≤ 24) {X Y L : Nat} (hX : X < L) (hY : Y < L) (hL : L ≤ 16) {r C : Nat} (hr : r < n) (hU : xyP c (nI X) (nI Y) r = true) (hC : Least fs sc c n (nI X) (nI Y) (2 ^ r) C) (hF : Fair fs sc n c) (h2 : kc c n Y + 2 ≤ kc c n X) (hv : fb_ct (fun i => C.testBit i && decide (c i = nI Y)) n < fb_ct (fun i => C.testBit i && decide (c i = nI X)) n) : sqs (sxc C (nI X) (nI Y) c n) n L + 2 ≤ sqs c n L := by
  have hne : X ≠ Y := fun e => by rw [e] at h2; omega
  have hxy : nI X ≠ nI Y := fun e => hne ((nI_eq (by omega) (by omega)).mp e)
  have hb := chain_bal hn hF hxy (m1_ne (by omega)) (m1_ne (by omega)) hr hU hC
  obtain ⟨s1, s2, s3⟩ := swap_counts hn hxy hr hU hC
  have k1 : kc (sxc C (nI X) (nI Y) c n) n X + 1 = kc c n X := by unfold kc; omega
  have k2 : kc (sxc C (nI X) (nI Y) c n) n Y = kc c n Y + 1 := by unfold kc; omega
  obtain ⟨f, hf⟩ : ∃ f : Nat → Nat, f = fun k => kc c n k * kc c n k := ⟨_, rfl⟩
  obtain ⟨g, hg⟩ : ∃ g : Nat → Nat, g = fun k => if k = Y then (kc c n Y + 1) * (kc c n Y + 1) else f k := ⟨_, rfl⟩
  have e1 : sqs (sxc C (nI X) (nI Y) c n) n L = fb_sm (fun k => if k = X then (kc c n X - 1) * (kc c n X - 1) else g k) L := fb_sm_cong (fun k hk => by
    by_cases q1 : k = X
    · rw [if_pos q1, q1, show kc (sxc C (nI X) (nI Y) c n) n X = kc c n X - 1 by omega]
    · by_cases q2 : k = Y
      · simp only [hg, q2, if_neg (Ne.symm hne), ↓reduceIte, k2]
      · simp only [hg, hf, q1, q2, ↓reduceIte]
        have : kc (sxc C (nI X) (nI Y) c n) n k = kc c n k := s3 (nI k) (fun e => q1 ((nI_eq (by omega) (by omega)).mp e)) (fun e => q2 ((nI_eq (by omega) (by omega)).mp e))
        rw [this])
  have e2 : sqs c n L = fb_sm f L := by rw [hf]; rfl
  rw [e1, e2]
  have u1 := fb_sm_upd g ((kc c n X - 1) * (kc c n X - 1)) hX
  have u2 := fb_sm_upd f ((kc c n Y + 1) * (kc c n Y + 1)) hY
  rw [← hg] at u2
  rw [show g X = kc c n X * kc c n X by rw [hg]; simp only [if_neg hne]; rw [hf]] at u1
  rw [show f Y = kc c n Y * kc c n Y by rw [hf]] at u2
  obtain ⟨d, hd⟩ : ∃ d, kc c n X = kc c n Y + 2 + d := ⟨kc c n X - kc c n Y - 2, by omega⟩
  rw [hd] at u1 ⊢
  rw [show kc c n Y + 2 + d - 1 = kc c n Y + 1 + d by omega] at u1 ⊢
  have a1 : (kc c n Y + 1 + d) * (kc c n Y + 1 + d) + (kc c n Y + 1) * (kc c n Y + 1) + 2 ≤ (kc c n Y + 2 + d) * (kc c n Y + 2 + d) + kc c n Y * kc c n Y := by
    generalize kc c n Y = k
    have : (k + 2 + d) * (k + 2 + d) = (k + 1 + d) * (k + 1 + d) + 2 * (k + 1 + d) + 1 := by
      rw [show k + 2 + d = (k + 1 + d) + 1 by omega]
      generalize k + 1 + d = m
      rw [Nat.add_mul, Nat.mul_add]; omega
    have h3 : (k + 1) * (k + 1) = k * k + 2 * k + 1 := by rw [Nat.add_mul, Nat.mul_add]; omega
    omega
  omega
end EVEN
