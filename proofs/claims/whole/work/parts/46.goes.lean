/-! ===== the model's search: one step ===== -/
section GOES
variable {n p : Nat} {fs sc : Nat → Nat} {F S : Nat → Int32}
theorem lookRow (hE : EndsOK n p fs sc F S) {tr hv ms : Nat → Int32} {r : Nat} (hr : r < n) (g : Nat → Int32) (hg : g r = 0) : ∃ g', loopO (X8_lookAtRoads_L19 (nI n) F S tr hv ms (nI r)) (g, 0) = X8_lookAtRoads_J63 (nI n) F S tr g' hv ms (nI r) ∧ g' r = nI (nb fs sc n r) ∧ ∀ j, j ≠ r → g' j = g j := by
  have hn := hE.1
  obtain ⟨A, hA⟩ : ∃ A : Nat → (Nat → Int32), A = fun i => upd g r (nI (mk (fun s => adj fs sc r s) i)) := ⟨_, rfl⟩
  have h0 : (g, (0 : Int32)) = (A 0, nI 0) := by
    rw [hA]
    congr 1
    funext j
    simp only [upd_at]
    split
    · rename_i e; rw [e, hg]; rfl
    · rfl
  refine ⟨A n, ?_, by rw [hA]; simp only [upd_at, ↓reduceIte], fun j hj => by rw [hA]; simp only [upd_at, hj, ↓reduceIte]⟩
  rw [h0]
  refine (for_go (fun i => (A i, nI i)) n (fun i hi => ?_)).trans ?_
  · have hAr : A i r = nI (mk (fun s => adj fs sc r s) i) := by rw [hA]; simp only [upd_at, ↓reduceIte]
    have hup : ∀ v, upd (A i) r v = upd g r v := fun v => by rw [hA]; exact fa_upd_twice g r _ v
    have hs : mk (fun s => adj fs sc r s) (i + 1) = if adj fs sc r i then mk (fun s => adj fs sc r s) i ||| 2 ^ i else mk (fun s => adj fs sc r s) i := by
      refine Nat.eq_of_testBit_eq (fun q => ?_)
      have : ∀ b : Bool, ((if b then mk (fun s => adj fs sc r s) i ||| 2 ^ i else mk (fun s => adj fs sc r s) i).testBit q) = ((mk (fun s => adj fs sc r s) i).testBit q || (b && decide (q = i))) := fun b => by
        cases b
        · simp
        · simp only [↓reduceIte, Bool.true_and]; rw [fb_bit_set]
      rw [this, mk_bit, mk_bit]
      by_cases e : q = i
      · rw [e]; simp
      · by_cases e2 : q < i
        · have : q < i + 1 := by omega
          simp [e, e2, this]
        · have : ¬ q < i + 1 := by omega
          simp [e, e2, this]
    have hA1 : A (i + 1) = upd g r (nI (if adj fs sc r i then mk (fun s => adj fs sc r s) i ||| 2 ^ i else mk (fun s => adj fs sc r s) i)) := by rw [hA]; simp only [hs]
    rw [hA1]
    by_cases e : i = r
    · subst e
      simp (disch := omega) only [X8_lookAtRoads_L19, nI_leI, Nat.not_le.mpr hi, ↓reduceIte, rd_nI, hAr, X8_lookAtRoads_J54, X8_lookAtRoads_J55, wr_nI, bnd_at, nI_1, hup, adj_irr, Bool.false_eq_true]
      rw [show (0 : Int32) = nI 0 from rfl, fa_or, Nat.or_zero]
    · have e' : ¬ nI i = nI r := by rw [nI_eq (by omega) (by omega)]; exact e
      have ha : adj fs sc r i = T fs sc r i := by
        unfold adj
        have : ¬ r = i := fun q => e q.symm
        simp [this]
      rw [ha]
      cases hT : T fs sc r i
      · simp (disch := omega) only [X8_lookAtRoads_L19, nI_leI, Nat.not_le.mpr hi, ↓reduceIte, rd_nI, hAr, e', meet_nI hE hr hi, hT, Option.bind_some, Bool.false_eq_true, X8_lookAtRoads_J54, X8_lookAtRoads_J55, wr_nI, bnd_at, nI_1, hup]
        rw [show (0 : Int32) = nI 0 from rfl, fa_or, Nat.or_zero]
      · simp (disch := omega) only [X8_lookAtRoads_L19, nI_leI, Nat.not_le.mpr hi, ↓reduceIte, rd_nI, hAr, e', meet_nI hE hr hi, hT, Option.bind_some, o10, X8_lookAtRoads_J55, wr_nI, bnd_at, nI_1, hup]
        rw [sh_nI (by omega), fa_or]
  · refine lp_map ?_
    simp only [X8_lookAtRoads_L19, Int32.le_refl, ↓reduceIte]
def LookOK (fs sc : Nat → Nat) (n : Nat) (o : (Nat → Int32) × (Nat → Int32) × (Nat → Int32) × (Nat → Int32)) : Prop := (∀ j, j < n → o.1 j = -1) ∧ (∀ j, j < n → o.2.1 j = nI (nb fs sc n j)) ∧ (∀ j, j < n → o.2.2.1 j = 0) ∧ o.2.2.2 0 = 0
theorem m_look (hE : EndsOK n p fs sc F S) (tr th hv ms : Nat → Int32) : ∃ o, FX8_lookAtRoads (nI n) F S tr th hv ms = some o ∧ LookOK fs sc n o := by
  have hn := hE.1
  unfold FX8_lookAtRoads
  refine for_inv (fun (g : (Nat → Int32) × (Nat → Int32) × (Nat → Int32)) i => (g.1, g.2.1, g.2.2, nI i)) n (fun i g => (∀ j, j < i → g.1 j = -1) ∧ (∀ j, j < i → g.2.1 j = nI (nb fs sc n j)) ∧ ∀ j, j < i → g.2.2 j = 0) _ (fun i g hi hI => ?_) (fun g hI => ?_) (i := 0) (a := (tr, th, hv)) (Nat.zero_le _) ⟨fun j hj => by omega, fun j hj => by omega, fun j hj => by omega⟩
  · left
    obtain ⟨a, b, d⟩ := g
    obtain ⟨i1, i2, i3⟩ := hI
    simp only at i1 i2 i3
    obtain ⟨g', k1, k2, k3⟩ := lookRow hE (tr := a) (hv := d) (ms := ms) hi (upd b i 0) (by rw [upd_at, if_pos rfl])
    refine ⟨(upd a i (-1), g', upd d i 0), ?_, fun j hj => ?_, fun j hj => ?_, fun j hj => ?_⟩
    · simp (disch := omega) only [X8_lookAtRoads_L2, nI_leI, Nat.not_le.mpr hi, ↓reduceIte, wr_nI]
      rw [k1]
      simp (disch := omega) only [X8_lookAtRoads_J63, wr_nI, bnd_at, nI_1]
    · show upd a i (-1) j = -1
      rw [upd_at]; split
      · rfl
      · exact i1 j (by omega)
    · by_cases e : j = i
      · rw [e]; exact k2
      · show g' j = _
        rw [k3 j e, upd_at, if_neg e]; exact i2 j (by omega)
    · show upd d i 0 j = 0
      rw [upd_at]; split
      · rfl
      · exact i3 j (by omega)
  · obtain ⟨a, b, d⟩ := g
    refine ⟨(a, b, d, upd ms 0 0), ?_, hI.1, hI.2.1, hI.2.2, by simp only [upd_at, ↓reduceIte]⟩
    simp only [X8_lookAtRoads_L2, Int32.le_refl, ↓reduceIte, X8_lookAtRoads_J83]
    rw [show (0 : Int32) = nI 0 from rfl, wr_nI (by decide) (by decide)]
    rfl
/-- how many numbers the roads below j have -/
def mo (s : Nat) (φ : Nat → Nat) : Nat → Nat
  | 0 => 0
  | j + 1 => if j = s then mo s φ j else if φ j = mo s φ j then mo s φ j + 1 else mo s φ j
theorem mo_le (s : Nat) (φ : Nat → Nat) : ∀ j, mo s φ j ≤ j
  | 0 => Nat.le_refl _
  | j + 1 => by
    have := mo_le s φ j
    rw [mo]
    split
    · omega
    · split <;> omega
theorem mo_up (s : Nat) (φ : Nat → Nat) (i : Nat) : ∀ j, i ≤ j → mo s φ i ≤ mo s φ j
  | 0, h => by rw [show i = 0 by omega]; exact Nat.le_refl _
  | j + 1, h => by
    by_cases e : i = j + 1
    · rw [e]; exact Nat.le_refl _
    · have := mo_up s φ i j (by omega)
      rw [mo]
      split
      · exact this
      · split <;> omega
theorem mo_cong {s : Nat} {φ ψ : Nat → Nat} : ∀ {j : Nat}, (∀ i, i < j → i ≠ s → φ i = ψ i) → mo s φ j = mo s ψ j
  | 0, _ => rfl
  | j + 1, h => by
    have := mo_cong (j := j) (fun i hi => h i (by omega))
    rw [mo, mo, this]
    by_cases e : j = s
    · rw [if_pos e, if_pos e]
    · rw [if_neg e, if_neg e, h j (by omega) e]
theorem mo_gt {s : Nat} {φ : Nat → Nat} {i j : Nat} (hi : i < j) (hs : i ≠ s) (hr : φ i ≤ mo s φ i) : φ i < mo s φ j := by
  refine Nat.lt_of_lt_of_le ?_ (mo_up s φ (i + 1) j hi)
  rw [mo, if_neg hs]
  split <;> omega
def havB (s : Nat) (φ : Nat → Nat) (d x v j : Nat) : Bool := !decide (j = s) && ((decide (j < d) && decide (φ j = v)) || (decide (j = d) && decide (x = v + 1)))
def Inv (n s : Nat) (φ : Nat → Nat) (d x : Nat) (tr hv ms : Nat → Int32) : Prop := (∀ j, j < n → j ≠ s → tr j = if j < d then nI (φ j) else if j = d ∧ x ≠ 0 then nI (x - 1) else -1) ∧ (∀ v, v < n → hv v = nI (mk (havB s φ d x v) n)) ∧ ∀ j, j ≤ d → ms j = nI (mo s φ j)
theorem inv_cong {s d x : Nat} {φ ψ : Nat → Nat} {tr hv ms : Nat → Int32} (h : ∀ i, i < d → i ≠ s → φ i = ψ i) (hI : Inv n s φ d x tr hv ms) : Inv n s ψ d x tr hv ms := by
  obtain ⟨h1, h2, h3⟩ := hI
  refine ⟨fun j hj hs => ?_, fun v hv => ?_, fun j hj => ?_⟩
  · rw [h1 j hj hs]
    by_cases e : j < d
    · rw [if_pos e, if_pos e, h j e hs]
    · rw [if_neg e, if_neg e]
  · rw [h2 v hv]
    congr 1
    refine mk_cong (fun j hj => ?_)
    unfold havB
    by_cases e : j = s
    · simp [e]
    · by_cases e2 : j < d
      · rw [h j e2 e]
      · simp [e2]
  · rw [h3 j hj, mo_cong (fun i hi hs => h i (by omega) hs)]
/-- going back to the road before -/
theorem inv_back {s d j : Nat} {φ : Nat → Nat} {tr hv ms : Nat → Int32} (hj : j < d) (hjs : j ≠ s) (hno : ∀ i, j < i → i < d → i = s) (hI : Inv n s φ d 0 tr hv ms) : Inv n s φ j (φ j + 1) tr hv ms := by
  obtain ⟨h1, h2, h3⟩ := hI
  refine ⟨fun i hi hs => ?_, fun v hv => ?_, fun i hi => h3 i (by omega)⟩
  · rw [h1 i hi hs]
    rcases Nat.lt_trichotomy i j with q | q | q
    · rw [if_pos (by omega), if_pos q]
    · subst q
      rw [if_pos hj, if_neg (by omega), if_pos ⟨rfl, by omega⟩, Nat.add_sub_cancel]
    · have : ¬ i < d := fun h => hs (hno i q h)
      rw [if_neg this, if_neg (fun h => h.2 rfl), if_neg (by omega), if_neg (fun h => by omega)]
  · rw [h2 v hv]
    congr 1
    refine mk_cong (fun i _ => ?_)
    unfold havB
    by_cases e : i = s
    · simp [e]
    · rcases Nat.lt_trichotomy i j with q | q | q
      · have q1 : i < d := by omega
        have q2 : ¬ i = j := by omega
        simp [e, q, q1, q2]
      · subst q
        simp [e, hj]
      · have q1 : ¬ i < d := fun h => e (hno i q h)
        have q2 : ¬ i = j := by omega
        have q3 : ¬ i < j := by omega
        simp [e, q1, q2, q3]
def frB (fs sc : Nat → Nat) (s : Nat) (φ : Nat → Nat) (d v : Nat) : Bool := !(ex (fun j => !decide (j = s) && (decide (φ j = v) && adj fs sc d j)) d)
theorem fr_mask {s d v : Nat} {φ : Nat → Nat} (hd : d < n) : (mk (havB s φ d 0 v) n &&& nb fs sc n d = 0) ↔ frB fs sc s φ d v = true := by
  unfold frB
  rw [Bool.not_eq_true', ex_false]
  constructor
  · intro h j hj
    have := congrArg (fun z => z.testBit j) h
    simp only [Nat.testBit_and, mk_bit, Nat.zero_testBit, show j < n by omega, decide_true, Bool.true_and, havB, hj] at this
    simp only [Bool.and_eq_false_iff, Bool.not_eq_false', decide_eq_true_eq, decide_eq_false_iff_not, Bool.or_eq_false_iff] at this ⊢
    rcases this with q | q
    · rcases q with q | q
      · exact Or.inl q
      · exact Or.inr (Or.inl q.1)
    · exact Or.inr (Or.inr q)
  · intro h
    refine Nat.eq_of_testBit_eq (fun j => ?_)
    rw [Nat.testBit_and, mk_bit, mk_bit, Nat.zero_testBit]
    by_cases hj : j < d
    · have := h j hj
      unfold havB
      simp only [show j < n by omega, hj, decide_true, Bool.true_and]
      simp only [Bool.and_eq_false_iff, Bool.not_eq_false', decide_eq_true_eq, decide_eq_false_iff_not, Bool.or_eq_false_iff] at this ⊢
      rcases this with q | q | q
      · exact Or.inl (Or.inl q)
      · exact Or.inl (Or.inr ⟨q, Or.inr (by omega)⟩)
      · exact Or.inr q
    · unfold havB
      simp [hj]
theorem goes_ok {s d x k : Nat} {φ : Nat → Nat} {tr th hv ms : Nat → Int32} (hn : n ≤ 12) (hd : d < n) (hds : d ≠ s) (hk : k ≤ 16) (hxk : x ≤ k) (hxm : x ≤ mo s φ d + 1) (hth : th d = nI (nb fs sc n d)) (hI : Inv n s φ d x tr hv ms) : ∃ o, FX8_goesOn tr th hv ms (nI d) (nI k) = some o ∧ ((o.1 = 0 ∧ (∀ m, x ≤ m → m < k → m ≤ mo s φ d → frB fs sc s φ d m = false) ∧ Inv n s φ d 0 o.2.1 o.2.2.1 o.2.2.2) ∨ (∃ v, o.1 = 1 ∧ x ≤ v ∧ v < k ∧ v ≤ mo s φ d ∧ frB fs sc s φ d v = true ∧ (∀ m, x ≤ m → m < v → frB fs sc s φ d m = false) ∧ Inv n s (fun j => if j = d then v else φ j) (d + 1) 0 o.2.1 o.2.2.1 o.2.2.2)) := by
  have hn12 : (2 : Nat) ^ n ≤ 4096 := Nat.pow_le_pow_right (n := 2) (by decide) hn
  have hmo := mo_le s φ d
  obtain ⟨i1, i2, i3⟩ := hI
  have htr := i1 d hd hds
  rw [if_neg (by omega)] at htr
  have hmsd := i3 d (Nat.le_refl _)
  have hlen : ∀ P, mk P n < 2 ^ 31 := fun P => Nat.lt_of_lt_of_le (mk_lt P n) (by omega)
  -- after the road's own number is taken away
  have core : ∀ hv' : Nat → Int32, (∀ v, v < n → hv' v = nI (mk (havB s φ d 0 v) n)) → ∃ o, loopO (X8_goesOn_L28 tr th hv' ms (nI d) (nI k)) (nI x) = some o ∧ ((o.1 = 0 ∧ (∀ m, x ≤ m → m < k → m ≤ mo s φ d → frB fs sc s φ d m = false) ∧ Inv n s φ d 0 o.2.1 o.2.2.1 o.2.2.2) ∨ (∃ v, o.1 = 1 ∧ x ≤ v ∧ v < k ∧ v ≤ mo s φ d ∧ frB fs sc s φ d v = true ∧ (∀ m, x ≤ m → m < v → frB fs sc s φ d m = false) ∧ Inv n s (fun j => if j = d then v else φ j) (d + 1) 0 o.2.1 o.2.2.1 o.2.2.2)) := by
    intro hv' hh
    obtain ⟨N, hN1, hN2, hN3⟩ : ∃ N, N ≤ k ∧ N ≤ mo s φ d + 1 ∧ (N = k ∨ N = mo s φ d + 1) := by
      by_cases q : k ≤ mo s φ d + 1
      · exact ⟨k, Nat.le_refl _, q, Or.inl rfl⟩
      · exact ⟨mo s φ d + 1, by omega, Nat.le_refl _, Or.inr rfl⟩
    have hxN : x ≤ N := by omega
    have failI : Inv n s φ d 0 (upd tr d (-1)) hv' ms := by
      refine ⟨fun j hj hs => ?_, hh, i3⟩
      rw [upd_at]
      by_cases e : j = d
      · rw [if_pos e, if_neg (by omega), if_neg (fun q => q.2 rfl)]
      · rw [if_neg e, i1 j hj hs]
        by_cases q : j < d
        · rw [if_pos q, if_pos q]
        · rw [if_neg q, if_neg q, if_neg (fun h => e h.1), if_neg (fun h => e h.1)]
    refine for_inv (fun (_ : Unit) i => nI i) N (fun i _ => x ≤ i ∧ ∀ m, x ≤ m → m < i → frB fs sc s φ d m = false) _ (fun v _ hv hJ => ?_) (fun _ hJ => ?_) (i := x) (a := ()) hxN ⟨Nat.le_refl _, fun m h1 h2 => by omega⟩
    · obtain ⟨j1, j2⟩ := hJ
      have hvk : ¬ nI k ≤ nI v := by rw [nI_leI (by omega) (by omega)]; omega
      have hvm : ¬ nI (mo s φ d) < nI v := by rw [nI_ltI (by omega) (by omega)]; omega
      have hvm2 : nI v ≤ nI (mo s φ d) := by rw [nI_leI (by omega) (by omega)]; omega
      have hand : mk (havB s φ d 0 v) n &&& nb fs sc n d < 2 ^ 31 := Nat.lt_of_le_of_lt Nat.and_le_left (hlen _)
      have hfr : (nI (mk (havB s φ d 0 v) n) &&& nI (nb fs sc n d) = 0) ↔ frB fs sc s φ d v = true := by
        rw [fa_and, eqR0 hand, fr_mask hd]
      cases hf : frB fs sc s φ d v
      · left
        rw [hf] at hfr
        refine ⟨(), ?_, by omega, fun m h1 h2 => ?_⟩
        · simp (disch := omega) only [X8_goesOn_L28, hvk, ↓reduceIte, rd_nI, hmsd, hvm, hh v (by omega), hth, hfr, Bool.false_eq_true, bnd_at, nI_1]
        · rcases Nat.lt_or_ge m v with q | q
          · exact j2 m h1 q
          · rw [show m = v by omega]; exact hf
      · right
        rw [hf] at hfr
        have hne : (nI v = nI (mo s φ d)) ↔ v = mo s φ d := nI_eq (by omega) (by omega)
        refine ⟨(1, upd tr d (nI v), upd hv' v (nI (mk (havB s φ d 0 v) n ||| 2 ^ d)), upd ms (d + 1) (if v = mo s φ d then nI (v + 1) else nI (mo s φ d))), ?_, Or.inr ⟨v, rfl, j1, by omega, by omega, hf, j2, fun j hj hs => ?_, fun w hw => ?_, fun j hj => ?_⟩⟩
        · by_cases q : v = mo s φ d
          · rw [if_pos q]
            simp (disch := omega) only [X8_goesOn_L28, hvk, ↓reduceIte, rd_nI, hmsd, hvm, hh v (by omega), hth, hfr, X8_goesOn_J65, hvm2, wr_nI, sh_nI, fa_or, eq_true (hne.mpr q), X8_goesOn_J137, nI_1, Option.map_some]
          · rw [if_neg q]
            simp (disch := omega) only [X8_goesOn_L28, hvk, ↓reduceIte, rd_nI, hmsd, hvm, hh v (by omega), hth, hfr, X8_goesOn_J65, hvm2, wr_nI, sh_nI, fa_or, eq_false (fun z => q (hne.mp z)), X8_goesOn_J137, nI_1, Option.map_some]
        · show upd tr d (nI v) j = _
          rw [upd_at]
          by_cases e : j = d
          · rw [if_pos e, if_pos (show j < d + 1 by omega)]
            simp only [e, ↓reduceIte]
          · rw [if_neg e, i1 j hj hs]
            by_cases q : j < d
            · rw [if_pos q, if_pos (show j < d + 1 by omega)]
              simp only [e, ↓reduceIte]
            · rw [if_neg q, if_neg (show ¬ (j = d ∧ x ≠ 0) from fun h => e h.1), if_neg (show ¬ j < d + 1 by omega), if_neg (fun h => h.2 rfl)]
        · show upd hv' v _ w = _
          rw [upd_at]
          by_cases e : w = v
          · subst e
            rw [if_pos rfl]
            congr 1
            refine bits_eq (k := n) (Nat.or_lt_two_pow (mk_lt _ _) (Nat.pow_lt_pow_right (by decide) hd)) (mk_lt _ _) (fun j hj => ?_)
            rw [fb_bit_set, mk_bit, mk_bit]
            unfold havB
            by_cases q : j = d
            · subst q
              simp [hd, hds]
            · by_cases q2 : j < d
              · have : j < d + 1 := by omega
                simp [hj, q, q2, this]
              · have : ¬ j < d + 1 := by omega
                simp [q, q2, this]
          · rw [if_neg e, hh w hw]
            congr 1
            refine mk_cong (fun j _ => ?_)
            unfold havB
            by_cases q : j = d
            · subst q
              simp [Ne.symm e]
            · by_cases q2 : j < d
              · have : j < d + 1 := by omega
                simp [q, q2, this]
              · have : ¬ j < d + 1 := by omega
                simp [q, q2, this]
        · show upd ms (d + 1) _ j = _
          rw [upd_at]
          have hc : ∀ i, i ≤ d → mo s (fun j => if j = d then v else φ j) i = mo s φ i := fun i hi => mo_cong (fun z hz _ => by
            have : ¬ z = d := by omega
            simp [this])
          by_cases e : j = d + 1
          · rw [if_pos e, e, mo, if_neg hds, hc d (Nat.le_refl _)]
            simp only [↓reduceIte]
            by_cases q : v = mo s φ d
            · rw [if_pos q, if_pos q, q]
            · rw [if_neg q, if_neg q]
          · rw [if_neg e, i3 j (by omega), hc j (by omega)]
    · obtain ⟨j1, j2⟩ := hJ
      refine ⟨(0, upd tr d (-1), hv', ms), ?_, Or.inl ⟨rfl, fun m h1 h2 h3 => j2 m h1 (by omega), failI⟩⟩
      rcases hN3 with q | q
      · have hvk : nI k ≤ nI N := by rw [nI_leI (by omega) (by omega)]; omega
        simp (disch := omega) only [X8_goesOn_L28, hvk, ↓reduceIte, X8_goesOn_J65, X8_goesOn_J80, wr_nI, Option.map_some]
      · by_cases hk2 : k ≤ N
        · have hvk : nI k ≤ nI N := by rw [nI_leI (by omega) (by omega)]; omega
          simp (disch := omega) only [X8_goesOn_L28, hvk, ↓reduceIte, X8_goesOn_J65, X8_goesOn_J80, wr_nI, Option.map_some]
        · have hvk : ¬ nI k ≤ nI N := by rw [nI_leI (by omega) (by omega)]; omega
          have hvm : nI (mo s φ d) < nI N := by rw [nI_ltI (by omega) (by omega)]; omega
          have hvm2 : ¬ nI N ≤ nI (mo s φ d) := by rw [nI_leI (by omega) (by omega)]; omega
          simp (disch := omega) only [X8_goesOn_L28, hvk, ↓reduceIte, rd_nI, hmsd, hvm, X8_goesOn_J65, hvm2, X8_goesOn_J80, wr_nI, Option.map_some]
  unfold FX8_goesOn
  by_cases hx : x = 0
  · rw [if_neg (fun h => h.2 hx)] at htr
    rw [rd_nI (by omega) (by decide), htr, if_pos (show (-1 : Int32) < 0 by decide), bnd_at, show (-1 : Int32) + 1 = nI x by rw [hx]; decide]
    exact core hv (fun v hv => by rw [i2 v hv, hx])
  · rw [if_pos ⟨rfl, hx⟩] at htr
    rw [rd_nI (by omega) (by decide), htr, if_neg (by rw [ltR0 (by omega)]; omega), rd_nI (by omega) (by decide), wr_nI (by omega) (by decide), bnd_at, nI_1, show x - 1 + 1 = x by omega]
    refine core _ (fun v hv => ?_)
    rw [upd_at]
    by_cases e : v = x - 1
    · rw [if_pos e, i2 (x - 1) (by omega), sh_nI (by omega), andnot_nI]
      congr 1
      refine bits_eq (k := n) (sd_lt (mk_lt _ _)) (mk_lt _ _) (fun j hj => ?_)
      rw [sd_bit, mk_bit, mk_bit, Nat.testBit_two_pow]
      unfold havB
      by_cases q : j = d
      · subst q
        simp
      · simp [hj, q, Ne.symm q, e]
    · rw [if_neg e, i2 v hv]
      congr 1
      refine mk_cong (fun j _ => ?_)
      unfold havB
      have : ¬ x = v + 1 := by omega
      simp [this]
end GOES
