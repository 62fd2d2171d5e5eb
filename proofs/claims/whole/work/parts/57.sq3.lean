/-! ===== the square: the model's row ===== -/
section SQ3
variable {N h : Nat} {sq : Nat → Nat → Nat} {sqA : Nat → Int32}
def tkOf (sq : Nat → Nat → Nat) (h N c : Nat) : Nat := mk (fun v => ex (fun i => decide (sq i c = v)) h) N
def SqOK (sq : Nat → Nat → Nat) (h N : Nat) (sqA : Nat → Int32) : Prop := ∀ i c, i < h → c < N → sqA (9 * i + c) = nI (sq i c) ∧ sq i c < N
theorem m_stand {nxt : Nat → Int32} {φ : Nat → Nat} {c v : Nat} (hN : N ≤ 9) (hh : h < 9) (hS : SqOK sq h N sqA) (hc : c < N) (hv : v < 2 ^ 31) (hφ : ∀ j, j < c → nxt j = nI (φ j) ∧ φ j < 2 ^ 31) : FX8_mayStand (nI h) sqA nxt (nI c) (nI v) = some (if !(ex (fun j => decide (φ j = v)) c) && !(ex (fun i => decide (sq i c = v)) h) then 1 else 0) := by
  have inner : loopO (X8_mayStand_L27 (nI h) sqA (nI c) (nI v)) 0 = some (if fa_first (fun i => decide (sq i c = v)) h < h then 0 else 1) := by
    refine find_fun (fun i => nI i) (fun i => decide (sq i c = v)) h (fun _ => 0) 1 (fun i hi hq => ?_) (fun i hi hq => ?_) ?_
    · obtain ⟨s1, s2⟩ := hS i c hi hc
      have hne : ¬ nI (sq i c) = nI v := by rw [nI_eq (by omega) (by omega)]; exact of_decide_eq_false hq
      simp (disch := omega) only [X8_mayStand_L27, nI_leI, Nat.not_le.mpr hi, ↓reduceIte, show (9 : Int32) = nI 9 from rfl, ml_nI, nI_add, rd_nI, s1, hne, bnd_at, nI_1]
    · obtain ⟨s1, s2⟩ := hS i c hi hc
      have he : nI (sq i c) = nI v := by rw [of_decide_eq_true hq]
      simp (disch := omega) only [X8_mayStand_L27, nI_leI, Nat.not_le.mpr hi, ↓reduceIte, show (9 : Int32) = nI 9 from rfl, ml_nI, nI_add, rd_nI, s1, eq_true he]
    · simp only [X8_mayStand_L27, Int32.le_refl, ↓reduceIte]
  unfold FX8_mayStand
  have outer : loopO (X8_mayStand_L2 (nI h) sqA nxt (nI c) (nI v)) (nI 0) = some (if fa_first (fun j => decide (φ j = v)) c < c then 0 else (if fa_first (fun i => decide (sq i c = v)) h < h then 0 else 1)) := by
    refine find_fun (fun i => nI i) (fun j => decide (φ j = v)) c (fun _ => 0) _ (fun i hi hq => ?_) (fun i hi hq => ?_) ?_
    · obtain ⟨s1, s2⟩ := hφ i hi
      have hne : ¬ nI (φ i) = nI v := by rw [nI_eq (by omega) (by omega)]; exact of_decide_eq_false hq
      simp (disch := omega) only [X8_mayStand_L2, nI_leI, Nat.not_le.mpr hi, ↓reduceIte, rd_nI, s1, hne, bnd_at, nI_1]
    · obtain ⟨s1, s2⟩ := hφ i hi
      have he : nI (φ i) = nI v := by rw [of_decide_eq_true hq]
      simp (disch := omega) only [X8_mayStand_L2, nI_leI, Nat.not_le.mpr hi, ↓reduceIte, rd_nI, s1, eq_true he]
    · simp only [X8_mayStand_L2, Int32.le_refl, ↓reduceIte]
      rw [inner]
      rfl
  rw [show (0 : Int32) = nI 0 from rfl] at *
  rw [outer]
  unfold ex
  by_cases q1 : fa_first (fun j => decide (φ j = v)) c < c
  · simp [q1]
  · by_cases q2 : fa_first (fun i => decide (sq i c = v)) h < h <;> simp [q1, q2] <;> rfl
theorem ok_iff {φ : Nat → Nat} {c v : Nat} (hv : v < N) : (!(ex (fun j => decide (φ j = v)) c) && !(ex (fun i => decide (sq i c = v)) h)) = okD N (tkOf sq h N) φ c v := by
  unfold okD Sx tkOf
  rw [mk_bit, mk_bit]
  simp [hv]
theorem found_eq (NN H l1 d t : Int32) (sqA nxt : Nat → Int32) : X8_found_L11 NN H sqA l1 (nxt, t, d) = if d < 0 then some (.inr (t, nxt)) else rd nxt 9 d (fun x2 => bnd (x2 + 1) (fun x3 => loopO (X8_found_L25 NN H sqA nxt l1 t d) x3)) := rfl
theorem j50_eq (NN H l1 l2 l3 l4 : Int32) (sqA nxt : Nat → Int32) : X8_found_J50 NN H sqA nxt l1 l2 l3 l4 = if l4 = NN then bnd (l3 + -1) (fun x8 => some (.inl (nxt, l2, x8))) else wr nxt 9 l3 l4 (fun g4 => if (NN - 1) ≤ l3 then bnd (l2 + 1) (fun x5 => if x5 = l1 then some (.inr (x5, g4)) else some (.inl (g4, x5, l3))) else bnd (l3 + 1) (fun x6 => wr g4 9 x6 (-1) (fun g7 => some (.inl (g7, l2, x6))))) := rfl
/-- one step of the search in a column -/
theorem found_step {nxt : Nat → Int32} {φ : Nat → Nat} {c x t L : Nat} (hN1 : 2 ≤ N) (hN : N ≤ 9) (hh : h < 9) (hS : SqOK sq h N sqA) (hc : c < N) (hx : x ≤ N) (ht : t < 2 ^ 30) (hL : L < 2 ^ 31) (hφ : ∀ j, j < c → nxt j = nI (φ j) ∧ φ j < 2 ^ 31) (hxc : nxt c + 1 = nI x) : ((∀ v, x ≤ v → v < N → okD N (tkOf sq h N) φ c v = false) ∧ X8_found_L11 (nI N) (nI h) sqA (nI L) (nxt, nI t, nI c) = some (.inl (nxt, nI t, nI c + -1))) ∨ ∃ v, x ≤ v ∧ v < N ∧ okD N (tkOf sq h N) φ c v = true ∧ (∀ u, x ≤ u → u < v → okD N (tkOf sq h N) φ c u = false) ∧ X8_found_L11 (nI N) (nI h) sqA (nI L) (nxt, nI t, nI c) = if c + 1 < N then some (.inl (upd (upd nxt c (nI v)) (c + 1) (-1), nI t, nI (c + 1))) else if t + 1 = L then some (.inr (nI (t + 1), upd nxt c (nI v))) else some (.inl (upd nxt c (nI v), nI (t + 1), nI c)) := by
  have hneg : ¬ nI c < (0 : Int32) := by rw [ltR0 (by omega)]; omega
  have start : X8_found_L11 (nI N) (nI h) sqA (nI L) (nxt, nI t, nI c) = loopO (X8_found_L25 (nI N) (nI h) sqA nxt (nI L) (nI t) (nI c)) (nI x) := by
    rw [found_eq, if_neg hneg, rd_nI (by omega) (by decide), bnd_at, hxc]
  rw [start]
  have hJ : ∀ v, v < N → X8_found_J50 (nI N) (nI h) sqA nxt (nI L) (nI t) (nI c) (nI v) = if c + 1 < N then some (.inl (upd (upd nxt c (nI v)) (c + 1) (-1), nI t, nI (c + 1))) else if t + 1 = L then some (.inr (nI (t + 1), upd nxt c (nI v))) else some (.inl (upd nxt c (nI v), nI (t + 1), nI c)) := fun v hv => by
    obtain ⟨m, hm⟩ : ∃ m, N = m + 1 := ⟨N - 1, by omega⟩
    rw [j50_eq, if_neg (by rw [nI_eq (by omega) (by omega)]; omega), wr_nI (by omega) (by decide)]
    rw [show nI N - 1 = nI m by rw [hm, nI_pred]]
    by_cases q : c + 1 < N
    · rw [if_pos q, if_neg (by rw [nI_leI (by omega) (by omega)]; omega), bnd_at, nI_1, wr_nI (by omega) (by decide)]
    · rw [if_neg q, if_pos (by rw [nI_leI (by omega) (by omega)]; omega), bnd_at, nI_1]
      by_cases q2 : t + 1 = L
      · rw [if_pos q2, if_pos (by rw [q2])]
      · rw [if_neg q2, if_neg (by rw [nI_eq (by omega) (by omega)]; exact q2)]
  have key := for_inv (f := X8_found_L25 (nI N) (nI h) sqA nxt (nI L) (nI t) (nI c)) (fun (_ : Unit) i => nI i) N (fun i _ => x ≤ i ∧ ∀ u, x ≤ u → u < i → okD N (tkOf sq h N) φ c u = false) (fun o => ((∀ v, x ≤ v → v < N → okD N (tkOf sq h N) φ c v = false) ∧ o = .inl (nxt, nI t, nI c + -1)) ∨ ∃ v, x ≤ v ∧ v < N ∧ okD N (tkOf sq h N) φ c v = true ∧ (∀ u, x ≤ u → u < v → okD N (tkOf sq h N) φ c u = false) ∧ some o = if c + 1 < N then some (.inl (upd (upd nxt c (nI v)) (c + 1) (-1), nI t, nI (c + 1))) else if t + 1 = L then some (.inr (nI (t + 1), upd nxt c (nI v))) else some (.inl (upd nxt c (nI v), nI (t + 1), nI c))) (fun v _ hv hI => ?_) (fun _ hI => ?_) (i := x) (a := ()) hx ⟨Nat.le_refl _, fun u h1 h2 => by omega⟩
  · obtain ⟨o, k1, k2⟩ := key
    rcases k2 with ⟨k2, rfl⟩ | ⟨v, v1, v2, v3, v4, v5⟩
    · exact Or.inl ⟨k2, k1⟩
    · exact Or.inr ⟨v, v1, v2, v3, v4, by rw [k1]; exact v5⟩
  · obtain ⟨i1, i2⟩ := hI
    have hge : ¬ nI N ≤ nI v := by rw [nI_leI (by omega) (by omega)]; omega
    have hm := m_stand hN hh hS hc (show v < 2 ^ 31 by omega) hφ
    rw [ok_iff hv] at hm
    cases hok : okD N (tkOf sq h N) φ c v
    · left
      rw [hok] at hm
      refine ⟨(), ?_, by omega, fun u h1 h2 => ?_⟩
      · simp only [X8_found_L25, hge, ↓reduceIte, hm, Bool.false_eq_true, Option.bind_some, bnd_at, nI_1]
      · rcases Nat.lt_or_ge u v with q | q
        · exact i2 u h1 q
        · rw [show u = v by omega]; exact hok
    · right
      rw [hok] at hm
      have hst : X8_found_L25 (nI N) (nI h) sqA nxt (nI L) (nI t) (nI c) (nI v) = (X8_found_J50 (nI N) (nI h) sqA nxt (nI L) (nI t) (nI c) (nI v)).map (fun z => .inr z) := by
        unfold X8_found_L25
        rw [if_neg hge, hm, Option.bind_some, if_neg (show ¬ (if true = true then (1 : Int32) else 0) = 0 by decide)]
      rw [hst, hJ v hv]
      by_cases q : c + 1 < N
      · rw [if_pos q]
        exact ⟨_, rfl, Or.inr ⟨v, i1, hv, hok, i2, by rw [if_pos q]⟩⟩
      · rw [if_neg q]
        by_cases q2 : t + 1 = L
        · rw [if_pos q2]
          exact ⟨_, rfl, Or.inr ⟨v, i1, hv, hok, i2, by rw [if_neg q, if_pos q2]⟩⟩
        · rw [if_neg q2]
          exact ⟨_, rfl, Or.inr ⟨v, i1, hv, hok, i2, by rw [if_neg q, if_neg q2]⟩⟩
  · refine ⟨.inl (nxt, nI t, nI c + -1), ?_, Or.inl ⟨hI.2, rfl⟩⟩
    unfold X8_found_L25
    rw [if_pos (Int32.le_refl _), j50_eq, if_pos rfl, bnd_at]
    rfl
def gv (N : Nat) (tk : Nat → Nat) (φ : Nat → Nat) (c v : Nat) : Nat := if okD N tk φ c v then Wn N tk (N - (c + 1)) (Sx N φ c ^^^ 2 ^ v) else 0
theorem gv_sum {tk : Nat → Nat} {φ : Nat → Nat} {c : Nat} (hc : c < N) : fb_sm (gv N tk φ c) N = Wn N tk (N - c) (Sx N φ c) := by
  rw [show N - c = (N - (c + 1)) + 1 by omega, Wn, show N - (N - (c + 1) + 1) = c by omega]
  rfl
theorem gv_flat {tk : Nat → Nat} {φ : Nat → Nat} {c x : Nat} : ∀ q, x ≤ q → (∀ u, x ≤ u → u < q → okD N tk φ c u = false) → fb_sm (gv N tk φ c) q = fb_sm (gv N tk φ c) x
  | 0, h1, _ => by rw [show x = 0 by omega]
  | q + 1, h1, h2 => by
    by_cases e : x = q + 1
    · rw [e]
    · rw [fb_sm_succ, gv_flat q (by omega) (fun u h3 h4 => h2 u h3 (by omega))]
      have : gv N tk φ c q = 0 := by
        unfold gv
        rw [h2 q (by omega) (by omega)]
        rfl
      omega
theorem gv_up {tk : Nat → Nat} {φ : Nat → Nat} {c : Nat} {q r : Nat} (h : q ≤ r) : fb_sm (gv N tk φ c) q ≤ fb_sm (gv N tk φ c) r := by
  have := fb_sm_mono (gv N tk φ c) q (r - q)
  rw [show q + (r - q) = r by omega] at this
  exact this
theorem sx_ext {tk : Nat → Nat} {φ : Nat → Nat} {c v : Nat} (hok : okD N tk φ c v = true) : Sx N (fun j => if j = c then v else φ j) (c + 1) = Sx N φ c ^^^ 2 ^ v := by
  have hcS : Sx N (fun j => if j = c then v else φ j) c = Sx N φ c := sx_cong (fun j hj => by
    have : ¬ j = c := by omega
    simp [this])
  have hb : (Sx N (fun j => if j = c then v else φ j) c).testBit ((fun j => if j = c then v else φ j) c) = true := by
    rw [hcS]
    simp only [↓reduceIte]
    unfold okD at hok
    simp only [Bool.and_eq_true] at hok
    exact hok.1
  rw [sx_succ hb, hcS]
  simp only [↓reduceIte]
theorem found_count {L : Nat} (hN1 : 2 ≤ N) (hN : N ≤ 9) (hh : h < 9) (hS : SqOK sq h N sqA) (hL : L < 2 ^ 30) : ∀ (e c : Nat), N - (c + 1) = e → c < N → ∀ (φ : Nat → Nat) (y x t : Nat) (nxt : Nat → Int32), N - x = y → x ≤ N → (∀ j, j < c → nxt j = nI (φ j) ∧ φ j < 2 ^ 31) → nxt c + 1 = nI x → t + (fb_sm (gv N (tkOf sq h N) φ c) N - fb_sm (gv N (tkOf sq h N) φ c) x) < L → ∃ nxt', (∀ j, j < c → nxt' j = nI (φ j)) ∧ loopO (X8_found_L11 (nI N) (nI h) sqA (nI L)) (nxt, nI t, nI c) = loopO (X8_found_L11 (nI N) (nI h) sqA (nI L)) (nxt', nI (t + (fb_sm (gv N (tkOf sq h N) φ c) N - fb_sm (gv N (tkOf sq h N) φ c) x)), nI c + -1) := by
  intro e
  induction e with
  | zero =>
    intro c he hc φ y
    induction y using Nat.strongRecOn with
    | _ y ihy =>
      intro x t nxt hy hx hφ hxc hlt
      rcases found_step hN1 hN hh hS hc hx (show t < 2 ^ 30 by omega) (show L < 2 ^ 31 by omega) hφ hxc with ⟨h1, h2⟩ | ⟨v, v1, v2, v3, v4, v5⟩
      · refine ⟨nxt, fun j hj => (hφ j hj).1, ?_⟩
        rw [lp_go h2, gv_flat N hx h1, Nat.sub_self, Nat.add_zero]
      · have hg : gv N (tkOf sq h N) φ c v = 1 := by unfold gv; rw [v3, he]; rfl
        have h1 := gv_flat v v1 v4
        have h2 : fb_sm (gv N (tkOf sq h N) φ c) (v + 1) = fb_sm (gv N (tkOf sq h N) φ c) x + 1 := by rw [fb_sm_succ, h1, hg]
        have h3 := gv_up (N := N) (tk := tkOf sq h N) (φ := φ) (c := c) (show v + 1 ≤ N by omega)
        rw [if_neg (by omega), if_neg (by omega)] at v5
        rw [lp_go v5]
        obtain ⟨nxt', q1, q2⟩ := ihy (N - (v + 1)) (by omega) (v + 1) (t + 1) (upd nxt c (nI v)) rfl (by omega) (fun j hj => by rw [upd_at, if_neg (by omega)]; exact hφ j hj) (by rw [upd_at, if_pos rfl, nI_1]) (by omega)
        refine ⟨nxt', q1, ?_⟩
        rw [q2, show t + 1 + (fb_sm (gv N (tkOf sq h N) φ c) N - fb_sm (gv N (tkOf sq h N) φ c) (v + 1)) = t + (fb_sm (gv N (tkOf sq h N) φ c) N - fb_sm (gv N (tkOf sq h N) φ c) x) by omega]
  | succ e ih =>
    intro c he hc φ y
    induction y using Nat.strongRecOn with
    | _ y ihy =>
      intro x t nxt hy hx hφ hxc hlt
      rcases found_step hN1 hN hh hS hc hx (show t < 2 ^ 30 by omega) (show L < 2 ^ 31 by omega) hφ hxc with ⟨h1, h2⟩ | ⟨v, v1, v2, v3, v4, v5⟩
      · refine ⟨nxt, fun j hj => (hφ j hj).1, ?_⟩
        rw [lp_go h2, gv_flat N hx h1, Nat.sub_self, Nat.add_zero]
      · have hg : gv N (tkOf sq h N) φ c v = Wn N (tkOf sq h N) (N - (c + 1)) (Sx N φ c ^^^ 2 ^ v) := by unfold gv; rw [v3]; rfl
        have h1 := gv_flat v v1 v4
        have h2 : fb_sm (gv N (tkOf sq h N) φ c) (v + 1) = fb_sm (gv N (tkOf sq h N) φ c) x + gv N (tkOf sq h N) φ c v := by rw [fb_sm_succ, h1]
        have h3 := gv_up (N := N) (tk := tkOf sq h N) (φ := φ) (c := c) (show v + 1 ≤ N by omega)
        rw [if_pos (by omega)] at v5
        rw [lp_go v5]
        have hsum := gv_sum (N := N) (tk := tkOf sq h N) (φ := fun j => if j = c then v else φ j) (c := c + 1) (by omega)
        rw [sx_ext v3, ← hg] at hsum
        obtain ⟨n1, q1, q2⟩ := ih (c + 1) (by omega) (by omega) (fun j => if j = c then v else φ j) N 0 t (upd (upd nxt c (nI v)) (c + 1) (-1)) (by omega) (by omega) (fun j hj => by
          rw [upd_at, if_neg (by omega), upd_at]
          by_cases e2 : j = c
          · rw [if_pos e2]; simp only [e2, ↓reduceIte]; exact ⟨trivial, by omega⟩
          · rw [if_neg e2]; simp only [e2, ↓reduceIte]; exact hφ j (by omega)) (by rw [upd_at, if_pos rfl]; decide) (by rw [hsum, show fb_sm (gv N (tkOf sq h N) (fun j => if j = c then v else φ j) (c + 1)) 0 = 0 from rfl]; omega)
        rw [q2, nI_dn, hsum, show fb_sm (gv N (tkOf sq h N) (fun j => if j = c then v else φ j) (c + 1)) 0 = 0 from rfl, Nat.sub_zero]
        obtain ⟨nxt', r1, r2⟩ := ihy (N - (v + 1)) (by omega) (v + 1) (t + gv N (tkOf sq h N) φ c v) n1 rfl (by omega) (fun j hj => by
          have := q1 j (by omega)
          simp only [show ¬ j = c by omega, ↓reduceIte] at this
          exact ⟨this, (hφ j hj).2⟩) (by
          have := q1 c (by omega)
          simp only [↓reduceIte] at this
          rw [this, nI_1]) (by omega)
        refine ⟨nxt', r1, ?_⟩
        rw [r2, show t + gv N (tkOf sq h N) φ c v + (fb_sm (gv N (tkOf sq h N) φ c) N - fb_sm (gv N (tkOf sq h N) φ c) (v + 1)) = t + (fb_sm (gv N (tkOf sq h N) φ c) N - fb_sm (gv N (tkOf sq h N) φ c) x) by omega]
theorem m_rowcount (hN1 : 2 ≤ N) (hN : N ≤ 9) (hh : h < 9) (hS : SqOK sq h N sqA) (nxt : Nat → Int32) : ∃ nxt', FX8_found (nI N) (nI h) sqA nxt 1000000000 = some (nI (Wn N (tkOf sq h N) N (2 ^ N - 1)), nxt') := by
  have hs := gv_sum (N := N) (tk := tkOf sq h N) (φ := fun _ => 0) (c := 0) (by omega)
  rw [sx_0, Nat.sub_zero] at hs
  have hl := wn_lt (tk := tkOf sq h N) hN (Nat.le_refl 9 |> fun _ => hN) (2 ^ N - 1)
  obtain ⟨n', q1, q2⟩ := found_count (L := 1000000000) hN1 hN hh hS (by decide) (N - 1) 0 rfl (by omega) (fun _ => 0) N 0 0 (upd nxt 0 (-1)) (by omega) (by omega) (fun j hj => by omega) (by rw [upd_at, if_pos rfl]; decide) (by
    rw [hs, show fb_sm (gv N (tkOf sq h N) (fun _ => 0) 0) 0 = 0 from rfl]
    have : (2 : Nat) ^ 29 < 1000000000 := by decide
    omega)
  refine ⟨n', ?_⟩
  unfold FX8_found
  rw [show (0 : Int32) = nI 0 from rfl, wr_nI (by decide) (by decide)]
  refine (show loopO (X8_found_L11 (nI N) (nI h) sqA (nI 1000000000)) (upd nxt 0 (-1), nI 0, nI 0) = _ from q2).trans (lp_end ?_)
  rw [found_eq, if_pos (by decide), hs, show fb_sm (gv N (tkOf sq h N) (fun _ => 0) 0) 0 = 0 from rfl, Nat.sub_zero, Nat.zero_add]
end SQ3
