/-! ===== the model's search: all of it ===== -/
section TRIES
variable {n p : Nat} {fs sc : Nat → Nat} {F S : Nat → Int32} {s k A : Nat}
def ExtA (fs sc : Nat → Nat) (s k A : Nat) (φ : Nat → Nat) (d : Nat) : Prop := ∃ col, ColOK fs sc (blw k) A col ∧ ∀ j, j < d → j ≠ s → col j = φ j
theorem extA_cong {φ ψ : Nat → Nat} {d : Nat} (h : ∀ j, j < d → j ≠ s → φ j = ψ j) (hx : ExtA fs sc s k A φ d) : ExtA fs sc s k A ψ d := by
  obtain ⟨col, c1, c2⟩ := hx
  exact ⟨col, c1, fun j hj hs => (c2 j hj hs).trans (h j hj hs)⟩
def PreM (fs sc : Nat → Nat) (s k : Nat) (φ : Nat → Nat) (d : Nat) : Prop := (∀ j, j < d → j ≠ s → φ j < k ∧ φ j ≤ mo s φ j) ∧ ∀ i j, i < d → j < d → i ≠ s → j ≠ s → adj fs sc i j = true → φ i ≠ φ j
theorem fr_false {φ : Nat → Nat} {d v : Nat} : frB fs sc s φ d v = false ↔ ∃ j, j < d ∧ j ≠ s ∧ φ j = v ∧ adj fs sc d j = true := by
  unfold frB
  rw [Bool.not_eq_false', ex_true]
  constructor
  · rintro ⟨j, h1, h2⟩
    simp only [Bool.and_eq_true, Bool.not_eq_true', decide_eq_false_iff_not, decide_eq_true_eq] at h2
    exact ⟨j, h1, h2.1, h2.2.1, h2.2.2⟩
  · rintro ⟨j, h1, h2, h3, h4⟩
    exact ⟨j, h1, by simp [h2, h3, h4]⟩
theorem noext {φ : Nat → Nat} {d m : Nat} (hA : ∀ i, A.testBit i = true ↔ i < n ∧ i ≠ s) (hd : d < n) (hds : d ≠ s) (hf : frB fs sc s φ d m = false) : ¬ ExtA fs sc s k A (fun j => if j = d then m else φ j) (d + 1) := by
  obtain ⟨j, j1, j2, j3, j4⟩ := fr_false.mp hf
  rintro ⟨col, ⟨c1, c2⟩, c3⟩
  have e1 : col d = m := by
    have := c3 d (by omega) hds
    simpa using this
  have e2 : col j = φ j := by
    have := c3 j (by omega) j2
    simpa [show ¬ j = d by omega] using this
  exact c2 d j ((hA d).mpr ⟨hd, hds⟩) ((hA j).mpr ⟨by omega, j2⟩) j4 (by rw [e1, e2, j3])
theorem swap_col {w m : Nat} {col : Nat → Nat} (hk : k ≤ 16) (hw : w < k) (hm : m < k) (h : ColOK fs sc (blw k) A col) : ColOK fs sc (blw k) A (fun r => if col r = m then w else if col r = w then m else col r) := by
  obtain ⟨h1, h2⟩ := (blw_ok hk).mp h
  refine (blw_ok hk).mpr ⟨fun r hr => ?_, fun r q hr hq ha => ?_⟩
  · have := h1 r hr
    show (if col r = m then w else if col r = w then m else col r) < k
    split
    · exact hw
    · split
      · exact hm
      · exact this
  · have := h2 r q hr hq ha
    show (if col r = m then w else if col r = w then m else col r) ≠ (if col q = m then w else if col q = w then m else col q)
    by_cases a1 : col r = m
    · rw [if_pos a1]
      by_cases b1 : col q = m
      · exact absurd (a1.trans b1.symm) this
      · rw [if_neg b1]
        by_cases b2 : col q = w
        · rw [if_pos b2]
          intro e
          exact this (by rw [a1, b2, e])
        · rw [if_neg b2]; exact fun e => b2 e.symm
    · rw [if_neg a1]
      by_cases a2 : col r = w
      · rw [if_pos a2]
        by_cases b1 : col q = m
        · rw [if_pos b1]
          intro e
          exact this (by rw [a2, b1, e])
        · rw [if_neg b1]
          by_cases b2 : col q = w
          · exact absurd (a2.trans b2.symm) this
          · rw [if_neg b2]; exact fun e => b1 e.symm
      · rw [if_neg a2]
        by_cases b1 : col q = m
        · rw [if_pos b1]; exact a2
        · rw [if_neg b1]
          by_cases b2 : col q = w
          · rw [if_pos b2]; exact a1
          · rw [if_neg b2]; exact this
/-- when no number up to the new one goes, none does -/
theorem stuck {φ : Nat → Nat} {d x : Nat} (hk : k ≤ 16) (hA : ∀ i, A.testBit i = true ↔ i < n ∧ i ≠ s) (hd : d < n) (hds : d ≠ s) (hP : PreM fs sc s k φ d) (h1 : ∀ m, m < x → ¬ ExtA fs sc s k A (fun j => if j = d then m else φ j) (d + 1)) (h2 : ∀ m, x ≤ m → m < k → m ≤ mo s φ d → frB fs sc s φ d m = false) : ¬ ExtA fs sc s k A φ d := by
  have low : ∀ m, m < k → m ≤ mo s φ d → ¬ ExtA fs sc s k A (fun j => if j = d then m else φ j) (d + 1) := fun m hm hmo => by
    rcases Nat.lt_or_ge m x with q | q
    · exact h1 m q
    · exact noext hA hd hds (h2 m q hm hmo)
  rintro ⟨col, c1, c2⟩
  have hcd : col d < k := ((blw_ok hk).mp c1).1 d ((hA d).mpr ⟨hd, hds⟩)
  by_cases hle : col d ≤ mo s φ d
  · refine low (col d) hcd hle ⟨col, c1, fun j hj hs => ?_⟩
    show col j = if j = d then col d else φ j
    by_cases e : j = d
    · rw [if_pos e, e]
    · rw [if_neg e]; exact c2 j (by omega) hs
  · refine low (mo s φ d) (by omega) (Nat.le_refl _) ⟨_, swap_col hk (w := mo s φ d) (m := col d) (by omega) hcd c1, fun j hj hs => ?_⟩
    show (if col j = col d then mo s φ d else if col j = mo s φ d then col d else col j) = if j = d then mo s φ d else φ j
    by_cases e : j = d
    · rw [if_pos e, e, if_pos rfl]
    · rw [if_neg e]
      have e1 := c2 j (by omega) hs
      have e2 := mo_gt (show j < d by omega) hs (hP.1 j (by omega) hs).2
      rw [if_neg (by omega), if_neg (by omega), e1]
theorem pre_next {φ : Nat → Nat} {d v : Nat} (hds : d ≠ s) (hP : PreM fs sc s k φ d) (hv : v < k) (hvm : v ≤ mo s φ d) (hf : frB fs sc s φ d v = true) : PreM fs sc s k (fun j => if j = d then v else φ j) (d + 1) := by
  have hc : ∀ i, i ≤ d → mo s (fun j => if j = d then v else φ j) i = mo s φ i := fun i hi => mo_cong (fun z hz _ => by
    have : ¬ z = d := by omega
    simp [this])
  have hfr : ∀ j, j < d → j ≠ s → adj fs sc d j = true → φ j ≠ v := fun j h1 h2 h3 h4 => by
    rw [fr_false.mpr ⟨j, h1, h2, h4, h3⟩] at hf
    exact Bool.noConfusion hf
  refine ⟨fun j hj hs => ?_, fun i j hi hj his hjs ha => ?_⟩
  · rw [hc j (by omega)]
    show (if j = d then v else φ j) < k ∧ (if j = d then v else φ j) ≤ mo s φ j
    by_cases e : j = d
    · rw [if_pos e, e]; exact ⟨hv, hvm⟩
    · rw [if_neg e]; exact hP.1 j (by omega) hs
  · show (if i = d then v else φ i) ≠ (if j = d then v else φ j)
    by_cases e1 : i = d <;> by_cases e2 : j = d
    · rw [e1, e2, adj_irr] at ha; exact Bool.noConfusion ha
    · rw [if_pos e1, if_neg e2]
      rw [e1] at ha
      exact Ne.symm (hfr j (by omega) hjs ha)
    · rw [if_neg e1, if_pos e2]
      rw [e2, adj_symm] at ha
      exact hfr i (by omega) his ha
    · rw [if_neg e1, if_neg e2]
      exact hP.2 i j (by omega) (by omega) his hjs ha
abbrev TS : Type := (Nat → Int32) × (Nat → Int32) × (Nat → Int32) × Int32
theorem tries_eq (N K l2 d : Int32) (tr th hv ms : Nat → Int32) : X8_tries_L6 N th K l2 (tr, hv, ms, d) = if N ≤ d then some (.inr (1, tr, th, hv, ms)) else if d = l2 then rd ms 25 d (fun x6 => wr ms 25 (d + 1) x6 (fun g7 => bnd (d + 1) (fun x8 => some (.inl (tr, hv, g7, x8))))) else (FX8_goesOn tr th hv ms d K).bind (fun o2 => if o2.1 = 0 then bnd (d + -1) (fun x3 => if x3 = l2 then bnd (x3 + -1) (fun x4 => X8_tries_J65 N o2.2.1 th o2.2.2.1 o2.2.2.2 K l2 x4) else X8_tries_J65 N o2.2.1 th o2.2.2.1 o2.2.2.2 K l2 x3) else bnd (d + 1) (fun x5 => some (.inl (o2.2.1, o2.2.2.1, o2.2.2.2, x5)))) := rfl
theorem tries_eq2 {α : Type} (l2 y : Int32) (f : Int32 → Int32) (J : Int32 → Option α) : bnd y (fun x3 => if x3 = l2 then bnd (f x3) (fun x4 => J x4) else J x3) = if y = l2 then J (f y) else J y := rfl
theorem tries_step {d : Nat} {l2 : Int32} {tr th hv ms : Nat → Int32} {o : Int32 × (Nat → Int32) × (Nat → Int32) × (Nat → Int32)} (hge : ¬ nI n ≤ nI d) (hl : ¬ nI d = l2) (g1 : FX8_goesOn tr th hv ms (nI d) (nI k) = some o) : X8_tries_L6 (nI n) th (nI k) l2 (tr, hv, ms, nI d) = if o.1 = 0 then (if nI d + -1 = l2 then X8_tries_J65 (nI n) o.2.1 th o.2.2.1 o.2.2.2 (nI k) l2 (nI d + -1 + -1) else X8_tries_J65 (nI n) o.2.1 th o.2.2.1 o.2.2.2 (nI k) l2 (nI d + -1)) else some (.inl (o.2.1, o.2.2.1, o.2.2.2, nI (d + 1))) := by
  rw [tries_eq, if_neg hge, if_neg hl, g1, Option.bind_some, bnd_at (nI d + 1), nI_1]
  rw [tries_eq2 l2 (nI d + -1) (fun x => x + -1) (fun x => X8_tries_J65 (nI n) o.2.1 th o.2.2.1 o.2.2.2 (nI k) l2 x)]
theorem tries_skip {d m : Nat} {l2 : Int32} {tr th hv ms : Nat → Int32} (hd : d < 24) (hge : ¬ nI n ≤ nI d) (hl : nI d = l2) (hm : ms d = nI m) : X8_tries_L6 (nI n) th (nI k) l2 (tr, hv, ms, nI d) = some (.inl (tr, hv, upd ms (d + 1) (nI m), nI (d + 1))) := by
  rw [tries_eq, if_neg hge, if_pos hl, rd_nI (by omega) (by decide), nI_1, wr_nI (by omega) (by decide), hm, bnd_at]
theorem j65_back {j : Nat} {l2 : Int32} {tr th hv ms : Nat → Int32} (hj : j < 24) : X8_tries_J65 (nI n) tr th hv ms (nI k) l2 (nI j) = some (.inl (tr, hv, ms, nI j)) := by
  unfold X8_tries_J65
  rw [if_pos (nI_pos' (by omega))]
theorem j65_end {z l2 : Int32} {tr th hv ms : Nat → Int32} (hz : ¬ 0 ≤ z) : X8_tries_J65 (nI n) tr th hv ms (nI k) l2 z = some (.inr (0, tr, th, hv, ms)) := by
  unfold X8_tries_J65
  rw [if_neg hz]
theorem search {th : Nat → Int32} {l2 : Int32} (hn : n ≤ 12) (hk : k ≤ 16) (hA : ∀ i, A.testBit i = true ↔ i < n ∧ i ≠ s) (hth : ∀ j, j < n → th j = nI (nb fs sc n j)) (hl2 : ∀ d, d ≤ 12 → (nI d = l2 ↔ d = s)) :
    ∀ (e d : Nat), n - d = e → d ≤ n → ∀ (φ : Nat → Nat), PreM fs sc s k φ d → ∀ (y x : Nat) (tr hv ms : Nat → Int32), k - x = y → ((d = s ∨ d = n) → x = 0) → (d < n → d ≠ s → x ≤ k ∧ x ≤ mo s φ d + 1) → Inv n s φ d x tr hv ms → (∀ m, m < x → ¬ ExtA fs sc s k A (fun j => if j = d then m else φ j) (d + 1)) →
      (∃ tr' hv' ms' col, loopO (X8_tries_L6 (nI n) th (nI k) l2) (tr, hv, ms, nI d) = some (1, tr', th, hv', ms') ∧ ColOK fs sc (blw k) A col ∧ (∀ j, j < d → j ≠ s → col j = φ j) ∧ (∀ r, d ≤ r → r < n → r ≠ s → ∀ m, m < col r → ¬ ExtA fs sc s k A (fun j => if j = r then m else col j) (r + 1)) ∧ ∀ r, r < n → r ≠ s → tr' r = nI (col r)) ∨
      (¬ ExtA fs sc s k A φ d ∧ ((∃ j tr' hv' ms', j < d ∧ j ≠ s ∧ (∀ i, j < i → i < d → i = s) ∧ Inv n s φ j (φ j + 1) tr' hv' ms' ∧ loopO (X8_tries_L6 (nI n) th (nI k) l2) (tr, hv, ms, nI d) = loopO (X8_tries_L6 (nI n) th (nI k) l2) (tr', hv', ms', nI j)) ∨ ((∀ i, i < d → i = s) ∧ ∃ tr' hv' ms', loopO (X8_tries_L6 (nI n) th (nI k) l2) (tr, hv, ms, nI d) = some (0, tr', th, hv', ms')))) := by
  intro e
  induction e with
  | zero =>
    intro d he hd φ hP y x tr hv ms hy hx0 hxk hI hno
    obtain rfl : d = n := by omega
    left
    refine ⟨tr, hv, ms, φ, lp_end ?_, (blw_ok hk).mpr ⟨fun r hr => ?_, fun r q hr hq => ?_⟩, fun _ _ _ => rfl, fun r h1 h2 => by omega, fun r hr hs => ?_⟩
    · simp only [X8_tries_L6, Int32.le_refl, ↓reduceIte]
    · obtain ⟨a, b⟩ := (hA r).mp hr
      exact (hP.1 r a b).1
    · obtain ⟨a, b⟩ := (hA r).mp hr
      obtain ⟨a', b'⟩ := (hA q).mp hq
      exact hP.2 r q a a' b b'
    · rw [hI.1 r hr hs, if_pos hr]
  | succ e ih =>
    intro d he hd φ hP y
    have hdn : d < n := by omega
    have hge : ¬ nI n ≤ nI d := by rw [nI_leI (by omega) (by omega)]; omega
    by_cases hds : d = s
    · -- the road that is left out
      intro x tr hv ms hy hx0 hxk hI hno
      have hx := hx0 (Or.inl hds)
      subst hx
      obtain ⟨i1, i2, i3⟩ := hI
      have hI' : Inv n s φ (d + 1) 0 tr hv (upd ms (d + 1) (nI (mo s φ d))) := by
        refine ⟨fun j hj hs => ?_, fun v hv => ?_, fun j hj => ?_⟩
        · rw [i1 j hj hs]
          by_cases q : j < d
          · rw [if_pos q, if_pos (show j < d + 1 by omega)]
          · rw [if_neg q, if_neg (show ¬ (j = d ∧ 0 ≠ 0) from fun h => h.2 rfl), if_neg (show ¬ j < d + 1 by omega), if_neg (fun h => h.2 rfl)]
        · rw [i2 v hv]
          congr 1
          refine mk_cong (fun j _ => ?_)
          unfold havB
          by_cases q : j = s
          · simp [q]
          · have : (j < d + 1) = (j < d) := propext (by omega)
            simp [this]
        · rw [upd_at]
          by_cases q : j = d + 1
          · rw [if_pos q, q, mo, if_pos hds]
          · rw [if_neg q]; exact i3 j (by omega)
      have hP' : PreM fs sc s k φ (d + 1) := ⟨fun j hj hs => hP.1 j (by omega) hs, fun i j hi hj h1 h2 => hP.2 i j (by omega) (by omega) h1 h2⟩
      have hst : X8_tries_L6 (nI n) th (nI k) l2 (tr, hv, ms, nI d) = some (.inl (tr, hv, upd ms (d + 1) (nI (mo s φ d)), nI (d + 1))) := by
        exact tries_skip (by omega) hge ((hl2 d (by omega)).mpr hds) (i3 d (Nat.le_refl _))
      rw [lp_go hst]
      rcases ih (d + 1) (by omega) (by omega) φ hP' (k - 0) 0 tr hv _ rfl (fun _ => rfl) (fun _ _ => ⟨by omega, by omega⟩) hI' (fun m hm => by omega) with ⟨tr', hv', ms', col, q1, q2, q3, q4, q5⟩ | ⟨q1, q2⟩
      · left
        exact ⟨tr', hv', ms', col, q1, q2, fun j hj hs => q3 j (by omega) hs, fun r h1 h2 h3 => q4 r (by omega) h2 h3, q5⟩
      · right
        refine ⟨fun hx => q1 ?_, ?_⟩
        · obtain ⟨col, c1, c2⟩ := hx
          exact ⟨col, c1, fun j hj hs => c2 j (by omega) hs⟩
        · rcases q2 with ⟨j, tr', hv', ms', j1, j2, j3, j4, j5⟩ | ⟨j1, tr', hv', ms', j2⟩
          · left
            exact ⟨j, tr', hv', ms', by omega, j2, fun i h1 h2 => j3 i h1 (by omega), j4, j5⟩
          · right
            exact ⟨fun i hi => j1 i (by omega), tr', hv', ms', j2⟩
    · induction y using Nat.strongRecOn with
      | _ y ihy =>
        intro x tr hv ms hy hx0 hxk hI hno
        obtain ⟨hx1, hx2⟩ := hxk hdn hds
        obtain ⟨o, g1, g2⟩ := goes_ok (fs := fs) (sc := sc) hn hdn hds hk hx1 hx2 (hth d hdn) hI
        have hl : ¬ nI d = l2 := fun h => hds ((hl2 d (by omega)).mp h)
        rcases g2 with ⟨o0, o1, o2⟩ | ⟨v, o0, o1, o2, o3, o4, o5, o6⟩
        · -- nothing goes here
          right
          refine ⟨stuck hk hA hdn hds hP hno o1, ?_⟩
          cases hd0 : d with
          | zero =>
            right
            refine ⟨fun i hi => by omega, o.2.1, o.2.2.1, o.2.2.2, ?_⟩
            rw [hd0] at g1 hge hl
            refine lp_end ?_
            rw [tries_step hge hl g1, if_pos o0]
            by_cases e5 : nI 0 + -1 = l2
            · rw [if_pos e5, j65_end (by decide)]
            · rw [if_neg e5, j65_end (by decide)]
          | succ d' =>
            rw [hd0] at g1 hge hl o2 hdn
            by_cases hs' : d' = s
            · have hl' := (hl2 d' (by omega)).mpr hs'
              cases hd1 : d' with
              | zero =>
                right
                refine ⟨fun i hi => by omega, o.2.1, o.2.2.1, o.2.2.2, ?_⟩
                rw [hd1] at hl' g1 hge hl
                refine lp_end ?_
                rw [tries_step hge hl g1, if_pos o0, nI_dn, if_pos hl', j65_end (by decide)]
              | succ d'' =>
                left
                rw [hd1] at hl' g1 hge hl o2 hs'
                refine ⟨d'', o.2.1, o.2.2.1, o.2.2.2, by omega, by omega, fun i h1 h2 => by omega, inv_back (by omega) (by omega) (fun i h1 h2 => by omega) o2, lp_go ?_⟩
                rw [tries_step hge hl g1, if_pos o0, nI_dn, if_pos hl', nI_dn, j65_back (by omega)]
            · left
              have hl' : ¬ nI d' = l2 := fun h => hs' ((hl2 d' (by omega)).mp h)
              refine ⟨d', o.2.1, o.2.2.1, o.2.2.2, by omega, hs', fun i h1 h2 => by omega, inv_back (by omega) hs' (fun i h1 h2 => by omega) o2, lp_go ?_⟩
              rw [tries_step hge hl g1, if_pos o0, nI_dn, if_neg hl', j65_back (by omega)]
        · -- one goes: on with the next road
          have hst : X8_tries_L6 (nI n) th (nI k) l2 (tr, hv, ms, nI d) = some (.inl (o.2.1, o.2.2.1, o.2.2.2, nI (d + 1))) := by
            rw [tries_step hge hl g1, if_neg (by rw [o0]; decide)]
          rw [lp_go hst]
          have excl : ∀ m, m < v → ¬ ExtA fs sc s k A (fun j => if j = d then m else φ j) (d + 1) := fun m hm => by
            rcases Nat.lt_or_ge m x with q | q
            · exact hno m q
            · exact noext hA hdn hds (o5 m q hm)
          rcases ih (d + 1) (by omega) (by omega) _ (pre_next hds hP o2 o3 o4) (k - 0) 0 _ _ _ rfl (fun _ => rfl) (fun _ _ => ⟨by omega, by omega⟩) o6 (fun m hm => by omega) with ⟨tr', hv', ms', col, q1, q2, q3, q4, q5⟩ | ⟨q1, q2⟩
          · left
            have hcd : col d = v := by
              have := q3 d (by omega) hds
              simpa using this
            have hcj : ∀ j, j < d → j ≠ s → col j = φ j := fun j hj hs => by
              have := q3 j (by omega) hs
              simpa [show ¬ j = d by omega] using this
            refine ⟨tr', hv', ms', col, q1, q2, hcj, fun r h1 h2 h3 m hm => ?_, q5⟩
            by_cases e : r = d
            · subst e
              rw [hcd] at hm
              intro hx
              refine excl m hm (extA_cong (fun j hj hs => ?_) hx)
              show (if j = r then m else col j) = if j = r then m else φ j
              by_cases e2 : j = r
              · rw [if_pos e2, if_pos e2]
              · rw [if_neg e2, if_neg e2]; exact hcj j (by omega) hs
            · exact q4 r (by omega) h2 h3 m hm
          · rcases q2 with ⟨j, tr', hv', ms', j1, j2, j3, j4, j5⟩ | ⟨j1, -⟩
            · have hjd : j = d := by
                rcases Nat.lt_or_ge j d with q | q
                · exact absurd (j3 d q (by omega)) hds
                · omega
              subst hjd
              have hI2 : Inv n s φ j (v + 1) tr' hv' ms' := by
                have := inv_cong (n := n) (ψ := φ) (fun i hi _ => by
                  have : ¬ i = j := by omega
                  simp [this]) j4
                simpa using this
              rw [j5]
              refine ihy (k - (v + 1)) (by omega) (v + 1) tr' hv' ms' rfl (fun h => by omega) (fun _ _ => ⟨by omega, by omega⟩) hI2 (fun m hm => ?_)
              rcases Nat.lt_or_ge m v with q | q
              · exact excl m q
              · rw [show m = v by omega]; exact q1
            · exact absurd (j1 d (by omega)) hds
end TRIES
