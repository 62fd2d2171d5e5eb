/-! ===== choose: the call ===== -/
section CHOOSE2
variable {n p : Nat} {fs sc : Nat → Nat} {F S : Nat → Int32} {on : Nat → Nat}
def CanRow (fs sc : Nat → Nat) (on : Nat → Nat) (n k lim : Nat) (can : Nat → Int32) : Prop := ∀ Y, Y < lim → (can (256 * k + Y) = 1 ∧ FromK fs sc on k Y) ∨ (can (256 * k + Y) = 0 ∧ ¬ FromK fs sc on k Y)
theorem m_row {th only can : Nat → Int32} {k : Nat} (hn : n ≤ 8) (hth : ∀ j, j < n → th j = nI (nb fs sc n j)) (hon : ∀ j, j < n → only j = nI (on j) ∧ on j < 2 ^ 16) (hk : k < 16) (hcan : CanRow fs sc on n (k + 1) (2 ^ n) can) : ∃ can', loopO (X8_allCan_L48 (nI n) th only (nI (2 ^ n)) (nI k)) (can, 0) = some (.inl (can', nI k + -1)) ∧ CanRow fs sc on n k (2 ^ n) can' := by
  have h8 : (2 : Nat) ^ n ≤ 256 := Nat.pow_le_pow_right (n := 2) (by decide) hn
  have key := for_inv (f := X8_allCan_L48 (nI n) th only (nI (2 ^ n)) (nI k)) (fun (g : Nat → Int32) i => (g, nI i)) (2 ^ n) (fun i g => CanRow fs sc on n (k + 1) (2 ^ n) g ∧ CanRow fs sc on n k i g) (fun o => ∃ can', o = .inl (can', nI k + -1) ∧ CanRow fs sc on n k (2 ^ n) can') (fun Z g hZ hI => ?_) (fun g hI => ?_) (i := 0) (a := can) (Nat.zero_le _) ⟨hcan, fun Y hY => by omega⟩
  · obtain ⟨o, k1, can', rfl, k2⟩ := key
    exact ⟨can', k1, k2⟩
  · left
    obtain ⟨b, m1, m2⟩ := m_one (fs := fs) (sc := sc) (K := nI (2 ^ n)) hn hth hon hZ hk hI.1
    refine ⟨upd g (256 * k + Z) (if b then 1 else 0), ?_, fun Y hY => ?_, fun Y hY => ?_⟩
    · show X8_allCan_L48 (nI n) th only (nI (2 ^ n)) (nI k) (g, nI Z) = some (.inl (upd g (256 * k + Z) (if b then 1 else 0), nI (Z + 1)))
      unfold X8_allCan_L48
      rw [if_neg (show ¬ nI (2 ^ n) ≤ (g, nI Z).2 from by show ¬ nI (2 ^ n) ≤ nI Z; rw [nI_leI (by omega) (by omega)]; omega)]
      exact m1
    · rw [upd_at, if_neg (by omega)]
      exact hI.1 Y hY
    · rw [upd_at]
      by_cases e : Y = Z
      · rw [if_pos (by omega), e]
        cases hb : b
        · rw [hb] at m2
          exact Or.inr ⟨rfl, fun z => Bool.noConfusion (m2.mpr z)⟩
        · rw [hb] at m2
          exact Or.inl ⟨rfl, m2.mp rfl⟩
      · rw [if_neg (by omega)]
        exact hI.2 Y (by omega)
  · refine ⟨_, ?_, g, rfl, hI.2⟩
    unfold X8_allCan_L48
    rw [if_pos (show nI (2 ^ n) ≤ (g, nI (2 ^ n)).2 from Int32.le_refl _)]
    rfl
theorem m_allCan {th only : Nat → Int32} (hn : n ≤ 8) (hth : ∀ j, j < n → th j = nI (nb fs sc n j)) (hon : ∀ j, j < n → only j = nI (on j) ∧ on j < 2 ^ 16) (can : Nat → Int32) : ∃ (b : Bool) (can' : Nat → Int32), FX8_allCan (nI n) th only can = some ((if b then 1 else 0), can') ∧ (b = true ↔ Poss fs sc on (2 ^ n - 1)) := by
  have h8 : (2 : Nat) ^ n ≤ 256 := Nat.pow_le_pow_right (n := 2) (by decide) hn
  have hp1 : 0 < 2 ^ n := Nat.two_pow_pos n
  have main : ∀ g, CanRow fs sc on n 16 (2 ^ n) g → ∃ o, loopO (X8_allCan_L42 (nI n) th only (nI (2 ^ n))) (g, 15) = some o ∧ ∃ b : Bool, o.1 = (if b then 1 else 0) ∧ (b = true ↔ Poss fs sc on (2 ^ n - 1)) := fun g hg => by
    refine for_inv (fun (g : Nat → Int32) i => (g, (if i < 16 then nI (15 - i) else (-1 : Int32)))) 16 (fun i g => CanRow fs sc on n (16 - i) (2 ^ n) g) _ (fun i g hi hI => ?_) (fun g hI => ?_) (i := 0) (a := g) (Nat.zero_le _) hg
    · left
      obtain ⟨g', m1, m2⟩ := m_row (fs := fs) (sc := sc) (k := 15 - i) hn hth hon (by omega) (by rw [show 15 - i + 1 = 16 - i by omega]; exact hI)
      refine ⟨g', ?_, by rw [show 16 - (i + 1) = 15 - i by omega]; exact m2⟩
      rw [if_pos hi]
      unfold X8_allCan_L42
      rw [if_neg (show ¬ (g, nI (15 - i)).2 < 0 from by show ¬ nI (15 - i) < 0; rw [ltR0 (by omega)]; omega)]
      show loopO (X8_allCan_L48 (nI n) th only (nI (2 ^ n)) (nI (15 - i))) (g, 0) = _
      rw [m1]
      by_cases q : i + 1 < 16
      · rw [if_pos q, show 15 - i = (15 - (i + 1)) + 1 by omega, nI_dn]
      · rw [if_neg q, show 15 - i = 0 by omega, show nI 0 + -1 = (-1 : Int32) by decide]
    · rw [if_neg (by decide : ¬ 16 < 16)]
      have := hI (2 ^ n - 1) (by omega)
      rw [show 16 - 16 = 0 by decide, show 256 * 0 + (2 ^ n - 1) = 2 ^ n - 1 by omega, from_0] at this
      have hst : ∀ v : Int32, g (2 ^ n - 1) = v → (v = 0 ∨ v = 1) → X8_allCan_L42 (nI n) th only (nI (2 ^ n)) (g, -1) = some (.inr (v, g)) := fun v hv hv2 => by
        unfold X8_allCan_L42
        rw [if_pos (show (g, (-1 : Int32)).2 < 0 from (by decide : (-1 : Int32) < 0))]
        obtain ⟨m, hm⟩ : ∃ m, 2 ^ n = m + 1 := ⟨2 ^ n - 1, by omega⟩
        rw [hm] at hv ⊢
        rw [nI_pred]
        show rd g 4352 (nI m) _ = _
        rw [rd_nI (by omega) (by decide), show m = m + 1 - 1 by omega, hv, if_pos hv2]
      rcases this with ⟨c1, c2⟩ | ⟨c1, c2⟩
      · exact ⟨_, hst 1 c1 (Or.inr rfl), true, rfl, fun _ => c2, fun _ => rfl⟩
      · exact ⟨_, hst 0 c1 (Or.inl rfl), false, rfl, fun z => Bool.noConfusion z, fun z => absurd z c2⟩
  unfold FX8_allCan
  rw [sh_nI (by omega), bnd_at]
  have key := for_inv (f := X8_allCan_L9 (nI n) th only (nI (2 ^ n))) (fun (g : Nat → Int32) i => (g, nI i)) (2 ^ n) (fun i g => CanRow fs sc on n 16 i g) (fun o => ∃ b : Bool, o.1 = (if b then 1 else 0) ∧ (b = true ↔ Poss fs sc on (2 ^ n - 1))) (fun Z g hZ hI => ?_) (fun g hI => ?_) (i := 0) (a := can) (Nat.zero_le _) (fun Y hY => by omega)
  · obtain ⟨⟨v, can'⟩, k1, b, k2, k3⟩ := key
    simp only at k2
    rw [k2] at k1
    exact ⟨b, can', k1, k3⟩
  · left
    have hge : ¬ nI (2 ^ n) ≤ nI Z := by rw [nI_leI (by omega) (by omega)]; omega
    have hidx : (4096 : Int32) + nI Z = nI (4096 + Z) := by rw [show (4096 : Int32) = nI 4096 from rfl, nI_add]
    have hrow : ∀ v : Int32, ((v = 1 ∧ Z = 0) ∨ (v = 0 ∧ Z ≠ 0)) → CanRow fs sc on n 16 (Z + 1) (upd g (4096 + Z) v) := fun v hv Y hY => by
      rw [upd_at]
      by_cases e : Y = Z
      · rw [if_pos (by omega), from_16, e]
        rcases hv with ⟨h1, h2⟩ | ⟨h1, h2⟩
        · exact Or.inl ⟨h1, h2⟩
        · exact Or.inr ⟨h1, h2⟩
      · rw [if_neg (by omega)]
        exact hI Y (by omega)
    by_cases h0 : Z = 0
    · refine ⟨upd g (4096 + Z) 1, ?_, hrow 1 (Or.inl ⟨rfl, h0⟩)⟩
      have h0' : nI Z = 0 := by rw [h0]; rfl
      simp (disch := omega) only [X8_allCan_L9, hge, ↓reduceIte, eq_true h0', X8_allCan_J32, hidx, nar1, wr_nI, bnd_at, nI_1]
    · refine ⟨upd g (4096 + Z) 0, ?_, hrow 0 (Or.inr ⟨rfl, h0⟩)⟩
      have h0' : ¬ nI Z = 0 := by rw [eqR0 (by omega)]; exact h0
      simp (disch := omega) only [X8_allCan_L9, hge, ↓reduceIte, h0', X8_allCan_J32, hidx, nar0, wr_nI, bnd_at, nI_1]
  · obtain ⟨o, m1, b, m2, m3⟩ := main g hI
    refine ⟨o, ?_, b, m2, m3⟩
    simp only [X8_allCan_L9, Int32.le_refl, ↓reduceIte]
    rw [m1]
    rfl
/-- the lists when the roads below r are fixed -/
def fix (ls col : Nat → Nat) (r : Nat) : Nat → Nat := fun j => if j < r then 2 ^ col j else ls j
theorem fix_ext {ls col : Nat → Nat} {r : Nat} (hr : r ≤ n) (hpre : Pre fs sc ls col r) : Poss fs sc (fix ls col r) (2 ^ n - 1) ↔ Ext fs sc n ls col r := by
  constructor
  · rintro ⟨cc, c1, c2⟩
    have hfx : ∀ j, j < r → cc j = col j := fun j hj => by
      have := (c1 j (all_bit.mpr (by omega))).2
      unfold fix at this
      rw [if_pos hj, Nat.testBit_two_pow] at this
      exact (of_decide_eq_true this).symm
    refine ⟨cc, ⟨fun j hj => ?_, c2⟩, hfx⟩
    by_cases q : j < r
    · rw [hfx j q]; exact hpre.1 j q
    · have := c1 j hj
      unfold fix at this
      rw [if_neg q] at this
      exact this
  · rintro ⟨cc, ⟨c1, c2⟩, c3⟩
    refine ⟨cc, fun j hj => ?_, c2⟩
    unfold fix
    by_cases q : j < r
    · rw [if_pos q, c3 j q, Nat.testBit_two_pow]
      exact ⟨(hpre.1 j q).1, by simp⟩
    · rw [if_neg q]; exact c1 j hj
theorem fix_lt {ls col : Nat → Nat} {r : Nat} (hl : ∀ j, j < n → ls j < 2 ^ 16) (hc : ∀ j, j < r → col j < 16) (j : Nat) (hj : j < n) : fix ls col r j < 2 ^ 16 := by
  unfold fix
  by_cases q : j < r
  · rw [if_pos q]; exact Nat.pow_lt_pow_right (by decide) (hc j q)
  · rw [if_neg q]; exact hl j hj
theorem and_bit (x i : Nat) : x &&& 2 ^ i = if x.testBit i then 2 ^ i else 0 := by
  refine Nat.eq_of_testBit_eq (fun j => ?_)
  rw [Nat.testBit_and, Nat.testBit_two_pow]
  by_cases e : i = j
  · subst e
    cases q : x.testBit i <;> simp
  · cases q : x.testBit i <;> simp [e]
theorem ch_eq (N : Int32) (num ml tr th hv ms : Nat → Int32) (l1 v d : Int32) (only can : Nat → Int32) : X8_choose_L67 N num ml tr th hv ms l1 (only, can, v, d) = if d = 0 then (bnd (v + 1) (fun x8 => rd ml 24 l1 (fun x9 => wr only 24 l1 (x9 &&& (1 <<< (x8 &&& 31))) (fun g10 => rd g10 24 l1 (fun x11 => if x11 = 0 then (some (.inl (g10, can, x8, 0))) else ((FX8_allCan N th g10 can).bind (fun o12 => if o12.1 = 0 then (some (.inl (g10, o12.2, x8, 0))) else (some (.inl (g10, o12.2, x8, 1)))))))))) else ((X8_choose_J115 N num ml tr th hv ms only can l1 v).map (fun z => (.inr z))) := rfl
theorem ch_try {N : Int32} {num ml tr th hv ms only can : Nat → Int32} {r i l : Nat} {v : Int32} (hr : r < 24) (hi : i < 16) (hv1 : v + 1 = nI i) (hl : ml r = nI l) (hl16 : l < 2 ^ 16) : X8_choose_L67 N num ml tr th hv ms (nI r) (only, can, v, 0) = if l.testBit i then ((FX8_allCan N th (upd only r (nI (2 ^ i))) can).bind (fun o12 => if o12.1 = 0 then (some (.inl (upd only r (nI (2 ^ i)), o12.2, nI i, 0))) else (some (.inl (upd only r (nI (2 ^ i)), o12.2, nI i, 1))))) else some (.inl (upd only r (nI 0), can, nI i, 0)) := by
  have h16 : (2 : Nat) ^ i < 2 ^ 16 := Nat.pow_lt_pow_right (by decide) hi
  have hp : 0 < 2 ^ i := Nat.two_pow_pos i
  rw [ch_eq, if_pos rfl, hv1, bnd_at, rd_nI hr (by decide), hl, sh_nI (by omega), fa_and, and_bit, wr_nI hr (by decide), rd_nI hr (by decide), upd_at, if_pos rfl]
  cases q : l.testBit i
  · rw [if_neg (by decide : ¬ false = true), if_pos (by rfl)]
    rfl
  · rw [if_pos rfl, if_neg (by rw [eqR0 (by omega)]; omega)]
    rfl
theorem m_pick {N : Int32} {num ml tr th hv ms only can : Nat → Int32} {ls col : Nat → Nat} {r : Nat} (hn : n ≤ 8) (hth : ∀ j, j < n → th j = nI (nb fs sc n j)) (hml : ∀ j, j < n → ls j < 65536 ∧ ml j = nI (ls j)) (hr : r < n) (hpre : Pre fs sc ls col r) (hext : Ext fs sc n ls col r) (honly : ∀ j, j < n → only j = nI (fix ls col r j)) : ∃ (k : Nat) (only' can' : Nat → Int32), loopO (X8_choose_L67 (nI n) num ml tr th hv ms (nI r)) (only, can, -1, 0) = some (.inl (upd tr r (nI k), only', can', nI (r + 1))) ∧ Pre fs sc ls (fun j => if j = r then k else col j) (r + 1) ∧ Ext fs sc n ls (fun j => if j = r then k else col j) (r + 1) ∧ (∀ m, m < k → ¬ Ext fs sc n ls (fun j => if j = r then m else col j) (r + 1)) ∧ ∀ j, j < n → only' j = nI (fix ls (fun j => if j = r then k else col j) (r + 1) j) := by
  have key := for_inv (f := X8_choose_L67 (nI n) num ml tr th hv ms (nI r)) (fun (z : (Nat → Int32) × (Nat → Int32) × Int32 × Int32) (_ : Nat) => z) 17 (fun i z => (z.2.2.1 + 1 = nI i ∧ z.2.2.2 = 0 ∧ (∀ j, j < n → j ≠ r → z.1 j = nI (fix ls col r j)) ∧ ∀ m, m < i → ¬ Ext fs sc n ls (fun j => if j = r then m else col j) (r + 1)) ∨ (∃ k, z.2.2.1 = nI k ∧ z.2.2.2 = 1 ∧ Pre fs sc ls (fun j => if j = r then k else col j) (r + 1) ∧ Ext fs sc n ls (fun j => if j = r then k else col j) (r + 1) ∧ (∀ m, m < k → ¬ Ext fs sc n ls (fun j => if j = r then m else col j) (r + 1)) ∧ ∀ j, j < n → z.1 j = nI (fix ls (fun j => if j = r then k else col j) (r + 1) j))) (fun o => ∃ (k : Nat) (only' can' : Nat → Int32), o = .inl (upd tr r (nI k), only', can', nI (r + 1)) ∧ Pre fs sc ls (fun j => if j = r then k else col j) (r + 1) ∧ Ext fs sc n ls (fun j => if j = r then k else col j) (r + 1) ∧ (∀ m, m < k → ¬ Ext fs sc n ls (fun j => if j = r then m else col j) (r + 1)) ∧ ∀ j, j < n → only' j = nI (fix ls (fun j => if j = r then k else col j) (r + 1) j)) (fun i z hi hI => ?_) (fun z hI => ?_) (i := 0) (a := (only, can, -1, 0)) (Nat.zero_le _) (Or.inl ⟨(by decide : (-1 : Int32) + 1 = nI 0), rfl, fun j hj _ => honly j hj, fun m hm => by omega⟩)
  · obtain ⟨o, k1, k, only', can', rfl, k2⟩ := key
    exact ⟨k, only', can', k1, k2⟩
  · obtain ⟨zo, zc, zv, zd⟩ := z
    rcases hI with ⟨i1, i2, i3, i4⟩ | ⟨k, i1, i2, i3, i4, i5, i6⟩
    · left
      simp only at i1 i2 i3
      subst i2
      have hi16 : i < 16 := by
        rcases Nat.lt_or_ge i 16 with q | q
        · exact q
        · exfalso
          obtain ⟨cc, c1, c2⟩ := hext
          have := (c1.1 r (all_bit.mpr hr)).1
          exact i4 (cc r) (by omega) ⟨cc, c1, fun j hj => by
            show cc j = if j = r then cc r else col j
            by_cases e : j = r
            · rw [if_pos e, e]
            · rw [if_neg e]; exact c2 j (by omega)⟩
      obtain ⟨l1, l2⟩ := hml r hr
      have hst := ch_try (N := nI n) (num := num) (tr := tr) (th := th) (hv := hv) (ms := ms) (only := zo) (can := zc) (show r < 24 by omega) hi16 i1 l2 (show ls r < 2 ^ 16 by omega)
      have h16 : (2 : Nat) ^ i < 2 ^ 16 := Nat.pow_lt_pow_right (by decide) hi16
      have nope : (ls r).testBit i = false → ¬ Ext fs sc n ls (fun j => if j = r then i else col j) (r + 1) := fun hb => by
        rintro ⟨cc, c1, c2⟩
        have e : cc r = i := by
          have := c2 r (by omega)
          simpa using this
        have := (c1.1 r (all_bit.mpr hr)).2
        rw [e, hb] at this
        exact Bool.noConfusion this
      have more : ¬ Ext fs sc n ls (fun j => if j = r then i else col j) (r + 1) → ∀ m, m < i + 1 → ¬ Ext fs sc n ls (fun j => if j = r then m else col j) (r + 1) := fun hno m hm => by
        rcases Nat.lt_or_ge m i with q | q
        · exact i4 m q
        · rw [show m = i by omega]; exact hno
      cases hb : (ls r).testBit i
      · rw [hb, if_neg (by decide)] at hst
        exact ⟨_, hst, Or.inl ⟨nI_1 i, rfl, fun j hj hne => by show upd zo r (nI 0) j = _; rw [upd_at, if_neg hne]; exact i3 j hj hne, more (nope hb)⟩⟩
      · rw [hb, if_pos rfl] at hst
        -- the road's number is fixed: try
        by_cases hpre' : Pre fs sc ls (fun j => if j = r then i else col j) (r + 1)
        · have hon : ∀ j, j < n → upd zo r (nI (2 ^ i)) j = nI (fix ls (fun j => if j = r then i else col j) (r + 1) j) ∧ fix ls (fun j => if j = r then i else col j) (r + 1) j < 2 ^ 16 := fun j hj => by
            refine ⟨?_, fix_lt (fun j hj => (hml j hj).1) (fun j hj => (hpre'.1 j hj).1) j hj⟩
            rw [upd_at]
            unfold fix
            by_cases e : j = r
            · rw [if_pos e, if_pos (show j < r + 1 by omega)]
              simp only [e, ↓reduceIte]
            · rw [if_neg e, i3 j hj e]
              unfold fix
              by_cases q : j < r
              · rw [if_pos q, if_pos (show j < r + 1 by omega)]
                simp only [e, ↓reduceIte]
              · rw [if_neg q, if_neg (show ¬ j < r + 1 by omega)]
          obtain ⟨b, can', a1, a2⟩ := m_allCan (fs := fs) (sc := sc) hn hth hon zc
          rw [fix_ext (by omega) hpre'] at a2
          rw [a1, Option.bind_some] at hst
          cases hb2 : b
          · rw [hb2] at hst a2
            rw [if_pos (show ((if false = true then (1 : Int32) else 0), can').1 = 0 from rfl)] at hst
            exact ⟨_, hst, Or.inl ⟨nI_1 i, rfl, fun j hj hne => by show upd zo r (nI (2 ^ i)) j = _; rw [upd_at, if_neg hne]; exact i3 j hj hne, more (fun z => Bool.noConfusion (a2.mpr z))⟩⟩
          · rw [hb2] at hst a2
            rw [if_neg (show ¬ ((if true = true then (1 : Int32) else 0), can').1 = 0 from (by decide : ¬ (1 : Int32) = 0))] at hst
            exact ⟨_, hst, Or.inr ⟨i, rfl, rfl, hpre', a2.mp rfl, i4, fun j hj => (hon j hj).1⟩⟩
        · -- it clashes with a road below
          have hno : ¬ Ext fs sc n ls (fun j => if j = r then i else col j) (r + 1) := fun hx => hpre' (by
            obtain ⟨cc, c1, c2⟩ := hx
            refine ⟨fun j hj => ?_, fun a b ha hb' hab => ?_⟩
            · rw [← c2 j hj]; exact c1.1 j (all_bit.mpr (by omega))
            · rw [← c2 a ha, ← c2 b hb']; exact c1.2 a b (all_bit.mpr (by omega)) (all_bit.mpr (by omega)) hab)
          have hno2 : ∀ on' : Nat → Nat, (∀ j, on' j = fix ls (fun j => if j = r then i else col j) (r + 1) j) → ¬ Poss fs sc on' (2 ^ n - 1) := fun on' ho hp => by
            obtain ⟨cc, c1, c2⟩ := hp
            have hval : ∀ j, j < r + 1 → cc j = if j = r then i else col j := fun j hj => by
              have := (c1 j (all_bit.mpr (by omega))).2
              rw [ho j] at this
              unfold fix at this
              rw [if_pos hj, Nat.testBit_two_pow] at this
              exact (of_decide_eq_true this).symm
            refine hpre' ⟨fun j hj => ?_, fun a b ha hb' hab => ?_⟩
            · rw [show (fun j => if j = r then i else col j) j = if j = r then i else col j from rfl]
              by_cases e : j = r
              · rw [if_pos e, e]; exact ⟨hi16, hb⟩
              · rw [if_neg e]; exact hpre.1 j (by omega)
            · show (if a = r then i else col a) ≠ (if b = r then i else col b)
              rw [← hval a ha, ← hval b hb']
              exact c2 a b (all_bit.mpr (by omega)) (all_bit.mpr (by omega)) hab
          have hon : ∀ j, j < n → upd zo r (nI (2 ^ i)) j = nI (fix ls (fun j => if j = r then i else col j) (r + 1) j) ∧ fix ls (fun j => if j = r then i else col j) (r + 1) j < 2 ^ 16 := fun j hj => by
            refine ⟨?_, fix_lt (fun j hj => (hml j hj).1) (fun j hj => ?_) j hj⟩
            · rw [upd_at]
              unfold fix
              by_cases e : j = r
              · rw [if_pos e, if_pos (show j < r + 1 by omega)]
                simp only [e, ↓reduceIte]
              · rw [if_neg e, i3 j hj e]
                unfold fix
                by_cases q : j < r
                · rw [if_pos q, if_pos (show j < r + 1 by omega)]
                  simp only [e, ↓reduceIte]
                · rw [if_neg q, if_neg (show ¬ j < r + 1 by omega)]
            · show (if j = r then i else col j) < 16
              by_cases e : j = r
              · rw [if_pos e]; exact hi16
              · rw [if_neg e]; exact (hpre.1 j (by omega)).1
          obtain ⟨b, can', a1, a2⟩ := m_allCan (fs := fs) (sc := sc) hn hth hon zc
          have hb2 : b = false := by
            cases hb2 : b
            · rfl
            · exact absurd (a2.mp hb2) (hno2 _ (fun j => rfl))
          rw [a1, Option.bind_some, hb2, if_pos (show ((if false = true then (1 : Int32) else 0), can').1 = 0 from rfl)] at hst
          exact ⟨_, hst, Or.inl ⟨nI_1 i, rfl, fun j hj hne => by show upd zo r (nI (2 ^ i)) j = _; rw [upd_at, if_neg hne]; exact i3 j hj hne, more hno⟩⟩
    · right
      simp only at i1 i2 i6
      subst i1 i2
      refine ⟨_, ?_, k, zo, zc, rfl, i3, i4, i5, i6⟩
      rw [ch_eq, if_neg (by decide)]
      unfold X8_choose_J115
      rw [wr_nI (by omega) (by decide), bnd_at, nI_1]
      rfl
  · obtain ⟨zo, zc, zv, zd⟩ := z
    rcases hI with ⟨i1, i2, i3, i4⟩ | ⟨k, i1, i2, i3, i4, i5, i6⟩
    · exfalso
      obtain ⟨cc, c1, c2⟩ := hext
      have := (c1.1 r (all_bit.mpr hr)).1
      exact i4 (cc r) (by omega) ⟨cc, c1, fun j hj => by
        show cc j = if j = r then cc r else col j
        by_cases e : j = r
        · rw [if_pos e, e]
        · rw [if_neg e]; exact c2 j (by omega)⟩
    · simp only at i1 i2 i6
      subst i1 i2
      refine ⟨_, ?_, k, zo, zc, rfl, i3, i4, i5, i6⟩
      rw [ch_eq, if_neg (by decide)]
      unfold X8_choose_J115
      rw [wr_nI (by omega) (by decide), bnd_at, nI_1]
      rfl
end CHOOSE2
