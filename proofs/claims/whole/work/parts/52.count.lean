/-! ===== count: sums over free sets ===== -/
def sj (g : Nat → Int64) : Nat → Int64
  | 0 => 0
  | i + 1 => sj g i + g i
theorem sj_cong {g h : Nat → Int64} : ∀ {m : Nat}, (∀ i, i < m → g i = h i) → sj g m = sj h m
  | 0, _ => rfl
  | m + 1, q => by rw [sj, sj, sj_cong (fun i hi => q i (by omega)), q m (by omega)]
theorem sj_upd (w f : Nat → Int64) (v : Int64) {i : Nat} : ∀ {m : Nat}, i < m → sj (fun Y => vp_updL w i v Y * f Y) m = sj (fun Y => w Y * f Y) m + (v - w i) * f i
  | m + 1, h => by
    rw [sj, sj]
    by_cases e : i = m
    · subst e
      have : sj (fun Y => vp_updL w i v Y * f Y) i = sj (fun Y => w Y * f Y) i := sj_cong (fun k hk => by
        have : vp_updL w i v k = w k := by unfold vp_updL; rw [if_neg (by omega)]
        rw [this])
      rw [this]
      have : vp_updL w i v i = v := by unfold vp_updL; rw [if_pos rfl]
      rw [this]
      grind
    · rw [sj_upd w f v (show i < m by omega)]
      have : vp_updL w i v m = w m := by unfold vp_updL; rw [if_neg (by omega)]
      rw [this]
      grind
theorem sj_first (g : Nat → Int64) : ∀ m, sj g (m + 1) = g 0 + sj (fun i => g (i + 1)) m
  | 0 => by simp [sj]
  | m + 1 => by
    rw [sj, sj_first g m, sj]
    grind
theorem sj_zero {g : Nat → Int64} : ∀ {m : Nat}, (∀ i, i < m → g i = 0) → sj g m = 0
  | 0, _ => rfl
  | m + 1, q => by rw [sj, sj_zero (fun i hi => q i (by omega)), q m (by omega)]; rfl
section COUNT
variable (fs sc : Nat → Nat) (n : Nat)
/-- the sum of f over what is left of set when a free part of oth from r on is taken -/
def Tw (f : Nat → Int64) : Nat → Nat → Nat → Nat → Int64
  | 0, _, set, _ => f set
  | e + 1, r, set, oth => Tw f e (r + 1) set oth + (if oth.testBit r then Tw f e (r + 1) (set ^^^ 2 ^ r) (sd oth (nb fs sc n r)) else 0)
theorem tw_cong {f g : Nat → Int64} : ∀ (e r set oth oth' : Nat), (∀ i, r ≤ i → oth.testBit i = oth'.testBit i) → (∀ Y, (∀ i, i < r → Y.testBit i = set.testBit i) → f Y = g Y) → Tw fs sc n f e r set oth = Tw fs sc n g e r set oth'
  | 0, r, set, oth, oth', _, h2 => h2 set (fun _ _ => rfl)
  | e + 1, r, set, oth, oth', h1, h2 => by
    rw [Tw, Tw, h1 r (Nat.le_refl _)]
    rw [tw_cong e (r + 1) set oth oth' (fun i hi => h1 i (by omega)) (fun Y hY => h2 Y (fun i hi => hY i (by omega)))]
    cases oth'.testBit r
    · rfl
    · simp only [↓reduceIte]
      rw [tw_cong e (r + 1) (set ^^^ 2 ^ r) (sd oth (nb fs sc n r)) (sd oth' (nb fs sc n r)) (fun i hi => by rw [sd_bit, sd_bit, h1 i (by omega)]) (fun Y hY => h2 Y (fun i hi => by
        rw [hY i (by omega), xor_bit]
        have : ¬ i = r := by omega
        simp [this]))]
theorem tw_cong3 {f g : Nat → Int64} : ∀ (e r set oth : Nat), (∀ Y, (∀ i, (i < r ∨ r + e ≤ i) → Y.testBit i = set.testBit i) → f Y = g Y) → Tw fs sc n f e r set oth = Tw fs sc n g e r set oth
  | 0, r, set, oth, h2 => h2 set (fun _ _ => rfl)
  | e + 1, r, set, oth, h2 => by
    rw [Tw, Tw]
    rw [tw_cong3 e (r + 1) set oth (fun Y hY => h2 Y (fun i hi => hY i (by omega)))]
    cases oth.testBit r
    · rfl
    · simp only [↓reduceIte]
      rw [tw_cong3 e (r + 1) (set ^^^ 2 ^ r) (sd oth (nb fs sc n r)) (fun Y hY => h2 Y (fun i hi => by
        rw [hY i (by omega), xor_bit]
        have : ¬ i = r := by omega
        simp [this]))]
theorem tw_add (f g : Nat → Int64) : ∀ (e r set oth : Nat), Tw fs sc n (fun Y => f Y + g Y) e r set oth = Tw fs sc n f e r set oth + Tw fs sc n g e r set oth
  | 0, _, _, _ => rfl
  | e + 1, r, set, oth => by
    rw [Tw, Tw, Tw, tw_add f g e, tw_add f g e]
    cases oth.testBit r
    · simp only [Bool.false_eq_true, ↓reduceIte]; grind
    · simp only [↓reduceIte]; grind
theorem tw_mul (c : Int64) (f : Nat → Int64) : ∀ (e r set oth : Nat), Tw fs sc n (fun Y => c * f Y) e r set oth = c * Tw fs sc n f e r set oth
  | 0, _, _, _ => rfl
  | e + 1, r, set, oth => by
    rw [Tw, Tw, tw_mul c f e, tw_mul c f e]
    cases oth.testBit r
    · simp only [Bool.false_eq_true, ↓reduceIte]; grind
    · simp only [↓reduceIte]; grind
theorem tw_zero : ∀ (e r set oth : Nat), Tw fs sc n (fun _ => 0) e r set oth = 0
  | 0, _, _, _ => rfl
  | e + 1, r, set, oth => by
    rw [Tw, tw_zero e, tw_zero e]
    cases oth.testBit r <;> rfl
theorem tw_shift (f : Nat → Int64) (x : Nat) : ∀ (e r set oth : Nat), Tw fs sc n (fun Y => f (Y ^^^ x)) e r set oth = Tw fs sc n f e r (set ^^^ x) oth
  | 0, _, _, _ => rfl
  | e + 1, r, set, oth => by
    rw [Tw, Tw, tw_shift f x e, tw_shift f x e, Nat.xor_assoc, Nat.xor_comm (2 ^ r) x, ← Nat.xor_assoc]
/-- roads that cannot be taken are passed over -/
theorem tw_skip (f : Nat → Int64) (set oth : Nat) : ∀ (m e r : Nat), (∀ i, r ≤ i → i < r + m → oth.testBit i = false) → Tw fs sc n f (e + m) r set oth = Tw fs sc n f e (r + m) set oth
  | 0, e, r, _ => rfl
  | m + 1, e, r, h => by
    rw [show e + (m + 1) = (e + m) + 1 by omega, Tw, h r (Nat.le_refl _) (by omega)]
    simp only [Bool.false_eq_true, ↓reduceIte]
    rw [tw_skip f set oth m e (r + 1) (fun i h1 h2 => h i (by omega) (by omega)), show r + 1 + m = r + (m + 1) by omega]
    exact Int64.add_zero _
abbrev lowb (Z : Nat) : Nat := fa_first (fun i => Z.testBit i) 12
/-- the colourings of Z with j numbers, block by block -/
def Pj : Nat → Nat → Int64
  | 0, Z => if Z = 0 then 1 else 0
  | j + 1, Z => if Z = 0 then 1 else lN (j + 1) * Tw fs sc n (Pj j) (n - (lowb Z + 1)) (lowb Z + 1) (Z ^^^ 2 ^ lowb Z) (sd Z (nb fs sc n (lowb Z)))
theorem pj_0 (j : Nat) : Pj fs sc n j 0 = 1 := by
  cases j <;> simp [Pj]
/-- nothing of C is beside r -/
def noN (C r : Nat) : Bool := !(ex (fun i => C.testBit i && adj fs sc i r) n)
def Gr : List Nat → Nat → Nat → Int64
  | [], j, R => Pj fs sc n j R
  | C :: Cs, j, R => Tw fs sc n (fun Y => Gr Cs j Y) n 0 R (mk (fun r => R.testBit r && noN fs sc n C r) n)
def extL (r : Nat) : List Nat → (List Nat → Int64) → Int64
  | [], _ => 0
  | C :: Cs, K => (if noN fs sc n C r then K ((C ||| 2 ^ r) :: Cs) else 0) + extL r Cs (fun L => K (C :: L))
theorem ext_cong2 {r : Nat} : ∀ (Cs : List Nat) {K K' : List Nat → Int64}, (∀ L, K L = K' L) → extL fs sc n r Cs K = extL fs sc n r Cs K'
  | [], _, _, _ => rfl
  | C :: Cs, K, K', h => by
    rw [extL, extL, h, ext_cong2 Cs (K := fun L => K (C :: L)) (K' := fun L => K' (C :: L)) (fun L => h _)]
theorem tw_ext (r : Nat) : ∀ (Cs : List Nat) (K : List Nat → Nat → Int64) (e q set oth : Nat), Tw fs sc n (fun Y => extL fs sc n r Cs (fun L => K L Y)) e q set oth = extL fs sc n r Cs (fun L => Tw fs sc n (K L) e q set oth)
  | [], K, e, q, set, oth => tw_zero fs sc n e q set oth
  | C :: Cs, K, e, q, set, oth => by
    have h1 : (fun Y => extL fs sc n r (C :: Cs) (fun L => K L Y)) = fun Y => (if noN fs sc n C r then K ((C ||| 2 ^ r) :: Cs) Y else 0) + extL fs sc n r Cs (fun L => K (C :: L) Y) := rfl
    rw [h1, tw_add, tw_ext r Cs (fun L => K (C :: L)), extL]
    congr 1
    cases noN fs sc n C r
    · exact tw_zero fs sc n e q set oth
    · rfl
theorem noN_or (C r q : Nat) (hr : r < n) : noN fs sc n (C ||| 2 ^ r) q = (noN fs sc n C q && !adj fs sc r q) := by
  unfold noN
  rw [← Bool.not_or]
  congr 1
  cases h : ex (fun i => C.testBit i && adj fs sc i q) n || adj fs sc r q
  · rw [Bool.or_eq_false_iff, ex_false] at h
    rw [ex_false]
    intro i hi
    rw [fb_bit_set]
    by_cases e : i = r
    · rw [e, h.2]; simp
    · have := h.1 i hi
      simpa [e] using this
  · rw [Bool.or_eq_true, ex_true] at h
    rw [ex_true]
    rcases h with ⟨i, h1, h2⟩ | h
    · refine ⟨i, h1, ?_⟩
      rw [fb_bit_set]
      simp only [Bool.and_eq_true] at h2
      simp [h2.1, h2.2]
    · exact ⟨r, hr, by rw [fb_bit_set]; simp [h]⟩
theorem noN_one (r q : Nat) (hr : r < n) : noN fs sc n (2 ^ r) q = !adj fs sc r q := by
  have := noN_or fs sc n 0 r q hr
  rw [Nat.zero_or] at this
  rw [this]
  have : noN fs sc n 0 q = true := by
    unfold noN
    rw [Bool.not_eq_true', ex_false]
    intro i _
    rw [Nat.zero_testBit]; rfl
  rw [this, Bool.true_and]
/-- a sum from 0 on over what begins behind r -/
theorem tw_from (f : Nat → Int64) {r set oth oth' : Nat} (hr : r < n) (h0 : ∀ i, i ≤ r → oth.testBit i = false) (h1 : ∀ i, r < i → oth.testBit i = oth'.testBit i) : Tw fs sc n f n 0 set oth = Tw fs sc n f (n - (r + 1)) (r + 1) set oth' := by
  have := tw_skip fs sc n f set oth (r + 1) (n - (r + 1)) 0 (fun i _ hi => h0 i (by omega))
  rw [show n - (r + 1) + (r + 1) = n by omega, Nat.zero_add] at this
  rw [this]
  exact tw_cong fs sc n _ _ _ _ _ (fun i hi => h1 i (by omega)) (fun _ _ => rfl)
theorem gr_step (hn : n ≤ 12) (r : Nat) (hr : r < n) : ∀ (Cs : List Nat) (j R : Nat), R < 2 ^ n → R.testBit r = true → (∀ i, i < r → R.testBit i = false) → Gr fs sc n Cs j R = extL fs sc n r Cs (fun L => Gr fs sc n L j (R ^^^ 2 ^ r)) + lN j * Gr fs sc n (Cs ++ [2 ^ r]) (j - 1) (R ^^^ 2 ^ r)
  | [], j, R, hR, h1, h2 => by
    have hR0 : R ≠ 0 := fun e => by rw [e, Nat.zero_testBit] at h1; exact Bool.noConfusion h1
    have hl : lowb R = r := first_of (by omega) h1 h2
    rw [extL, Gr, List.nil_append, Gr]
    cases j with
    | zero =>
      rw [Pj, if_neg hR0, show lN 0 = (0 : Int64) from rfl]
      grind
    | succ j =>
      rw [Pj, if_neg hR0, hl, show j + 1 - 1 = j by omega]
      have e : Tw fs sc n (fun Y => Gr fs sc n [] j Y) n 0 (R ^^^ 2 ^ r) (mk (fun q => (R ^^^ 2 ^ r).testBit q && noN fs sc n (2 ^ r) q) n) = Tw fs sc n (Pj fs sc n j) (n - (r + 1)) (r + 1) (R ^^^ 2 ^ r) (sd R (nb fs sc n r)) := by
        refine tw_from fs sc n _ hr (fun i hi => ?_) (fun i hi => ?_)
        · rw [mk_bit, xor_bit]
          rcases Nat.lt_or_ge i r with q | q
          · rw [h2 i q]
            have : ¬ i = r := by omega
            simp [this]
          · rw [show i = r by omega, h1]; simp
        · rw [mk_bit, xor_bit, sd_bit, noN_one fs sc n r i hr, mk_bit]
          have : ¬ i = r := by omega
          cases hb : R.testBit i
          · simp [this]
          · have := bit_lt hR hb
            simp [this, ‹¬ i = r›]
      rw [e]
      grind
  | C :: Cs, j, R, hR, h1, h2 => by
    have ih := fun Y h1 h2 h3 => gr_step hn r hr Cs j Y h1 h2 h3
    rw [extL]
    obtain ⟨oth, eo⟩ : ∃ oth, oth = mk (fun q => R.testBit q && noN fs sc n C q) n := ⟨_, rfl⟩
    have hob : ∀ i, oth.testBit i = (R.testBit i && noN fs sc n C i) := fun i => by
      rw [eo, mk_bit]
      cases hb : R.testBit i
      · simp
      · simp [bit_lt hR hb]
    -- the sum, opened at r
    have open1 : Gr fs sc n (C :: Cs) j R = Tw fs sc n (fun Y => Gr fs sc n Cs j Y) (n - (r + 1)) (r + 1) R oth + (if oth.testBit r then Tw fs sc n (fun Y => Gr fs sc n Cs j Y) (n - (r + 1)) (r + 1) (R ^^^ 2 ^ r) (sd oth (nb fs sc n r)) else 0) := by
      rw [Gr, ← eo]
      have := tw_skip fs sc n (fun Y => Gr fs sc n Cs j Y) R oth r (n - (r + 1) + 1) 0 (fun i _ hi => by rw [hob, h2 i (by omega)]; rfl)
      rw [show n - (r + 1) + 1 + r = n by omega, Nat.zero_add] at this
      rw [this, Tw]
    have second : (if oth.testBit r then Tw fs sc n (fun Y => Gr fs sc n Cs j Y) (n - (r + 1)) (r + 1) (R ^^^ 2 ^ r) (sd oth (nb fs sc n r)) else 0) = if noN fs sc n C r then Gr fs sc n ((C ||| 2 ^ r) :: Cs) j (R ^^^ 2 ^ r) else 0 := by
      rw [hob r, h1, Bool.true_and]
      cases hN : noN fs sc n C r
      · rfl
      · simp only [↓reduceIte]
        rw [Gr]
        refine (tw_from fs sc n _ hr (fun i hi => ?_) (fun i hi => ?_)).symm
        · rw [mk_bit, xor_bit]
          rcases Nat.lt_or_ge i r with q | q
          · rw [h2 i q]
            have : ¬ i = r := by omega
            simp [this]
          · rw [show i = r by omega, h1]; simp
        · rw [mk_bit, xor_bit, noN_or fs sc n C r i hr, sd_bit, hob, mk_bit]
          have hir : ¬ i = r := by omega
          cases hb : R.testBit i
          · simp [hir]
          · have := bit_lt hR hb
            simp [this, hir]
    have first : Tw fs sc n (fun Y => Gr fs sc n Cs j Y) (n - (r + 1)) (r + 1) R oth = extL fs sc n r Cs (fun L => Gr fs sc n (C :: L) j (R ^^^ 2 ^ r)) + lN j * Gr fs sc n (C :: Cs ++ [2 ^ r]) (j - 1) (R ^^^ 2 ^ r) := by
      have back : ∀ (L : List Nat) (i : Nat), Tw fs sc n (fun Y => Gr fs sc n L i (Y ^^^ 2 ^ r)) (n - (r + 1)) (r + 1) R oth = Gr fs sc n (C :: L) i (R ^^^ 2 ^ r) := fun L i => by
        rw [tw_shift fs sc n (fun Y => Gr fs sc n L i Y) (2 ^ r), Gr]
        refine (tw_from fs sc n _ hr (fun q hq => ?_) (fun q hq => ?_)).symm
        · rw [mk_bit, xor_bit]
          rcases Nat.lt_or_ge q r with z | z
          · rw [h2 q z]
            have : ¬ q = r := by omega
            simp [this]
          · rw [show q = r by omega, h1]; simp
        · rw [mk_bit, xor_bit, hob]
          have hir : ¬ q = r := by omega
          cases hb : R.testBit q
          · simp [hir]
          · have := bit_lt hR hb
            simp [this, hir]
      have hcut : Tw fs sc n (fun Y => Gr fs sc n Cs j Y) (n - (r + 1)) (r + 1) R oth = Tw fs sc n (fun Y => extL fs sc n r Cs (fun L => Gr fs sc n L j (Y ^^^ 2 ^ r)) + lN j * Gr fs sc n (Cs ++ [2 ^ r]) (j - 1) (Y ^^^ 2 ^ r)) (n - (r + 1)) (r + 1) R oth := by
        refine tw_cong3 fs sc n _ _ _ _ (fun Y hY => ih Y ?_ ?_ (fun i hi => ?_))
        · refine Nat.lt_pow_two_of_testBit Y (fun i hi => ?_)
          rw [hY i (by omega)]
          exact Nat.testBit_lt_two_pow (Nat.lt_of_lt_of_le hR (Nat.pow_le_pow_right (by decide) hi))
        · rw [hY r (by omega)]; exact h1
        · rw [hY i (by omega)]; exact h2 i hi
      rw [hcut, tw_add, tw_mul fs sc n (lN j) (fun Y => Gr fs sc n (Cs ++ [2 ^ r]) (j - 1) (Y ^^^ 2 ^ r)), tw_ext fs sc n r Cs (fun L Y => Gr fs sc n L j (Y ^^^ 2 ^ r)), back (Cs ++ [2 ^ r]) (j - 1)]
      rw [ext_cong2 fs sc n Cs (fun L => back L j)]
      rfl
    rw [open1, second, first]
    grind
end COUNT
