/-! ===== count: the model ===== -/
section COUNT3
variable {n p : Nat} {fs sc : Nat → Nat} {k : Nat}
def ff (k : Nat) : Nat → Int64
  | 0 => 1
  | m + 1 => ff k m * lN (k - m)
def cl1 (n : Nat) (φ : Nat → Nat) (d v : Nat) : Nat := mk (fun i => decide (i < d) && decide (φ i = v)) n
def cls (n : Nat) (φ : Nat → Nat) (d m : Nat) : List Nat := (List.range m).map (cl1 n φ d)
theorem tw_none (f : Nat → Int64) (e r set oth : Nat) (h : ∀ i, r ≤ i → oth.testBit i = false) : Tw fs sc n f e r set oth = f set := by
  have := tw_skip fs sc n f set oth e 0 r (fun i hi _ => h i hi)
  rw [Nat.zero_add] at this
  rw [this, Tw]
theorem grz : ∀ (L : List Nat) (j : Nat), Gr fs sc n L j 0 = 1
  | [], j => pj_0 fs sc n j
  | C :: L, j => by
    rw [Gr, tw_none _ _ _ _ _ (fun i _ => by rw [mk_bit, Nat.zero_testBit]; simp), grz L j]
theorem mo_k {s : Nat} {φ : Nat → Nat} : ∀ {d : Nat}, (∀ j, j < d → j ≠ s → φ j < k) → mo s φ d ≤ k
  | 0, _ => Nat.zero_le _
  | d + 1, h => by
    have := mo_k (d := d) (fun j hj => h j (by omega))
    rw [mo]
    split
    · exact this
    · rename_i hd
      have := h d (by omega) hd
      split <;> omega
theorem ext_sj (r : Nat) : ∀ (L : List Nat) (K : List Nat → Int64), extL fs sc n r L K = sj (fun v => if noN fs sc n (L.getD v 0) r then K (L.set v (L.getD v 0 ||| 2 ^ r)) else 0) L.length
  | [], _ => rfl
  | C :: L, K => by
    rw [extL, List.length_cons, sj_first, ext_sj r L]
    rfl
theorem cls_len (φ : Nat → Nat) (d m : Nat) : (cls n φ d m).length = m := by simp [cls]
theorem cls_get {φ : Nat → Nat} {d m v : Nat} (hv : v < m) : (cls n φ d m).getD v 0 = cl1 n φ d v := by
  unfold cls
  simp [List.getD, hv]
theorem cl1_new {φ : Nat → Nat} {d v : Nat} (hd : d < n) : cl1 n (fun j => if j = d then v else φ j) (d + 1) v = cl1 n φ d v ||| 2 ^ d := by
  unfold cl1
  refine bits_eq (k := n) (mk_lt _ _) (Nat.or_lt_two_pow (mk_lt _ _) (Nat.pow_lt_pow_right (by decide) hd)) (fun i hi => ?_)
  rw [fb_bit_set, mk_bit, mk_bit]
  by_cases e : i = d
  · simp [e, hd]
  · have : (i < d + 1) = (i < d) := propext (by omega)
    simp [e, hi, this]
theorem cl1_old {φ : Nat → Nat} {d v w : Nat} (hw : w ≠ v) : cl1 n (fun j => if j = d then v else φ j) (d + 1) w = cl1 n φ d w := by
  unfold cl1
  refine mk_cong (fun i hi => ?_)
  by_cases e : i = d
  · simp [e, Ne.symm hw]
  · have : (i < d + 1) = (i < d) := propext (by omega)
    simp [e, this]
theorem cls_set {φ : Nat → Nat} {d m v : Nat} (hd : d < n) (hv : v < m) : (cls n φ d m).set v (cl1 n φ d v ||| 2 ^ d) = cls n (fun j => if j = d then v else φ j) (d + 1) m := by
  unfold cls
  refine List.ext_getElem (by simp) (fun i h1 h2 => ?_)
  rw [List.getElem_set, List.getElem_map, List.getElem_map, List.getElem_range]
  by_cases e : v = i
  · subst e
    rw [if_pos rfl, cl1_new hd]
  · rw [if_neg e, cl1_old (Ne.symm e)]
theorem cls_app {φ : Nat → Nat} {d m : Nat} (hd : d < n) (hm : ∀ i, i < d → φ i < m) : cls n (fun j => if j = d then m else φ j) (d + 1) (m + 1) = cls n φ d m ++ [2 ^ d] := by
  unfold cls
  rw [List.range_succ, List.map_append, List.map_cons, List.map_nil]
  congr 1
  · refine List.map_congr_left (fun w hw => ?_)
    have := List.mem_range.mp hw
    exact cl1_old (by omega)
  · rw [cl1_new hd]
    have : cl1 n φ d m = 0 := mk_zero.mpr (fun i _ => by
      by_cases q : i < d
      · have := hm i q
        have : ¬ φ i = m := by omega
        simp [this]
      · simp [q])
    rw [this, Nat.zero_or]
def Vv (fs sc : Nat → Nat) (n k : Nat) (φ : Nat → Nat) (d : Nat) : Int64 := ff k (mo 99 φ d) * Gr fs sc n (cls n φ d (mo 99 φ d)) (k - mo 99 φ d) (upm n d)
def cv (fs sc : Nat → Nat) (n k : Nat) (φ : Nat → Nat) (d v : Nat) : Int64 := if v < k ∧ frB fs sc 99 φ d v = true then Vv fs sc n k (fun j => if j = d then v else φ j) (d + 1) else 0
theorem fr_noN {φ : Nat → Nat} {d v : Nat} (hn : n ≤ 12) (hd : d < n) : noN fs sc n (cl1 n φ d v) d = frB fs sc 99 φ d v := by
  unfold noN frB cl1
  congr 1
  cases h : ex (fun j => !decide (j = 99) && (decide (φ j = v) && adj fs sc d j)) d
  · rw [ex_false] at h ⊢
    intro i hi
    rw [mk_bit]
    by_cases q : i < d
    · have := h i q
      have h99 : ¬ i = 99 := by omega
      simp only [h99, decide_false, Bool.not_false, Bool.true_and] at this
      simp only [hi, q, decide_true, Bool.true_and]
      rw [adj_symm]; exact this
    · simp [q]
  · rw [ex_true] at h ⊢
    obtain ⟨i, h1, h2⟩ := h
    simp only [Bool.and_eq_true, decide_eq_true_eq] at h2
    refine ⟨i, by omega, ?_⟩
    rw [mk_bit, adj_symm]
    have : i < n := by omega
    simp [this, h1, h2.2.1, h2.2.2]
theorem upm_step {d : Nat} (hd : d < n) : upm n d ^^^ 2 ^ d = upm n (d + 1) := by
  refine Nat.eq_of_testBit_eq (fun i => ?_)
  rw [xor_bit, mk_bit, mk_bit]
  by_cases e : i = d
  · subst e; simp [hd]
  · have : (d + 1 ≤ i) = (d ≤ i) := propext (by omega)
    simp [e, this]
theorem upm_n : upm n n = 0 := mk_zero.mpr (fun i hi => by simp; omega)
theorem value_step {φ : Nat → Nat} {d : Nat} (hn : n ≤ 12) (hd : d < n) (hP : PreM fs sc 99 k φ d) : sj (cv fs sc n k φ d) (mo 99 φ d + 1) = Vv fs sc n k φ d := by
  obtain ⟨m, em⟩ : ∃ m, m = mo 99 φ d := ⟨_, rfl⟩
  have hmk : m ≤ k := by rw [em]; exact mo_k (fun j hj hs => (hP.1 j hj hs).1)
  have hlt : ∀ i, i < d → φ i < m := fun i hi => by rw [em]; exact mo_gt hi (by omega) (hP.1 i hi (by omega)).2
  have hmo : ∀ v, mo 99 (fun j => if j = d then v else φ j) (d + 1) = if v = m then m + 1 else m := fun v => by
    rw [mo, if_neg (by omega)]
    have : mo 99 (fun j => if j = d then v else φ j) d = m := by
      rw [em]
      exact mo_cong (fun z hz _ => by
        have : ¬ z = d := by omega
        simp [this])
    rw [this]
    simp only [↓reduceIte]
  have hup : upm n d < 2 ^ n := mk_lt _ _
  unfold Vv
  rw [← em, gr_step fs sc n hn d hd (cls n φ d m) (k - m) (upm n d) hup (upm_bit.mpr ⟨hd, Nat.le_refl _⟩) (fun i hi => by rw [mk_bit]; simp; omega), upm_step hd, ext_sj, cls_len, sj]
  have e1 : sj (cv fs sc n k φ d) m = ff k m * sj (fun v => if noN fs sc n ((cls n φ d m).getD v 0) d then Gr fs sc n ((cls n φ d m).set v ((cls n φ d m).getD v 0 ||| 2 ^ d)) (k - m) (upm n (d + 1)) else 0) m := by
    have : ∀ q, q ≤ m → sj (cv fs sc n k φ d) q = ff k m * sj (fun v => if noN fs sc n ((cls n φ d m).getD v 0) d then Gr fs sc n ((cls n φ d m).set v ((cls n φ d m).getD v 0 ||| 2 ^ d)) (k - m) (upm n (d + 1)) else 0) q := by
      intro q
      induction q with
      | zero => intro _; simp [sj]
      | succ q ih =>
        intro hq
        rw [sj, sj, ih (by omega)]
        have : cv fs sc n k φ d q = ff k m * (if noN fs sc n ((cls n φ d m).getD q 0) d then Gr fs sc n ((cls n φ d m).set q ((cls n φ d m).getD q 0 ||| 2 ^ d)) (k - m) (upm n (d + 1)) else 0) := by
          rw [cls_get (show q < m by omega), cls_set hd (show q < m by omega), fr_noN hn hd]
          unfold cv Vv
          rw [hmo q, if_neg (show ¬ q = m by omega)]
          cases frB fs sc 99 φ d q
          · simp
          · rw [if_pos ⟨by omega, rfl⟩, if_pos rfl]
        rw [this]
        grind
    exact this m (Nat.le_refl _)
  have e2 : cv fs sc n k φ d m = ff k m * (lN (k - m) * Gr fs sc n (cls n φ d m ++ [2 ^ d]) (k - m - 1) (upm n (d + 1))) := by
    unfold cv
    have hfr : frB fs sc 99 φ d m = true := by
      cases hf : frB fs sc 99 φ d m
      · obtain ⟨j, j1, -, j3, -⟩ := fr_false.mp hf
        have := hlt j j1
        omega
      · rfl
    by_cases hk : m < k
    · rw [if_pos ⟨hk, hfr⟩]
      unfold Vv
      rw [hmo m, if_pos rfl, ff, cls_app hd hlt, show k - (m + 1) = k - m - 1 by omega]
      grind
    · rw [if_neg (fun z => hk z.1), show k - m = 0 by omega, show lN 0 = (0 : Int64) from rfl]
      grind
  rw [e1, e2]
  grind
theorem count_eq (N K d : Int32) (tot : Int64) (tr th hv ms : Nat → Int32) : X8_count_L32 N th K (tr, hv, ms, tot, d) = if d < 0 then some (.inr (tot, tr, th, hv, ms)) else if d = N then loopO (X8_count_L52 N tr th hv ms K tot d) ((1 : Int64), 0) else (FX8_goesOn tr th hv ms d K).bind (fun o3 => if o3.1 = 0 then bnd (d + -1) (fun x4 => some (.inl (o3.2.1, o3.2.2.1, o3.2.2.2, tot, x4))) else bnd (d + 1) (fun x5 => some (.inl (o3.2.1, o3.2.2.1, o3.2.2.2, tot, x5)))) := rfl
theorem prod_eq (N K tt d i : Int32) (tot q : Int64) (tr th hv ms : Nat → Int32) : X8_count_L52 N tr th hv ms K tot d (q, i) = rd ms 25 d (fun x6 => if x6 ≤ i then bnd (tot + q) (fun x7 => bnd (d + -1) (fun x8 => some (.inr (.inl (tr, hv, ms, x7, x8))))) else bnd (q * ((K - i)).toInt64) (fun x9 => bnd (i + 1) (fun x10 => some (.inl (x9, x10))))) := rfl
theorem m_prod {tr th hv ms : Nat → Int32} {tot : Int64} {m : Nat} (hn : n ≤ 12) (hk : k ≤ 9) (hm : m ≤ k) (hms : ms n = nI m) : loopO (X8_count_L52 (nI n) tr th hv ms (nI k) tot (nI n)) ((1 : Int64), 0) = some (.inl (tr, hv, ms, tot + ff k m, nI n + -1)) := by
  refine for_fun (fun i => (ff k i, nI i)) 0 m (Nat.zero_le _) (fun i _ hi => ?_) ?_
  · have hs : nI k - nI i = nI (k - i) := by
      have : nI (k - i) + nI i = nI k := by rw [nI_add, show k - i + i = k by omega]
      rw [← this]
      grind
    rw [prod_eq (nI n) (nI k) 0, rd_nI (by omega) (by decide), hms, if_neg (by rw [nI_leI (by omega) (by omega)]; omega), bnd_at, bnd_at, hs, wide_dec (k - i) (by omega), nI_1, ff]
  · rw [prod_eq (nI n) (nI k) 0, rd_nI (by omega) (by decide), hms, if_pos (Int32.le_refl _), bnd_at, bnd_at]
def Bk (n : Nat) (φ : Nat → Nat) (d : Nat) (tr hv ms : Nat → Int32) (z : Int32) : Prop := (d = 0 ∧ z = -1) ∨ ∃ d', d = d' + 1 ∧ z = nI d' ∧ Inv n 99 φ d' (φ d' + 1) tr hv ms
theorem bk_of {φ : Nat → Nat} {d : Nat} {tr hv ms : Nat → Int32} (hd : d ≤ 12) (hI : Inv n 99 φ d 0 tr hv ms) : Bk n φ d tr hv ms (nI d + -1) := by
  cases d with
  | zero => exact Or.inl ⟨rfl, by decide⟩
  | succ d' => exact Or.inr ⟨d', rfl, nI_dn d', inv_back (by omega) (by omega) (fun i h1 h2 => by omega) hI⟩
theorem cnt {th : Nat → Int32} (hn : n ≤ 12) (hk : k ≤ 9) (hth : ∀ j, j < n → th j = nI (nb fs sc n j)) :
    ∀ (e d : Nat), n - d = e → d ≤ n → ∀ (φ : Nat → Nat), PreM fs sc 99 k φ d → ∀ (y x : Nat) (tr hv ms : Nat → Int32) (tot : Int64), k - x = y → (d = n → x = 0) → (d < n → x ≤ k ∧ x ≤ mo 99 φ d + 1) → Inv n 99 φ d x tr hv ms →
      ∃ (tr' hv' ms' : Nat → Int32) (z : Int32), Bk n φ d tr' hv' ms' z ∧ loopO (X8_count_L32 (nI n) th (nI k)) (tr, hv, ms, tot, nI d) = loopO (X8_count_L32 (nI n) th (nI k)) (tr', hv', ms', tot + (Vv fs sc n k φ d - sj (cv fs sc n k φ d) x), z) := by
  intro e
  induction e with
  | zero =>
    intro d he hd φ hP y x tr hv ms tot hy hx0 hxk hI
    obtain rfl : d = n := by omega
    have hx := hx0 rfl
    subst hx
    refine ⟨tr, hv, ms, nI d + -1, bk_of hn hI, ?_⟩
    have hge : ¬ nI d < (0 : Int32) := by rw [ltR0 (by omega)]; omega
    have hmk : mo 99 φ d ≤ k := mo_k (fun j hj hs => (hP.1 j hj hs).1)
    have hst : X8_count_L32 (nI d) th (nI k) (tr, hv, ms, tot, nI d) = some (.inl (tr, hv, ms, tot + ff k (mo 99 φ d), nI d + -1)) := by
      rw [count_eq, if_neg hge, if_pos rfl, m_prod hn hk hmk (hI.2.2 d (Nat.le_refl _))]
    rw [lp_go hst]
    have : Vv fs sc d k φ d - sj (cv fs sc d k φ d) 0 = ff k (mo 99 φ d) := by
      unfold Vv
      rw [upm_n, grz, sj]
      grind
    rw [this]
  | succ e ih =>
    intro d he hd φ hP y
    have hdn : d < n := by omega
    have hne : ¬ nI d = nI n := by rw [nI_eq (by omega) (by omega)]; omega
    have hge : ¬ nI d < (0 : Int32) := by rw [ltR0 (by omega)]; omega
    induction y using Nat.strongRecOn with
    | _ y ihy =>
      intro x tr hv ms tot hy hx0 hxk hI
      obtain ⟨hx1, hx2⟩ := hxk hdn
      obtain ⟨o, g1, g2⟩ := goes_ok (fs := fs) (sc := sc) hn hdn (by omega) (show k ≤ 16 by omega) hx1 hx2 (hth d hdn) hI
      have flat : ∀ q, x ≤ q → (∀ m, x ≤ m → m < q → cv fs sc n k φ d m = 0) → sj (cv fs sc n k φ d) q = sj (cv fs sc n k φ d) x := by
        intro q
        induction q with
        | zero => intro h _; rw [show x = 0 by omega]
        | succ q ihq =>
          intro h1 h2
          by_cases e : x = q + 1
          · rw [e]
          · rw [sj, ihq (by omega) (fun m h3 h4 => h2 m h3 (by omega)), h2 q (by omega) (by omega)]
            grind
      have noFr : ∀ m, frB fs sc 99 φ d m = false → cv fs sc n k φ d m = 0 := fun m h => by
        unfold cv
        rw [if_neg (fun z => by rw [h] at z; exact Bool.noConfusion z.2)]
      rcases g2 with ⟨o0, o1, o2⟩ | ⟨v, o0, o1, o2, o3, o4, o5, o6⟩
      · refine ⟨o.2.1, o.2.2.1, o.2.2.2, nI d + -1, bk_of (by omega) o2, ?_⟩
        have hst : X8_count_L32 (nI n) th (nI k) (tr, hv, ms, tot, nI d) = some (.inl (o.2.1, o.2.2.1, o.2.2.2, tot, nI d + -1)) := by
          rw [count_eq, if_neg hge, if_neg hne, g1, Option.bind_some, if_pos o0, bnd_at]
        rw [lp_go hst]
        have : Vv fs sc n k φ d - sj (cv fs sc n k φ d) x = 0 := by
          rw [← value_step hn hdn hP, flat (mo 99 φ d + 1) hx2 (fun m h1 h2 => by
            by_cases hm : m < k
            · exact noFr m (o1 m h1 hm (by omega))
            · unfold cv
              rw [if_neg (fun z => hm z.1)])]
          grind
        rw [this]
        congr 3
        grind
      · have hst : X8_count_L32 (nI n) th (nI k) (tr, hv, ms, tot, nI d) = some (.inl (o.2.1, o.2.2.1, o.2.2.2, tot, nI (d + 1))) := by
          rw [count_eq, if_neg hge, if_neg hne, g1, Option.bind_some, if_neg (by rw [o0]; decide), bnd_at, nI_1]
        rw [lp_go hst]
        obtain ⟨tr1, hv1, ms1, z1, b1, b2⟩ := ih (d + 1) (by omega) (by omega) _ (pre_next (by omega) hP o2 o3 o4) (k - 0) 0 _ _ _ tot rfl (fun _ => rfl) (fun _ => ⟨by omega, by omega⟩) o6
        rw [b2]
        rcases b1 with ⟨h, -⟩ | ⟨d', h1, rfl, h3⟩
        · omega
        · obtain rfl : d' = d := by omega
          have hI2 : Inv n 99 φ d' (v + 1) tr1 hv1 ms1 := by
            have := inv_cong (n := n) (ψ := φ) (fun i hi _ => by
              have : ¬ i = d' := by omega
              simp [this]) h3
            simpa using this
          obtain ⟨tr2, hv2, ms2, z2, c1, c2⟩ := ihy (k - (v + 1)) (by omega) (v + 1) tr1 hv1 ms1 (tot + (Vv fs sc n k (fun j => if j = d' then v else φ j) (d' + 1) - sj (cv fs sc n k (fun j => if j = d' then v else φ j) (d' + 1)) 0)) rfl (fun h => by omega) (fun _ => ⟨by omega, by omega⟩) hI2
          refine ⟨tr2, hv2, ms2, z2, c1, ?_⟩
          rw [c2]
          have e1 : sj (cv fs sc n k φ d') (v + 1) = sj (cv fs sc n k φ d') x + Vv fs sc n k (fun j => if j = d' then v else φ j) (d' + 1) := by
            rw [sj, flat v o1 (fun m h1 h2 => noFr m (o5 m h1 h2))]
            congr 1
            unfold cv
            rw [if_pos ⟨o2, o4⟩]
          have e2 : tot + (Vv fs sc n k (fun j => if j = d' then v else φ j) (d' + 1) - sj (cv fs sc n k (fun j => if j = d' then v else φ j) (d' + 1)) 0) + (Vv fs sc n k φ d' - sj (cv fs sc n k φ d') (v + 1)) = tot + (Vv fs sc n k φ d' - sj (cv fs sc n k φ d') x) := by
            rw [e1, sj]
            grind
          rw [e2]
end COUNT3
theorem nop_count {pc rc : Int32} {F S c al At Bs : Nat → Int32} {mp mr : Int32} {mF mS mc ml : Nat → Int32} (h : NetR pc rc F S c al At Bs mp mr mF mS mc ml) (w : Nat → Int64) (tr th hv ms : Nat → Int32) (a1 : Int32) : ∃ ox om, FX7_count w pc rc F S c al At Bs a1 = some ox ∧ FX8_count mr mF mS tr th hv ms a1 = some om ∧ ox.1 = om.1 := by
  obtain ⟨⟨rfl, rfl, rfl, rfl, rfl, rfl⟩, p, n, fs, sc, rfl, rfl, hE, hA, hB, hN, hL⟩ := id h
  have hn := hE.1
  unfold FX7_count FX8_count FX8_in
  by_cases h0 : a1 < 0
  · simp only [h0, ↓reduceIte, Option.bind_some]; exact ⟨_, _, rfl, rfl, rfl⟩
  · by_cases h9 : (9 : Int32) < a1
    · have h9' : ¬ a1 ≤ 9 := by rw [fa_le]; rw [fa_lt] at h9; omega
      simp only [h0, h9, h9', ↓reduceIte, Option.bind_some]; exact ⟨_, _, rfl, rfl, rfl⟩
    · have h9' : a1 ≤ 9 := by rw [fa_le]; rw [fa_lt] at h9; omega
      simp only [h0, h9, h9', ↓reduceIte, Option.bind_some, o10]
      by_cases h12 : n ≤ 12
      · rw [if_pos ((leR12 (by omega)).mpr h12), if_pos ((leR12 (by omega)).mpr h12)]
        obtain ⟨k, hk31, rfl⟩ := nI_of h0
        have hk : k ≤ 9 := (leR9 hk31).mp h9'
        obtain ⟨w', x1⟩ := x6_count h12 hB hk w
        obtain ⟨o, k1, k2⟩ := m_look hE tr th hv ms
        rw [x1, Option.bind_some, k1, Option.bind_some]
        obtain ⟨tr', hv', ms', z, b1, b2⟩ := cnt (th := o.2.1) h12 hk k2.2.1 n 0 (by omega) (Nat.zero_le _) (fun _ => 0) ⟨fun j hj => by omega, fun i j hi => by omega⟩ k 0 o.1 o.2.2.1 o.2.2.2 0 (by omega) (fun _ => rfl) (fun _ => ⟨by omega, by omega⟩) (inv_0 k2)
        have hz : z = -1 := by
          rcases b1 with ⟨-, q⟩ | ⟨d', q, -⟩
          · exact q
          · omega
        subst hz
        refine ⟨_, (0 + (Vv fs sc n k (fun _ => 0) 0 - sj (cv fs sc n k (fun _ => 0) 0) 0), tr', o.2.1, hv', ms'), rfl, ?_, ?_⟩
        · refine b2.trans (lp_end ?_)
          rw [count_eq, if_pos (by decide)]
        · show Pj fs sc n k (2 ^ n - 1) = 0 + (Vv fs sc n k (fun _ => 0) 0 - sj (cv fs sc n k (fun _ => 0) 0) 0)
          unfold Vv
          rw [sj, mo, upm_0, show cls n (fun _ => 0) 0 0 = [] from rfl, Gr, ff, Nat.sub_zero]
          grind
      · rw [if_neg (fun z => h12 ((leR12 (by omega)).mp z)), if_neg (fun z => h12 ((leR12 (by omega)).mp z))]
        exact ⟨_, _, rfl, rfl, rfl⟩
