set_option maxHeartbeats 4000000 in
set_option maxRecDepth 100000 in
theorem law_loop {p : Program} {e : Env} {s : State} {m : MethodId} {below : List Frame} {meth : Method} {c : Code} (l : Launch) {b L : Nat} {xs : Nat → Int32} (C0 : lw_At p s m meth c b L xs) (D : va_G) (cI cJ cZ : ClassId) (hK : KK D cI cJ cZ s) (ax am : Nat → Nat) (hL : L ≤ 2048) : ∀ (n i : Nat), L + 4 - i < n → i ≤ L + 4 → ∀ (x3 : Int32), x3 = nI i → ∀ (N : NS) (Q : QS) (M : MS) (C : CS) (H : Heap) (locs : List Loc) (ls : Array Slot) (cells slots : Nat), Rel N Q M → WI D (fun q : Nat => s.heap.size ≤ q) s.heap (WL cI cJ cZ ax am N Q M C) H locs → lv_has ls 4 [(0, .ref b), (1, .ref (ax 0)), (2, .ref (am 0)), (3, .int x3)] → cells ≤ 30 + i → slots ≤ 6000 + 1050 * i → W p l e room_1 s m #[Value.ref b] below meth c H locs cells slots (lw_Z below #[Value.ref b] s) (F0 m 18 ls []) := by
  obtain ⟨hx, hb, hr, hml, hown, hts, hX, hbl, hlocks, hgv⟩ := id C0
  have hbA : ¬ (fun q : Nat => s.heap.size ≤ q) b := Nat.not_le.mpr hbl
  intro n
  induction n with
  | zero => intro i h; omega
  | succ n ih =>
    intro i hm hi x3 ex3 N Q M C H locs ls cells slots hR hI hl hcl hsl
    have hLT : (Int32.ofNat L - 4).toInt = (L : Int) - 4 := by
      have := pk_sub_toInt (a := L) (b := 4) (by omega) (by omega)
      exact this
    have hxT : x3.toInt = (i : Int) := by rw [ex3]; exact nI_toInt (by omega)
    refine lv_iload_n hx hb dL_law_18 rfl (lv_at hl 3 rfl) ?_
    refine lv_aload_n hx hb dL_law_19 rfl (lv_at hl 0 rfl) ?_
    refine va_slen hx hb hX hbl hbA hI.2.2 dL_law_20 ?_
    refine lv_iconst (v := 4) hx hb dL_law_21 (by decide) ?_
    refine lv_isub hx hb dL_law_22 ?_
    refine lv_icmp_gt (tgt := 882) hx hb dL_law_23 (by decide) (fun hc => ?_) (fun hc => ?_)
    · refine lv_iconst (v := 1) hx hb dL_law_882 (by decide) ?_
      refine va_forget hI.2.2.2.2 ?_
      refine W.widen (k := 600000) (n := 7302250) (by omega) (by omega) ?_
      exact lw_ret hx hb hr hlocks dL_law_883
    · have hlt : i + 4 ≤ L := by
        have h1 : ¬ (Int32.ofNat L - 4).toInt < x3.toInt := fun q => hc (Int32.lt_iff_toInt_lt.mpr q)
        rw [hLT, hxT] at h1; omega
      have hin : ∀ k : Nat, k < 4 → vp_in (x3 + nI k) L := fun k hk => by rw [ex3, nI_add]; exact vp_in_nI (by omega) (by omega)
      have hi0 : vp_in x3 L := by rw [ex3]; exact vp_in_nI (by omega) (by omega)
      have hi1 : vp_in (x3 + 1) L := hin 1 (by omega)
      have hi2 : vp_in (x3 + 2) L := hin 2 (by omega)
      have hi3 : vp_in (x3 + 3) L := hin 3 (by omega)
      have hN : NextP p l e s m below meth c b D cI cJ cZ ax am x3 cells slots := by
        intro N Q M C H locs ls cells' slots' hR hI hl h1 h2
        obtain ⟨x4, ex4⟩ : ∃ y : Int32, y = x3 + 4 := ⟨_, rfl⟩
        refine lv_iinc (v := x4) (lv' := [(3, .int x4), (0, .ref b), (1, .ref (ax 0)), (2, .ref (am 0))]) hx hb dL_law_876 hl (k := 3) rfl (by rw [ex4]; rfl) (by decide) rfl (fun ls hl => ?_)
        refine lv_goto (tgt := 18) hx hb dL_law_879 (by decide) ?_
        exact ih (i + 4) (by omega) (by omega) x4 (by rw [ex4, ex3]; exact nI_add i 4) N Q M C H locs ls cells' slots' hR hI (lv_sub hl [1, 2, 3, 0] rfl) (by omega) (by omega)
      refine lv_aload_n hx hb dL_law_26 rfl (lv_at hl 0 rfl) ?_
      refine lv_iload_n hx hb dL_law_27 rfl (lv_at hl 3 rfl) ?_
      refine va_sld hx hb hX hbl hbA hI.2.2 hi0 dL_law_28 ?_
      refine lv_bipush (v := 31) hx hb dL_law_29 (by decide) ?_
      refine lv_iand hx hb dL_law_31 ?_
      obtain ⟨j, hj, ej⟩ := pk_andE (xs x3.toNatClampNeg) (m := 31) 5 (by decide)
      rw [ej]
      match j, hj with
      | 0, _ => exact lv_tableIn (tgt := 172) hx hb dL_law_32 (by decide) (by decide) rfl (by decide) (lo_post l C0 D cI cJ cZ hK ax am hi1 hi2 hi3 (by omega) (by omega) hN C hR hI hl)
      | 1, _ => exact lv_tableIn (tgt := 185) hx hb dL_law_32 (by decide) (by decide) rfl (by decide) (lo_road l C0 D cI cJ cZ hK ax am hi1 hi2 hi3 (by omega) (by omega) hN C hR hI hl)
      | 2, _ => exact lv_tableIn (tgt := 218) hx hb dL_law_32 (by decide) (by decide) rfl (by decide) (lo_drop l C0 D cI cJ cZ hK ax am hi1 hi2 hi3 (by omega) (by omega) hN C hR hI hl)
      | 3, _ => exact lv_tableIn (tgt := 231) hx hb dL_law_32 (by decide) (by decide) rfl (by decide) (lo_paint l C0 D cI cJ cZ hK ax am hi1 hi2 hi3 (by omega) (by omega) hN C hR hI hl)
      | 4, _ => exact lv_tableIn (tgt := 264) hx hb dL_law_32 (by decide) (by decide) rfl (by decide) (lo_wash l C0 D cI cJ cZ hK ax am hi1 hi2 hi3 (by omega) (by omega) hN C hR hI hl)
      | 5, _ => exact lv_tableIn (tgt := 277) hx hb dL_law_32 (by decide) (by decide) rfl (by decide) (lo_of l C0 D cI cJ cZ hK ax am hi1 hi2 hi3 (by omega) (by omega) hN C hR hI hl)
      | 6, _ => exact lv_tableIn (tgt := 310) hx hb dL_law_32 (by decide) (by decide) rfl (by decide) (lo_roads l C0 D cI cJ cZ hK ax am hi1 hi2 hi3 (by omega) (by omega) hN C hR hI hl)
      | 7, _ => exact lv_tableIn (tgt := 333) hx hb dL_law_32 (by decide) (by decide) rfl (by decide) (lo_free l C0 D cI cJ cZ hK ax am hi1 hi2 hi3 (by omega) (by omega) hN C hR hI hl)
      | 8, _ => exact lv_tableIn (tgt := 356) hx hb dL_law_32 (by decide) (by decide) rfl (by decide) (lo_clash l C0 D cI cJ cZ hK ax am hi1 hi2 hi3 (by omega) (by omega) hN C hR hI hl)
      | 9, _ => exact lv_tableIn (tgt := 369) hx hb dL_law_32 (by decide) (by decide) rfl (by decide) (lo_chain l C0 D cI cJ cZ hK ax am hi1 hi2 hi3 (by omega) (by omega) hN C hR hI hl)
      | 10, _ => exact lv_tableIn (tgt := 412) hx hb dL_law_32 (by decide) (by decide) rfl (by decide) (lo_swap l C0 D cI cJ cZ hK ax am hi1 hi2 hi3 (by omega) (by omega) hN C hR hI hl)
      | 11, _ => exact lv_tableIn (tgt := 455) hx hb dL_law_32 (by decide) (by decide) rfl (by decide) (lo_mend l C0 D cI cJ cZ hK ax am hi1 hi2 hi3 (by omega) (by omega) hN C hR hI hl)
      | 12, _ => exact lv_tableIn (tgt := 478) hx hb dL_law_32 (by decide) (by decide) rfl (by decide) (lo_heaps l C0 D cI cJ cZ hK ax am hi1 hi2 hi3 (by omega) (by omega) hN C hR hI hl)
      | 13, _ => exact lv_tableIn (tgt := 491) hx hb dL_law_32 (by decide) (by decide) rfl (by decide) (lo_two l C0 D cI cJ cZ hK ax am hi1 hi2 hi3 (by omega) (by omega) hN C hR hI hl)
      | 14, _ => exact lv_tableIn (tgt := 504) hx hb dL_law_32 (by decide) (by decide) rfl (by decide) (lo_even l C0 D cI cJ cZ hK ax am hi1 hi2 hi3 (by omega) (by omega) hN C hR hI hl)
      | 15, _ => exact lv_tableIn (tgt := 527) hx hb dL_law_32 (by decide) (by decide) rfl (by decide) (lo_full l C0 D cI cJ cZ hK ax am hi1 hi2 hi3 (by omega) (by omega) hN C hR hI hl)
      | 16, _ => exact lv_tableIn (tgt := 550) hx hb dL_law_32 (by decide) (by decide) rfl (by decide) (lo_least l C0 D cI cJ cZ hK ax am hi1 hi2 hi3 (by omega) (by omega) hN C hR hI hl)
      | 17, _ => exact lv_tableIn (tgt := 563) hx hb dL_law_32 (by decide) (by decide) rfl (by decide) (lo_first l C0 D cI cJ cZ hK ax am hi1 hi2 hi3 (by omega) (by omega) hN C hR hI hl)
      | 18, _ => exact lv_tableIn (tgt := 586) hx hb dL_law_32 (by decide) (by decide) rfl (by decide) (lo_count l C0 D cI cJ cZ hK ax am hi1 hi2 hi3 (by omega) (by omega) hN C hR hI hl)
      | 19, _ => exact lv_tableIn (tgt := 610) hx hb dL_law_32 (by decide) (by decide) rfl (by decide) (lo_critical l C0 D cI cJ cZ hK ax am hi1 hi2 hi3 (by omega) (by omega) hN C hR hI hl)
      | 20, _ => exact lv_tableIn (tgt := 623) hx hb dL_law_32 (by decide) (by decide) rfl (by decide) (lo_need l C0 D cI cJ cZ hK ax am hi1 hi2 hi3 (by omega) (by omega) hN C hR hI hl)
      | 21, _ => exact lv_tableIn (tgt := 646) hx hb dL_law_32 (by decide) (by decide) rfl (by decide) (lo_heap l C0 D cI cJ cZ hK ax am hi1 hi2 hi3 (by omega) (by omega) hN C hR hI hl)
      | 22, _ => exact lv_tableIn (tgt := 659) hx hb dL_law_32 (by decide) (by decide) rfl (by decide) (lo_list l C0 D cI cJ cZ hK ax am hi1 hi2 hi3 (by omega) (by omega) hN C hR hI hl)
      | 23, _ => exact lv_tableIn (tgt := 692) hx hb dL_law_32 (by decide) (by decide) rfl (by decide) (lo_choose l C0 D cI cJ cZ hK ax am hi1 hi2 hi3 (by omega) (by omega) hN C hR hI hl)
      | 24, _ => exact lv_tableIn (tgt := 705) hx hb dL_law_32 (by decide) (by decide) rfl (by decide) (lo_square l C0 D cI cJ cZ hK ax am hi1 hi2 hi3 (by omega) (by omega) hN C hR hI hl)
      | 25, _ => exact lv_tableIn (tgt := 728) hx hb dL_law_32 (by decide) (by decide) rfl (by decide) (lo_hold l C0 D cI cJ cZ hK ax am hi1 hi2 hi3 (by omega) (by omega) hN C hR hI hl)
      | 26, _ => exact lv_tableIn (tgt := 751) hx hb dL_law_32 (by decide) (by decide) rfl (by decide) (lo_on l C0 D cI cJ cZ hK ax am hi1 hi2 hi3 (by omega) (by omega) hN C hR hI hl)
      | 27, _ => exact lv_tableIn (tgt := 764) hx hb dL_law_32 (by decide) (by decide) rfl (by decide) (lo_rows l C0 D cI cJ cZ hK ax am hi1 hi2 hi3 (by omega) (by omega) hN C hR hI hl)
      | 28, _ => exact lv_tableIn (tgt := 777) hx hb dL_law_32 (by decide) (by decide) rfl (by decide) (lo_at l C0 D cI cJ cZ hK ax am hi1 hi2 hi3 (by omega) (by omega) hN C hR hI hl)
      | 29, _ => exact lv_tableIn (tgt := 810) hx hb dL_law_32 (by decide) (by decide) rfl (by decide) (lo_meets l C0 D cI cJ cZ hK ax am hi1 hi2 hi3 (by omega) (by omega) hN C hR hI hl)
      | 30, _ => exact lv_tableIn (tgt := 853) hx hb dL_law_32 (by decide) (by decide) rfl (by decide) (lo_many l C0 D cI cJ cZ hK ax am hi1 hi2 hi3 (by omega) (by omega) hN C hR hI hl)
      | 31, _ => exact lv_tableOut (tgt := 876) hx hb dL_law_32 (by decide) (by decide) (hN N Q M C H locs ls cells slots hR hI hl (by omega) (by omega))
      | (j + 32), hj => exact absurd hj (by omega)
theorem ac_spec {args : Array Value} {s : State} {ty : FieldType} (hty : ty = .int ∨ ty = .long ∨ ty = .boolean) (h : (Cond.arrayClass ty).before args s = true) : ∃ cA : ClassId, ArrOfT s cA ty ∧ va_RA s cA ty := by
  obtain ⟨cA, kA, comp, hfind, hk, hkind⟩ := Cond.arrayClass_spec h
  refine ⟨cA, fun n z => ⟨fun k h => (by cases h), kA, hk, comp, hkind⟩, ?_⟩
  rcases hty with rfl | rfl | rfl <;> exact hfind
set_option maxHeartbeats 4000000 in
set_option maxRecDepth 100000 in
theorem law_KK {args : Array Value} {s : State} (hts : ∀ w ∈ lw_tbl, w.before args s = true) : ∃ (D : va_G) (cI cJ cZ : ClassId), KK D cI cJ cZ s := by
  have hg : ∀ w ∈ GW, w.before args s = true := fun w h => hts w (gw_tbl h)
  obtain ⟨c0, i0, h0⟩ := u_known (C := RX0) (T := TX0) (N := 3) (n := 3) hg iX0 (hg _ wN_RX0)
  obtain ⟨c1, i1, h1⟩ := u_known (C := RX1) (T := TX1) (N := 4) (n := 4) hg iX1 (hg _ wN_RX1)
  obtain ⟨c2, i2, h2⟩ := u_known (C := RX2) (T := TX2) (N := 2) (n := 2) hg iX2 (hg _ wN_RX2)
  obtain ⟨c3, i3, h3⟩ := u_known (C := RX3) (T := TX3) (N := 8) (n := 8) hg iX3 (hg _ wN_RX3)
  obtain ⟨c4, i4, h4⟩ := u_known (C := RX4) (T := TX4) (N := 4) (n := 4) hg iX4 (hg _ wN_RX4)
  obtain ⟨c5, i5, h5⟩ := u_known (C := RX5) (T := TX5) (N := 5) (n := 5) hg iX5 (hg _ wN_RX5)
  obtain ⟨c6, i6, h6⟩ := u_known (C := RX6) (T := TX6) (N := 2) (n := 2) hg iX6 (hg _ wN_RX6)
  obtain ⟨c7, i7, h7⟩ := u_known (C := RX7) (T := TX7) (N := 5) (n := 5) hg iX7 (hg _ wN_RX7)
  obtain ⟨c8, i8, h8⟩ := u_known (C := RX8) (T := TX8) (N := 18) (n := 18) hg iX8 (hg _ wN_RX8)
  obtain ⟨cI, a1, b1⟩ := ac_spec (Or.inl rfl) (hg _ wA_int)
  obtain ⟨cJ, a2, b2⟩ := ac_spec (Or.inr (Or.inl rfl)) (hg _ wA_long)
  obtain ⟨cZ, a3, b3⟩ := ac_spec (Or.inr (Or.inr rfl)) (hg _ wA_boolean)
  refine ⟨(fun k => if k = 0 then c0 else if k = 1 then c1 else if k = 2 then c2 else if k = 3 then c3 else if k = 4 then c4 else if k = 5 then c5 else if k = 6 then c6 else if k = 7 then c7 else c8, fun k => if k = 0 then i0 else if k = 1 then i1 else if k = 2 then i2 else if k = 3 then i3 else if k = 4 then i4 else if k = 5 then i5 else if k = 6 then i6 else if k = 7 then i7 else i8), cI, cJ, cZ, ⟨⟨?_, ?_⟩, fun w hw => va_Nw.of (nestW_on w hw) (hts w (nestW_in w hw))⟩⟩
  · intro k q hq
    match k, hq with
    | 0, hq => cases hq; exact h0
    | 1, hq => cases hq; exact h1
    | 2, hq => cases hq; exact h2
    | 3, hq => cases hq; exact h3
    | 4, hq => cases hq; exact h4
    | 5, hq => cases hq; exact h5
    | 6, hq => cases hq; exact h6
    | 7, hq => cases hq; exact h7
    | 8, hq => cases hq; exact h8
    | k + 9, hq => simp [vwCl] at hq
  · intro k q hq
    match k, hq with
    | 0, hq => cases hq; exact ⟨a1, b1⟩
    | 1, hq => cases hq; exact ⟨a2, b2⟩
    | 2, hq => cases hq; exact ⟨a3, b3⟩
    | k + 3, hq => simp at hq
set_option maxHeartbeats 4000000 in
set_option maxRecDepth 100000 in
theorem whole_start {p : Program} {e : Env} {s : State} {m : MethodId} {below : List Frame} {meth : Method} {c : Code} (l : Launch) {b L : Nat} {xs : Nat → Int32} (hL : L ≤ 2048) (C0 : lw_At p s m meth c b L xs) : W p l e room_1 s m #[Value.ref b] below meth c s.heap [] 0 0 (lw_Z below #[Value.ref b] s) (entryFrame m ([Value.ref b] : List Value).toArray 4) := by
  obtain ⟨hx, hb, hr, hml, hown, hts, hX, hbl, hlocks, hgv⟩ := id C0
  obtain ⟨D, cI, cJ, cZ, hK⟩ := law_KK hts
  have hg : ∀ w ∈ GW, w.before #[Value.ref b] s = true := fun w h => hts w (gw_tbl h)
  replace hown : s.vm.findClass RL = some m.cls := hown
  obtain ⟨A, hAe⟩ : ∃ A : Nat → Prop, A = (fun q : Nat => s.heap.size ≤ q) := ⟨_, rfl⟩
  have hA : ∀ q : Nat, s.heap.size ≤ q → A q := fun q h => by rw [hAe]; exact h
  have hI : WI D A s.heap [] s.heap [] := ⟨fun k q h => by simp at h, ⟨fun i j p q h => by simp at h, fun k q h => by simp at h⟩, va_S.rf⟩
  have hl := lv_entry ([.ref b]) (n := 4) (Nat.le_of_ble_eq_true rfl)
  rw [lg_entry_eq]
  generalize (lg_sl ([.ref b]) ++ List.replicate (4 - (lg_sl ([.ref b])).length) Slot.unset).toArray = ls at hl ⊢
  replace hl : lv_has ls 4 [(0, .ref b)] := hl
  refine va_new (ci := 7) (fs := [.null, .null, .null, .null, .null]) (C := RX7) (T := TX7) (N := 5) hx hb hg iX7 tyX7 tyX7_ok hown (hg _ wK_RL_7) (hg _ wN_RX7) (hg _ wI_RX7) hK.1 hI.1 hI.2.1 hI.2.2 hA rfl (by intro j hj; match j, hj with | 0, _ => rfl | 1, _ => rfl | 2, _ => rfl | 3, _ => rfl | 4, _ => rfl | (j + 5), hj => exact absurd hj (by omega)) (Nat.le_of_ble_eq_true rfl) (Nat.le_of_ble_eq_true rfl) dL_law_0 (fun x0 H hP hD hS => ?_)
  replace hI : WI D A s.heap [(x0, .inr (7, [.null, .null, .null, .null, .null]))] H _ := ⟨hP, hD, hS⟩
  clear hP hD hS
  refine lv_dup hx hb dL_law_3 rfl ?_
  refine w_I (wc := [(x0, .inr (7, [.null, .null, .null, .null, .null]))]) (wr := []) (rest := [.ref x0]) hx hb hml hg hown hK hA hI (kIX7_init l D cI cJ cZ x0) kiX7_init wL_RL_9 ⟨Nat.le_of_ble_eq_true rfl, Nat.le_of_ble_eq_true rfl⟩ [0] [] rfl rfl rfl rfl (by decide) rfl rfl hl.1 (Nat.le_of_ble_eq_true rfl) dL_law_4 ⟨Nat.le_of_ble_eq_true rfl, Nat.le_of_ble_eq_true rfl⟩ (fun u H locs hp hI => ?_)
  obtain ⟨x1, x2, x3, x4, x5, x6, x7, x8, x9, x10, x11⟩ := u
  clear hp
  replace hI : WI D A s.heap [(x0, .inr (7, [.ref x1, .ref x8, .null, .null, .null])), (x1, .inr (3, [.int (0), .int (0), .ref x2, .ref x3, .ref x4, .ref x5, .ref x6, .ref x7])), (x2, .inl (cI, 24, .inl (fun _ => 0))), (x3, .inl (cI, 24, .inl (fun _ => 0))), (x4, .inl (cI, 24, .inl (fun _ => 0))), (x5, .inl (cI, 24, .inl (fun _ => 0))), (x6, .inl (cI, 12, .inl (fun _ => 0))), (x7, .inl (cI, 24, .inl (fun _ => 0))), (x8, .inr (5, [.int (-1), .int (0), .ref x9, .ref x10, .ref x11])), (x9, .inl (cI, 81, .inl (fun _ => 0))), (x10, .inl (cI, 9, .inl (fun _ => 0))), (x11, .inl (cI, 512, .inl (fun _ => 0)))] H locs := hI
  refine lv_astore_n (lv' := [(1, .ref x0), (0, .ref b)]) hx hb dL_law_7 rfl hl (by decide) rfl (fun ls hl => ?_)
  refine va_new (ci := 8) (fs := [.int (0 : Int32), .int (0 : Int32), .null, .null, .null, .null, .int (0 : Int32), .int (0 : Int32), .int (0 : Int32), .null, .null, .null, .null, .null, .null, .null, .null, .null]) (C := RX8) (T := TX8) (N := 18) hx hb hg iX8 tyX8 tyX8_ok hown (hg _ wK_RL_10) (hg _ wN_RX8) (hg _ wI_RX8) hK.1 hI.1 hI.2.1 hI.2.2 hA rfl (by intro j hj; match j, hj with | 0, _ => rfl | 1, _ => rfl | 2, _ => rfl | 3, _ => rfl | 4, _ => rfl | 5, _ => rfl | 6, _ => rfl | 7, _ => rfl | 8, _ => rfl | 9, _ => rfl | 10, _ => rfl | 11, _ => rfl | 12, _ => rfl | 13, _ => rfl | 14, _ => rfl | 15, _ => rfl | 16, _ => rfl | 17, _ => rfl | (j + 18), hj => exact absurd hj (by omega)) (Nat.le_of_ble_eq_true rfl) (Nat.le_of_ble_eq_true rfl) dL_law_8 (fun m0 H hP hD hS => ?_)
  replace hI : WI D A s.heap [(x0, .inr (7, [.ref x1, .ref x8, .null, .null, .null])), (x1, .inr (3, [.int (0), .int (0), .ref x2, .ref x3, .ref x4, .ref x5, .ref x6, .ref x7])), (x2, .inl (cI, 24, .inl (fun _ => 0))), (x3, .inl (cI, 24, .inl (fun _ => 0))), (x4, .inl (cI, 24, .inl (fun _ => 0))), (x5, .inl (cI, 24, .inl (fun _ => 0))), (x6, .inl (cI, 12, .inl (fun _ => 0))), (x7, .inl (cI, 24, .inl (fun _ => 0))), (x8, .inr (5, [.int (-1), .int (0), .ref x9, .ref x10, .ref x11])), (x9, .inl (cI, 81, .inl (fun _ => 0))), (x10, .inl (cI, 9, .inl (fun _ => 0))), (x11, .inl (cI, 512, .inl (fun _ => 0))), (m0, .inr (8, [.int (0 : Int32), .int (0 : Int32), .null, .null, .null, .null, .int (0 : Int32), .int (0 : Int32), .int (0 : Int32), .null, .null, .null, .null, .null, .null, .null, .null, .null]))] H _ := ⟨hP, hD, hS⟩
  clear hP hD hS
  refine lv_dup hx hb dL_law_11 rfl ?_
  refine w_I (wc := [(m0, .inr (8, [.int (0 : Int32), .int (0 : Int32), .null, .null, .null, .null, .int (0 : Int32), .int (0 : Int32), .int (0 : Int32), .null, .null, .null, .null, .null, .null, .null, .null, .null]))]) (wr := [(x0, .inr (7, [.ref x1, .ref x8, .null, .null, .null])), (x1, .inr (3, [.int (0), .int (0), .ref x2, .ref x3, .ref x4, .ref x5, .ref x6, .ref x7])), (x2, .inl (cI, 24, .inl (fun _ => 0))), (x3, .inl (cI, 24, .inl (fun _ => 0))), (x4, .inl (cI, 24, .inl (fun _ => 0))), (x5, .inl (cI, 24, .inl (fun _ => 0))), (x6, .inl (cI, 12, .inl (fun _ => 0))), (x7, .inl (cI, 24, .inl (fun _ => 0))), (x8, .inr (5, [.int (-1), .int (0), .ref x9, .ref x10, .ref x11])), (x9, .inl (cI, 81, .inl (fun _ => 0))), (x10, .inl (cI, 9, .inl (fun _ => 0))), (x11, .inl (cI, 512, .inl (fun _ => 0)))]) (rest := [.ref m0]) hx hb hml hg hown hK hA hI (kIX8_init l D cI cJ cZ m0) kiX8_init wL_RL_12 ⟨Nat.le_of_ble_eq_true rfl, Nat.le_of_ble_eq_true rfl⟩ [12] [0, 1, 2, 3, 4, 5, 6, 7, 8, 9, 10, 11] rfl rfl rfl rfl (by decide) rfl rfl hl.1 (Nat.le_of_ble_eq_true rfl) dL_law_12 ⟨Nat.le_of_ble_eq_true rfl, Nat.le_of_ble_eq_true rfl⟩ (fun u H locs hp hI => ?_)
  obtain ⟨m1, m2, m3, m4, m5, m6, m7, m8, m9, m10, m11, m12, m13⟩ := u
  clear hp
  replace hI : WI D A s.heap (WL cI cJ cZ (fun k => [x0, x1, x2, x3, x4, x5, x6, x7, x8, x9, x10, x11].getD k 0) (fun k => [m0, m1, m2, m3, m4, m5, m6, m7, m8, m9, m10, m11, m12, m13].getD k 0) (0, 0, (fun _ => 0), (fun _ => 0), (fun _ => 0), (fun _ => 0), (fun _ => 0), (fun _ => 0)) (-1, 0, (fun _ => 0), (fun _ => 0), (fun _ => 0)) (0, 0, (-1), 0, (-1), (fun _ => 0), (fun _ => 0), (fun _ => 0), (fun _ => 0), (fun _ => 0), (fun _ => 0), (fun _ => 0), (fun _ => 0), (fun _ => 0), (fun _ => 0), (fun _ => 0), (fun _ => 0), (fun _ => 0)) (none, none, none)) H locs := hI
  refine lv_astore_n (lv' := [(2, .ref m0), (1, .ref x0), (0, .ref b)]) hx hb dL_law_15 rfl hl (by decide) rfl (fun ls hl => ?_)
  refine lv_iconst (v := 0) hx hb dL_law_16 (by decide) ?_
  refine lv_istore_n (lv' := [(3, .int 0), (2, .ref m0), (1, .ref x0), (0, .ref b)]) hx hb dL_law_17 rfl hl (by decide) rfl (fun ls hl => ?_)
  rw [hAe] at hI
  exact law_loop l C0 D cI cJ cZ hK (fun k => [x0, x1, x2, x3, x4, x5, x6, x7, x8, x9, x10, x11].getD k 0) (fun k => [m0, m1, m2, m3, m4, m5, m6, m7, m8, m9, m10, m11, m12, m13].getD k 0) hL (L + 5) 0 (by omega) (by omega) 0 nI_0.symm _ _ _ (none, none, none) H locs ls _ _ rel_0 hI (lv_sub hl [3, 2, 1, 0] rfl) (Nat.le_of_ble_eq_true rfl) (Nat.le_of_ble_eq_true rfl)
