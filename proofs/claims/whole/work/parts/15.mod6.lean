noncomputable def X8_critical_L30 (M_roads : Int32) (M_first : Nat → Int32) (M_second : Nat → Int32) (l1 : Int32) (v : (Nat → Int32) × (Nat → Int32) × (Nat → Int32) × (Nat → Int32) × Int32) : Option (((Nat → Int32) × (Nat → Int32) × (Nat → Int32) × (Nat → Int32) × Int32) ⊕ (Int32 × (Nat → Int32) × (Nat → Int32) × (Nat → Int32) × (Nat → Int32))) :=
  if M_roads ≤ v.2.2.2.2 then (some (.inr ((1 : Int32), v.1, v.2.1, v.2.2.1, v.2.2.2.1))) else ((FX8_leastOf M_roads M_first M_second v.1 v.2.1 v.2.2.1 v.2.2.2.1 v.2.2.2.2).bind (fun o3 => if o3.1 ≤ l1 then (bnd (v.2.2.2.2 + (1 : Int32)) (fun x4 => some (.inl (o3.2.1, o3.2.2.1, o3.2.2.2.1, o3.2.2.2.2, x4)))) else (some (.inr ((0 : Int32), o3.2.1, o3.2.2.1, o3.2.2.2.1, o3.2.2.2.2)))))
noncomputable def FX8_critical (M_posts : Int32) (M_roads : Int32) (M_first : Nat → Int32) (M_second : Nat → Int32) (M_trial_0 : Nat → Int32) (M_touching_0 : Nat → Int32) (M_having_0 : Nat → Int32) (M_most_0 : Nat → Int32)  : Option (Int32 × (Nat → Int32) × (Nat → Int32) × (Nat → Int32) × (Nat → Int32)) :=
  if M_roads ≤ (12 : Int32) then ((FX8_fullOf M_posts M_roads M_first M_second).bind (fun o1 => (FX8_leastOf M_roads M_first M_second M_trial_0 M_touching_0 M_having_0 M_most_0 (-1 : Int32)).bind (fun o2 => if o1 < o2.1 then (loopO (X8_critical_L30 M_roads M_first M_second o1) (o2.2.1, o2.2.2.1, o2.2.2.2.1, o2.2.2.2.2, (0 : Int32))) else (some ((0 : Int32), o2.2.1, o2.2.2.1, o2.2.2.2.1, o2.2.2.2.2))))) else (some ((-2 : Int32), M_trial_0, M_touching_0, M_having_0, M_most_0))
abbrev GX8_critical (p : Program) (l : Launch) (e : Env) (s : State) (m : MethodId) (below : List Frame) (meth : Method) (c : Code) (D : va_G) (cI cJ cZ : ClassId) (m0 m1 m2 m3 m4 m5 m6 m7 m8 m9 m10 m11 m12 m13 : Nat) (M_posts : Int32) (M_roads : Int32) (M_size : Int32) (M_rows : Int32) (M_nextRows : Int32) (M_first : Nat → Int32) (M_second : Nat → Int32) (M_number : Nat → Int32) (M_lists : Nat → Int32) (M_square : Nat → Int32) (M_fan : Nat → Int32) (M_trial_0 : Nat → Int32) (M_touching_0 : Nat → Int32) (M_having_0 : Nat → Int32) (M_most_0 : Nat → Int32) (M_only : Nat → Int32) (M_can : Nat → Int32) (M_next : Nat → Int32)  (out : Int32 × (Nat → Int32) × (Nat → Int32) × (Nat → Int32) × (Nat → Int32)) (H : Heap) (locs : List Loc) (g : JFrame) : Prop := W p l e (headSpec (Cond.code yX8_critical cX8_critical 3 (some .int) :: GW) { frames := 5, cells := 0, slots := 0, locals := 111 }).room s m ([.ref m0] : List Value).toArray below meth c H locs 0 0 (MQ below (va_Qi (fun r (_ : Unit) => r = out.1) (BW D (wM cI cJ cZ m0 m1 m2 m3 m4 m5 m6 m7 m8 m9 m10 m11 m12 m13 M_posts M_roads M_size M_rows M_nextRows M_first M_second M_number M_lists M_square M_fan M_trial_0 M_touching_0 M_having_0 M_most_0 M_only M_can M_next) s.heap.size (fun _ => (wM cI cJ cZ m0 m1 m2 m3 m4 m5 m6 m7 m8 m9 m10 m11 m12 m13 M_posts M_roads M_size M_rows M_nextRows M_first M_second M_number M_lists M_square M_fan out.2.1 out.2.2.1 out.2.2.2.1 out.2.2.2.2 M_only M_can M_next))) (va_A (wM cI cJ cZ m0 m1 m2 m3 m4 m5 m6 m7 m8 m9 m10 m11 m12 m13 M_posts M_roads M_size M_rows M_nextRows M_first M_second M_number M_lists M_square M_fan M_trial_0 M_touching_0 M_having_0 M_most_0 M_only M_can M_next) s.heap.size)) ([.ref m0] : List Value).toArray s 0 0 (va_A (wM cI cJ cZ m0 m1 m2 m3 m4 m5 m6 m7 m8 m9 m10 m11 m12 m13 M_posts M_roads M_size M_rows M_nextRows M_first M_second M_number M_lists M_square M_fan M_trial_0 M_touching_0 M_having_0 M_most_0 M_only M_can M_next) s.heap.size)) g
theorem kvX8_critical : CalV RX8 yX8_critical cX8_critical 3 (some .int) 0 := ⟨wC_yX8_critical, wM_yX8_critical, wS_yX8_critical, wI_RX8, by decide +kernel⟩
set_option maxHeartbeats 4000000 in
set_option maxRecDepth 100000 in
theorem kX8_critical (l : Launch) (D : va_G) (cI cJ cZ : ClassId) (m0 m1 m2 m3 m4 m5 m6 m7 m8 m9 m10 m11 m12 m13 : Nat) (M_posts : Int32) (M_roads : Int32) (M_size : Int32) (M_rows : Int32) (M_nextRows : Int32) (M_first : Nat → Int32) (M_second : Nat → Int32) (M_number : Nat → Int32) (M_lists : Nat → Int32) (M_square : Nat → Int32) (M_fan : Nat → Int32) (M_trial_0 : Nat → Int32) (M_touching_0 : Nat → Int32) (M_having_0 : Nat → Int32) (M_most_0 : Nat → Int32) (M_only : Nat → Int32) (M_can : Nat → Int32) (M_next : Nat → Int32)  (out : Int32 × (Nat → Int32) × (Nat → Int32) × (Nat → Int32) × (Nat → Int32)) (hf : FX8_critical M_posts M_roads M_first M_second M_trial_0 M_touching_0 M_having_0 M_most_0 = some out) : MI l yX8_critical (Cond.code yX8_critical cX8_critical 3 (some .int) :: GW) { frames := 5, cells := 0, slots := 0, locals := 111 } D cI cJ cZ [.ref m0] (wM cI cJ cZ m0 m1 m2 m3 m4 m5 m6 m7 m8 m9 m10 m11 m12 m13 M_posts M_roads M_size M_rows M_nextRows M_first M_second M_number M_lists M_square M_fan M_trial_0 M_touching_0 M_having_0 M_most_0 M_only M_can M_next) (fun r (_ : Unit) => r = out.1) (fun _ => (wM cI cJ cZ m0 m1 m2 m3 m4 m5 m6 m7 m8 m9 m10 m11 m12 m13 M_posts M_roads M_size M_rows M_nextRows M_first M_second M_number M_lists M_square M_fan out.2.1 out.2.2.1 out.2.2.2.1 out.2.2.2.2 M_only M_can M_next)) := by
  intro sz
  refine Met.ofW (cc := cX8_critical) (maxL := 3) (ret := (some .int)) (by decide +kernel) rfl ?_
  intro p e s m args below meth c s₁ B hml hv
  obtain ⟨rfl, hsz, hP, hK, hD0⟩ := hv
  have hx := B.exec
  have hb := B.bytes
  have hr := B.returns
  have hlocks := B.notSynchronized
  have hg : ∀ w ∈ GW, w.before _ s = true := fun w h => atoms_spec (ws := Cond.code yX8_critical cX8_critical 3 (some .int) :: GW) B.pre w (List.mem_cons_of_mem _ h)
  have hown : s.vm.findClass RX8 = some m.cls := findClass_of_methodNamed B.named
  subst hsz
  obtain ⟨A, hAe⟩ : ∃ A, A = va_A (wM cI cJ cZ m0 m1 m2 m3 m4 m5 m6 m7 m8 m9 m10 m11 m12 m13 M_posts M_roads M_size M_rows M_nextRows M_first M_second M_number M_lists M_square M_fan M_trial_0 M_touching_0 M_having_0 M_most_0 M_only M_can M_next) s.heap.size := ⟨_, rfl⟩
  have hA : ∀ q : Nat, s.heap.size ≤ q → A q := fun q h => by rw [hAe]; exact Or.inr h
  have hI : WI D A s.heap (wM cI cJ cZ m0 m1 m2 m3 m4 m5 m6 m7 m8 m9 m10 m11 m12 m13 M_posts M_roads M_size M_rows M_nextRows M_first M_second M_number M_lists M_square M_fan M_trial_0 M_touching_0 M_having_0 M_most_0 M_only M_can M_next) s.heap [] := ⟨hP, by rw [hAe]; exact hD0.self, va_S.rf⟩
  have hl := lv_entry [.ref m0] (n := 3) (Nat.le_of_ble_eq_true rfl)
  rw [lg_entry_eq]
  generalize (lg_sl [.ref m0] ++ List.replicate (3 - (lg_sl [.ref m0]).length) Slot.unset).toArray = ls at hl ⊢
  replace hl : lv_has ls 3 [(0, .ref m0)] := hl
  have L30 : ∀ (l1 : Int32), ∀ (v : (Nat → Int32) × (Nat → Int32) × (Nat → Int32) × (Nat → Int32) × Int32) (x : Int32 × (Nat → Int32) × (Nat → Int32) × (Nat → Int32) × (Nat → Int32)), loopO (X8_critical_L30 M_roads M_first M_second l1) v = some x → (fun z : Int32 × (Nat → Int32) × (Nat → Int32) × (Nat → Int32) × (Nat → Int32) => z = out) x → (fun (v : (Nat → Int32) × (Nat → Int32) × (Nat → Int32) × (Nat → Int32) × Int32) => ∀ (H : Heap) (locs : List Loc) (ls : Array Slot), WI D A s.heap (wM cI cJ cZ m0 m1 m2 m3 m4 m5 m6 m7 m8 m9 m10 m11 m12 m13 M_posts M_roads M_size M_rows M_nextRows M_first M_second M_number M_lists M_square M_fan v.1 v.2.1 v.2.2.1 v.2.2.2.1 M_only M_can M_next) H locs → lv_has ls 3 [(0, .ref m0), (1, .int l1), (2, .int v.2.2.2.2)] → GX8_critical p l e s m below meth c D cI cJ cZ m0 m1 m2 m3 m4 m5 m6 m7 m8 m9 m10 m11 m12 m13 M_posts M_roads M_size M_rows M_nextRows M_first M_second M_number M_lists M_square M_fan M_trial_0 M_touching_0 M_having_0 M_most_0 M_only M_can M_next  out H locs (F0 m 30 ls [])) v := by
    intro l1
    refine loopO_ind (fun (v : (Nat → Int32) × (Nat → Int32) × (Nat → Int32) × (Nat → Int32) × Int32) => ∀ (H : Heap) (locs : List Loc) (ls : Array Slot), WI D A s.heap (wM cI cJ cZ m0 m1 m2 m3 m4 m5 m6 m7 m8 m9 m10 m11 m12 m13 M_posts M_roads M_size M_rows M_nextRows M_first M_second M_number M_lists M_square M_fan v.1 v.2.1 v.2.2.1 v.2.2.2.1 M_only M_can M_next) H locs → lv_has ls 3 [(0, .ref m0), (1, .int l1), (2, .int v.2.2.2.2)] → GX8_critical p l e s m below meth c D cI cJ cZ m0 m1 m2 m3 m4 m5 m6 m7 m8 m9 m10 m11 m12 m13 M_posts M_roads M_size M_rows M_nextRows M_first M_second M_number M_lists M_square M_fan M_trial_0 M_touching_0 M_having_0 M_most_0 M_only M_can M_next  out H locs (F0 m 30 ls [])) (fun z : Int32 × (Nat → Int32) × (Nat → Int32) × (Nat → Int32) × (Nat → Int32) => z = out) ?_
    intro v x hf hM H locs ls hI hl
    refine lv_iload_n hx hb dX8_critical_30 rfl (lv_at hl 2 rfl) ?_
    refine lv_aload_n hx hb dX8_critical_31 rfl (lv_at hl 0 rfl) ?_
    refine w_get hx hb hg hown hK hI iX8 0 rfl rfl 1 (by decide) wF_RX8_57 rfl dX8_critical_32 ?_
    refine lv_icmp_ge (tgt := 55) hx hb dX8_critical_35 (by decide) (fun hc => ?_) (fun hc => ?_)
    · replace hf := ite_t hc hf
      refine lv_iconst (v := 1) hx hb dX8_critical_55 (by decide) ?_
      replace hf := Option.some.inj hf
      subst hf
      replace hM : ((1 : Int32), v.1, v.2.1, v.2.2.1, v.2.2.2.1) = out := hM
      subst hM
      exact rt_i (u := ()) hx hb hr hlocks rfl hI hAe rfl dX8_critical_56
    · replace hf := ite_f hc hf
      refine lv_aload_n hx hb dX8_critical_38 rfl (lv_at hl 0 rfl) ?_
      refine lv_iload_n hx hb dX8_critical_39 rfl (lv_at hl 2 rfl) ?_
      obtain ⟨o3, ho3, hf⟩ := bd_e hf
      refine w_Vi0 (wc := (wM cI cJ cZ m0 m1 m2 m3 m4 m5 m6 m7 m8 m9 m10 m11 m12 m13 M_posts M_roads M_size M_rows M_nextRows M_first M_second M_number M_lists M_square M_fan v.1 v.2.1 v.2.2.1 v.2.2.2.1 M_only M_can M_next)) (wr := []) (rest := []) hx hb hml hg hown hK hA hI (kX8_leastOf l D cI cJ cZ m0 m1 m2 m3 m4 m5 m6 m7 m8 m9 m10 m11 m12 m13 M_posts M_roads M_size M_rows M_nextRows M_first M_second M_number M_lists M_square M_fan v.1 v.2.1 v.2.2.1 v.2.2.2.1 M_only M_can M_next v.2.2.2.2 o3 ho3) kvX8_leastOf wL_RX8_151 ⟨Nat.le_of_ble_eq_true rfl, Nat.le_of_ble_eq_true rfl⟩ rfl rfl [0, 1, 2, 3, 4, 5, 6, 7, 8, 9, 10, 11, 12, 13] [] rfl rfl rfl rfl (by decide) rfl rfl hl.1 (Nat.le_of_ble_eq_true rfl) dX8_critical_40 ⟨Nat.zero_le _, Nat.zero_le _⟩ ⟨rfl, rfl⟩ (fun r u H locs hp hI => ?_)
      replace hp : r = o3.1 := hp
      rw [hp]
      clear hp
      replace hI : WI D A s.heap (wM cI cJ cZ m0 m1 m2 m3 m4 m5 m6 m7 m8 m9 m10 m11 m12 m13 M_posts M_roads M_size M_rows M_nextRows M_first M_second M_number M_lists M_square M_fan o3.2.1 o3.2.2.1 o3.2.2.2.1 o3.2.2.2.2 M_only M_can M_next) H locs := hI
      refine lv_iload_n hx hb dX8_critical_43 rfl (lv_at hl 1 rfl) ?_
      refine lv_icmp_le (tgt := 49) hx hb dX8_critical_44 (by decide) (fun hc => ?_) (fun hc => ?_)
      · replace hf := ite_t hc hf
        obtain ⟨x4, ex4⟩ : ∃ y : Int32, y = (v.2.2.2.2 + (1 : Int32)) := ⟨_, rfl⟩
        replace hf := bnd_e hf x4 ex4
        refine lv_iinc (v := x4) (lv' := [(2, .int x4), (0, .ref m0), (1, .int l1)]) hx hb dX8_critical_49 hl (k := 2) rfl (by rw [ex4]; rfl) (by decide) rfl (fun ls hl => ?_)
        refine lv_goto (tgt := 30) hx hb dX8_critical_52 (by decide) ?_
        replace hf := Option.some.inj hf
        subst hf
        exact hM _ _ _ hI (lv_sub hl [1, 2, 0] rfl)
      · replace hf := ite_f hc hf
        refine lv_iconst (v := 0) hx hb dX8_critical_47 (by decide) ?_
        replace hf := Option.some.inj hf
        subst hf
        replace hM : ((0 : Int32), o3.2.1, o3.2.2.1, o3.2.2.2.1, o3.2.2.2.2) = out := hM
        subst hM
        exact rt_i (u := ()) hx hb hr hlocks rfl hI hAe rfl dX8_critical_48
  obtain ⟨x, hf, hM⟩ : ∃ x, FX8_critical M_posts M_roads M_first M_second M_trial_0 M_touching_0 M_having_0 M_most_0 = some x ∧ x = out := ⟨out, hf, rfl⟩
  refine lv_aload_n hx hb dX8_critical_0 rfl (lv_at hl 0 rfl) ?_
  refine w_get hx hb hg hown hK hI iX8 0 rfl rfl 1 (by decide) wF_RX8_57 rfl dX8_critical_1 ?_
  refine lv_bipush (v := 12) hx hb dX8_critical_4 (by decide) ?_
  refine lv_icmp_le (tgt := 12) hx hb dX8_critical_6 (by decide) (fun hc => ?_) (fun hc => ?_)
  · replace hf := ite_t hc hf
    refine lv_aload_n hx hb dX8_critical_12 rfl (lv_at hl 0 rfl) ?_
    obtain ⟨o1, ho1, hf⟩ := bd_e hf
    refine w_Vi0 (wc := (wM cI cJ cZ m0 m1 m2 m3 m4 m5 m6 m7 m8 m9 m10 m11 m12 m13 M_posts M_roads M_size M_rows M_nextRows M_first M_second M_number M_lists M_square M_fan M_trial_0 M_touching_0 M_having_0 M_most_0 M_only M_can M_next)) (wr := []) (rest := []) hx hb hml hg hown hK hA hI (kX8_fullOf l D cI cJ cZ m0 m1 m2 m3 m4 m5 m6 m7 m8 m9 m10 m11 m12 m13 M_posts M_roads M_size M_rows M_nextRows M_first M_second M_number M_lists M_square M_fan M_trial_0 M_touching_0 M_having_0 M_most_0 M_only M_can M_next  o1 ho1) kvX8_fullOf wL_RX8_121 ⟨Nat.le_of_ble_eq_true rfl, Nat.le_of_ble_eq_true rfl⟩ rfl rfl [0, 1, 2, 3, 4, 5, 6, 7, 8, 9, 10, 11, 12, 13] [] rfl rfl rfl rfl (by decide) rfl rfl hl.1 (Nat.le_of_ble_eq_true rfl) dX8_critical_13 ⟨Nat.zero_le _, Nat.zero_le _⟩ ⟨rfl, rfl⟩ (fun r u H locs hp hI => ?_)
    replace hp : r = o1 := hp
    rw [hp]
    clear hp
    replace hI : WI D A s.heap (wM cI cJ cZ m0 m1 m2 m3 m4 m5 m6 m7 m8 m9 m10 m11 m12 m13 M_posts M_roads M_size M_rows M_nextRows M_first M_second M_number M_lists M_square M_fan M_trial_0 M_touching_0 M_having_0 M_most_0 M_only M_can M_next) H locs := hI
    refine lv_istore_n (lv' := [(1, .int o1), (0, .ref m0)]) hx hb dX8_critical_16 rfl hl (by decide) rfl (fun ls hl => ?_)
    refine lv_aload_n hx hb dX8_critical_17 rfl (lv_at hl 1 rfl) ?_
    refine lv_iconst (v := -1) hx hb dX8_critical_18 (by decide) ?_
    obtain ⟨o2, ho2, hf⟩ := bd_e hf
    refine w_Vi0 (wc := (wM cI cJ cZ m0 m1 m2 m3 m4 m5 m6 m7 m8 m9 m10 m11 m12 m13 M_posts M_roads M_size M_rows M_nextRows M_first M_second M_number M_lists M_square M_fan M_trial_0 M_touching_0 M_having_0 M_most_0 M_only M_can M_next)) (wr := []) (rest := []) hx hb hml hg hown hK hA hI (kX8_leastOf l D cI cJ cZ m0 m1 m2 m3 m4 m5 m6 m7 m8 m9 m10 m11 m12 m13 M_posts M_roads M_size M_rows M_nextRows M_first M_second M_number M_lists M_square M_fan M_trial_0 M_touching_0 M_having_0 M_most_0 M_only M_can M_next (-1 : Int32) o2 ho2) kvX8_leastOf wL_RX8_151 ⟨Nat.le_of_ble_eq_true rfl, Nat.le_of_ble_eq_true rfl⟩ rfl rfl [0, 1, 2, 3, 4, 5, 6, 7, 8, 9, 10, 11, 12, 13] [] rfl rfl rfl rfl (by decide) rfl rfl hl.1 (Nat.le_of_ble_eq_true rfl) dX8_critical_19 ⟨Nat.zero_le _, Nat.zero_le _⟩ ⟨rfl, rfl⟩ (fun r u H locs hp hI => ?_)
    replace hp : r = o2.1 := hp
    rw [hp]
    clear hp
    replace hI : WI D A s.heap (wM cI cJ cZ m0 m1 m2 m3 m4 m5 m6 m7 m8 m9 m10 m11 m12 m13 M_posts M_roads M_size M_rows M_nextRows M_first M_second M_number M_lists M_square M_fan o2.2.1 o2.2.2.1 o2.2.2.2.1 o2.2.2.2.2 M_only M_can M_next) H locs := hI
    refine lv_iload_n hx hb dX8_critical_22 rfl (lv_at hl 0 rfl) ?_
    refine lv_icmp_gt (tgt := 28) hx hb dX8_critical_23 (by decide) (fun hc => ?_) (fun hc => ?_)
    · replace hf := ite_t hc hf
      refine lv_iconst (v := 0) hx hb dX8_critical_28 (by decide) ?_
      refine lv_istore_n (lv' := [(2, .int (0 : Int32)), (1, .int o1), (0, .ref m0)]) hx hb dX8_critical_29 rfl hl (by decide) rfl (fun ls hl => ?_)
      exact L30 o1 (o2.2.1, o2.2.2.1, o2.2.2.2.1, o2.2.2.2.2, (0 : Int32)) _ hf hM _ _ _ hI (lv_sub hl [2, 1, 0] rfl)
    · replace hf := ite_f hc hf
      refine lv_iconst (v := 0) hx hb dX8_critical_26 (by decide) ?_
      replace hf := Option.some.inj hf
      subst hf
      replace hM : ((0 : Int32), o2.2.1, o2.2.2.1, o2.2.2.2.1, o2.2.2.2.2) = out := hM
      subst hM
      exact rt_i (u := ()) hx hb hr hlocks rfl hI hAe rfl dX8_critical_27
  · replace hf := ite_f hc hf
    refine lv_bipush (v := -2) hx hb dX8_critical_9 (by decide) ?_
    replace hf := Option.some.inj hf
    subst hf
    replace hM : ((-2 : Int32), M_trial_0, M_touching_0, M_having_0, M_most_0) = out := hM
    subst hM
    exact rt_i (u := ()) hx hb hr hlocks rfl hI hAe rfl dX8_critical_11
noncomputable def FX8_need (M_posts : Int32) (M_roads : Int32) (M_first : Nat → Int32) (M_second : Nat → Int32) (a1 : Int32) : Option (Int32) :=
  if a1 < (0 : Int32) then (some (-2 : Int32)) else (if ((1 : Int32) <<< (M_posts &&& (31 : Int32))) ≤ a1 then (some (-2 : Int32)) else ((FX8_ones a1).bind (fun x1 => if (3 : Int32) ≤ x1 then ((FX8_needOf M_roads M_first M_second a1).bind (fun o2 => some o2)) else (some (-2 : Int32)))))
abbrev GX8_need (p : Program) (l : Launch) (e : Env) (s : State) (m : MethodId) (below : List Frame) (meth : Method) (c : Code) (D : va_G) (cI cJ cZ : ClassId) (m0 m1 m2 m3 m4 m5 m6 m7 m8 m9 m10 m11 m12 m13 : Nat) (M_posts : Int32) (M_roads : Int32) (M_size : Int32) (M_rows : Int32) (M_nextRows : Int32) (M_first : Nat → Int32) (M_second : Nat → Int32) (M_number : Nat → Int32) (M_lists : Nat → Int32) (M_square : Nat → Int32) (M_fan : Nat → Int32) (M_trial : Nat → Int32) (M_touching : Nat → Int32) (M_having : Nat → Int32) (M_most : Nat → Int32) (M_only : Nat → Int32) (M_can : Nat → Int32) (M_next : Nat → Int32) (a1 : Int32) (out : Int32) (H : Heap) (locs : List Loc) (g : JFrame) : Prop := W p l e (headSpec (Cond.code yX8_need cX8_need 2 (some .int) :: GW) { frames := 2, cells := 0, slots := 0, locals := 46 }).room s m ([.ref m0, .int a1] : List Value).toArray below meth c H locs 0 0 (MQ below (va_Qi (fun r (_ : Unit) => r = out) (BW D (wM cI cJ cZ m0 m1 m2 m3 m4 m5 m6 m7 m8 m9 m10 m11 m12 m13 M_posts M_roads M_size M_rows M_nextRows M_first M_second M_number M_lists M_square M_fan M_trial M_touching M_having M_most M_only M_can M_next) s.heap.size (fun _ => (wM cI cJ cZ m0 m1 m2 m3 m4 m5 m6 m7 m8 m9 m10 m11 m12 m13 M_posts M_roads M_size M_rows M_nextRows M_first M_second M_number M_lists M_square M_fan M_trial M_touching M_having M_most M_only M_can M_next))) (va_A (wM cI cJ cZ m0 m1 m2 m3 m4 m5 m6 m7 m8 m9 m10 m11 m12 m13 M_posts M_roads M_size M_rows M_nextRows M_first M_second M_number M_lists M_square M_fan M_trial M_touching M_having M_most M_only M_can M_next) s.heap.size)) ([.ref m0, .int a1] : List Value).toArray s 0 0 (va_A (wM cI cJ cZ m0 m1 m2 m3 m4 m5 m6 m7 m8 m9 m10 m11 m12 m13 M_posts M_roads M_size M_rows M_nextRows M_first M_second M_number M_lists M_square M_fan M_trial M_touching M_having M_most M_only M_can M_next) s.heap.size)) g
theorem kvX8_need : CalV RX8 yX8_need cX8_need 2 (some .int) 1 := ⟨wC_yX8_need, wM_yX8_need, wS_yX8_need, wI_RX8, by decide +kernel⟩
set_option maxHeartbeats 4000000 in
set_option maxRecDepth 100000 in
theorem kX8_need (l : Launch) (D : va_G) (cI cJ cZ : ClassId) (m0 m1 m2 m3 m4 m5 m6 m7 m8 m9 m10 m11 m12 m13 : Nat) (M_posts : Int32) (M_roads : Int32) (M_size : Int32) (M_rows : Int32) (M_nextRows : Int32) (M_first : Nat → Int32) (M_second : Nat → Int32) (M_number : Nat → Int32) (M_lists : Nat → Int32) (M_square : Nat → Int32) (M_fan : Nat → Int32) (M_trial : Nat → Int32) (M_touching : Nat → Int32) (M_having : Nat → Int32) (M_most : Nat → Int32) (M_only : Nat → Int32) (M_can : Nat → Int32) (M_next : Nat → Int32) (a1 : Int32) (out : Int32) (hf : FX8_need M_posts M_roads M_first M_second a1 = some out) : MI l yX8_need (Cond.code yX8_need cX8_need 2 (some .int) :: GW) { frames := 2, cells := 0, slots := 0, locals := 46 } D cI cJ cZ [.ref m0, .int a1] (wM cI cJ cZ m0 m1 m2 m3 m4 m5 m6 m7 m8 m9 m10 m11 m12 m13 M_posts M_roads M_size M_rows M_nextRows M_first M_second M_number M_lists M_square M_fan M_trial M_touching M_having M_most M_only M_can M_next) (fun r (_ : Unit) => r = out) (fun _ => (wM cI cJ cZ m0 m1 m2 m3 m4 m5 m6 m7 m8 m9 m10 m11 m12 m13 M_posts M_roads M_size M_rows M_nextRows M_first M_second M_number M_lists M_square M_fan M_trial M_touching M_having M_most M_only M_can M_next)) := by
  intro sz
  refine Met.ofW (cc := cX8_need) (maxL := 2) (ret := (some .int)) (by decide +kernel) rfl ?_
  intro p e s m args below meth c s₁ B hml hv
  obtain ⟨rfl, hsz, hP, hK, hD0⟩ := hv
  have hx := B.exec
  have hb := B.bytes
  have hr := B.returns
  have hlocks := B.notSynchronized
  have hg : ∀ w ∈ GW, w.before _ s = true := fun w h => atoms_spec (ws := Cond.code yX8_need cX8_need 2 (some .int) :: GW) B.pre w (List.mem_cons_of_mem _ h)
  have hown : s.vm.findClass RX8 = some m.cls := findClass_of_methodNamed B.named
  subst hsz
  obtain ⟨A, hAe⟩ : ∃ A, A = va_A (wM cI cJ cZ m0 m1 m2 m3 m4 m5 m6 m7 m8 m9 m10 m11 m12 m13 M_posts M_roads M_size M_rows M_nextRows M_first M_second M_number M_lists M_square M_fan M_trial M_touching M_having M_most M_only M_can M_next) s.heap.size := ⟨_, rfl⟩
  have hA : ∀ q : Nat, s.heap.size ≤ q → A q := fun q h => by rw [hAe]; exact Or.inr h
  have hI : WI D A s.heap (wM cI cJ cZ m0 m1 m2 m3 m4 m5 m6 m7 m8 m9 m10 m11 m12 m13 M_posts M_roads M_size M_rows M_nextRows M_first M_second M_number M_lists M_square M_fan M_trial M_touching M_having M_most M_only M_can M_next) s.heap [] := ⟨hP, by rw [hAe]; exact hD0.self, va_S.rf⟩
  have hl := lv_entry [.ref m0, .int a1] (n := 2) (Nat.le_of_ble_eq_true rfl)
  rw [lg_entry_eq]
  generalize (lg_sl [.ref m0, .int a1] ++ List.replicate (2 - (lg_sl [.ref m0, .int a1]).length) Slot.unset).toArray = ls at hl ⊢
  replace hl : lv_has ls 2 [(0, .ref m0), (1, .int a1)] := hl
  obtain ⟨x, hf, hM⟩ : ∃ x, FX8_need M_posts M_roads M_first M_second a1 = some x ∧ x = out := ⟨out, hf, rfl⟩
  refine lv_iload_n hx hb dX8_need_0 rfl (lv_at hl 1 rfl) ?_
  refine lv_if_lt (tgt := 22) hx hb dX8_need_1 (by decide) (fun hc => ?_) (fun hc => ?_)
  · replace hf := ite_t hc hf
    refine lv_bipush (v := -2) hx hb dX8_need_22 (by decide) ?_
    replace hf := Option.some.inj hf
    subst hf
    replace hM : (-2 : Int32) = out := hM
    subst hM
    exact rt_i (u := ()) hx hb hr hlocks rfl hI hAe rfl dX8_need_24
  · replace hf := ite_f hc hf
    refine lv_iload_n hx hb dX8_need_4 rfl (lv_at hl 1 rfl) ?_
    refine lv_iconst (v := 1) hx hb dX8_need_5 (by decide) ?_
    refine lv_aload_n hx hb dX8_need_6 rfl (lv_at hl 0 rfl) ?_
    refine w_get hx hb hg hown hK hI iX8 0 rfl rfl 0 (by decide) wF_RX8_68 rfl dX8_need_7 ?_
    refine lv_ishl hx hb dX8_need_10 ?_
    refine lv_icmp_ge (tgt := 22) hx hb dX8_need_11 (by decide) (fun hc => ?_) (fun hc => ?_)
    · replace hf := ite_t hc hf
      refine lv_bipush (v := -2) hx hb dX8_need_22 (by decide) ?_
      replace hf := Option.some.inj hf
      subst hf
      replace hM : (-2 : Int32) = out := hM
      subst hM
      exact rt_i (u := ()) hx hb hr hlocks rfl hI hAe rfl dX8_need_24
    · replace hf := ite_f hc hf
      refine lv_iload_n hx hb dX8_need_14 rfl (lv_at hl 1 rfl) ?_
      obtain ⟨x1, hx1, hf⟩ := bd_e hf
      refine w_S (rest := []) hx hb hml hg hown hK (kX8_ones l D cI cJ cZ a1 x1 hx1) ksX8_ones wL_RX8_107 ⟨Nat.le_of_ble_eq_true rfl, Nat.le_of_ble_eq_true rfl⟩ ⟨rfl, rfl⟩ rfl rfl hl.1 (Nat.le_of_ble_eq_true rfl) dX8_need_15 ⟨Nat.zero_le _, Nat.zero_le _⟩ ?_
      refine lv_iconst (v := 3) hx hb dX8_need_18 (by decide) ?_
      refine lv_icmp_ge (tgt := 25) hx hb dX8_need_19 (by decide) (fun hc => ?_) (fun hc => ?_)
      · replace hf := ite_t hc hf
        refine lv_aload_n hx hb dX8_need_25 rfl (lv_at hl 0 rfl) ?_
        refine lv_iload_n hx hb dX8_need_26 rfl (lv_at hl 1 rfl) ?_
        obtain ⟨o2, ho2, hf⟩ := bd_e hf
        refine w_Vi0 (wc := (wM cI cJ cZ m0 m1 m2 m3 m4 m5 m6 m7 m8 m9 m10 m11 m12 m13 M_posts M_roads M_size M_rows M_nextRows M_first M_second M_number M_lists M_square M_fan M_trial M_touching M_having M_most M_only M_can M_next)) (wr := []) (rest := []) hx hb hml hg hown hK hA hI (kX8_needOf l D cI cJ cZ m0 m1 m2 m3 m4 m5 m6 m7 m8 m9 m10 m11 m12 m13 M_posts M_roads M_size M_rows M_nextRows M_first M_second M_number M_lists M_square M_fan M_trial M_touching M_having M_most M_only M_can M_next a1 o2 ho2) kvX8_needOf wL_RX8_145 ⟨Nat.le_of_ble_eq_true rfl, Nat.le_of_ble_eq_true rfl⟩ rfl rfl [0, 1, 2, 3, 4, 5, 6, 7, 8, 9, 10, 11, 12, 13] [] rfl rfl rfl rfl (by decide) rfl rfl hl.1 (Nat.le_of_ble_eq_true rfl) dX8_need_27 ⟨Nat.zero_le _, Nat.zero_le _⟩ ⟨rfl, rfl⟩ (fun r u H locs hp hI => ?_)
        replace hp : r = o2 := hp
        rw [hp]
        clear hp
        replace hI : WI D A s.heap (wM cI cJ cZ m0 m1 m2 m3 m4 m5 m6 m7 m8 m9 m10 m11 m12 m13 M_posts M_roads M_size M_rows M_nextRows M_first M_second M_number M_lists M_square M_fan M_trial M_touching M_having M_most M_only M_can M_next) H locs := hI
        replace hf := Option.some.inj hf
        subst hf
        replace hM : o2 = out := hM
        subst hM
        exact rt_i (u := ()) hx hb hr hlocks rfl hI hAe rfl dX8_need_30
      · replace hf := ite_f hc hf
        refine lv_bipush (v := -2) hx hb dX8_need_22 (by decide) ?_
        replace hf := Option.some.inj hf
        subst hf
        replace hM : (-2 : Int32) = out := hM
        subst hM
        exact rt_i (u := ()) hx hb hr hlocks rfl hI hAe rfl dX8_need_24
noncomputable def X8_heap_L11 (M_roads : Int32) (M_first : Nat → Int32) (M_second : Nat → Int32) (v : Int32 × Int32) : Option ((Int32 × Int32) ⊕ (Int32)) :=
  if v.2 ≤ (0 : Int32) then (some (.inr v.1)) else ((FX8_ones v.2).bind (fun x2 => if (3 : Int32) ≤ x2 then (if v.1 < (0 : Int32) then (bnd (v.2 + (-1 : Int32)) (fun x3 => some (.inl (v.2, x3)))) else ((FX8_needOf M_roads M_first M_second v.2).bind (fun o4 => (FX8_needOf M_roads M_first M_second v.1).bind (fun o5 => if o4 < o5 then (bnd (v.2 + (-1 : Int32)) (fun x6 => some (.inl (v.1, x6)))) else (bnd (v.2 + (-1 : Int32)) (fun x7 => some (.inl (v.2, x7)))))))) else (bnd (v.2 + (-1 : Int32)) (fun x8 => some (.inl (v.1, x8))))))
noncomputable def FX8_heap (M_posts : Int32) (M_roads : Int32) (M_first : Nat → Int32) (M_second : Nat → Int32)  : Option (Int32) :=
  bnd (((1 : Int32) <<< (M_posts &&& (31 : Int32))) - (1 : Int32)) (fun x1 => loopO (X8_heap_L11 M_roads M_first M_second) ((-1 : Int32), x1))
abbrev GX8_heap (p : Program) (l : Launch) (e : Env) (s : State) (m : MethodId) (below : List Frame) (meth : Method) (c : Code) (D : va_G) (cI cJ cZ : ClassId) (m0 m1 m2 m3 m4 m5 m6 m7 m8 m9 m10 m11 m12 m13 : Nat) (M_posts : Int32) (M_roads : Int32) (M_size : Int32) (M_rows : Int32) (M_nextRows : Int32) (M_first : Nat → Int32) (M_second : Nat → Int32) (M_number : Nat → Int32) (M_lists : Nat → Int32) (M_square : Nat → Int32) (M_fan : Nat → Int32) (M_trial : Nat → Int32) (M_touching : Nat → Int32) (M_having : Nat → Int32) (M_most : Nat → Int32) (M_only : Nat → Int32) (M_can : Nat → Int32) (M_next : Nat → Int32)  (out : Int32) (H : Heap) (locs : List Loc) (g : JFrame) : Prop := W p l e (headSpec (Cond.code yX8_heap cX8_heap 3 (some .int) :: GW) { frames := 2, cells := 0, slots := 0, locals := 46 }).room s m ([.ref m0] : List Value).toArray below meth c H locs 0 0 (MQ below (va_Qi (fun r (_ : Unit) => r = out) (BW D (wM cI cJ cZ m0 m1 m2 m3 m4 m5 m6 m7 m8 m9 m10 m11 m12 m13 M_posts M_roads M_size M_rows M_nextRows M_first M_second M_number M_lists M_square M_fan M_trial M_touching M_having M_most M_only M_can M_next) s.heap.size (fun _ => (wM cI cJ cZ m0 m1 m2 m3 m4 m5 m6 m7 m8 m9 m10 m11 m12 m13 M_posts M_roads M_size M_rows M_nextRows M_first M_second M_number M_lists M_square M_fan M_trial M_touching M_having M_most M_only M_can M_next))) (va_A (wM cI cJ cZ m0 m1 m2 m3 m4 m5 m6 m7 m8 m9 m10 m11 m12 m13 M_posts M_roads M_size M_rows M_nextRows M_first M_second M_number M_lists M_square M_fan M_trial M_touching M_having M_most M_only M_can M_next) s.heap.size)) ([.ref m0] : List Value).toArray s 0 0 (va_A (wM cI cJ cZ m0 m1 m2 m3 m4 m5 m6 m7 m8 m9 m10 m11 m12 m13 M_posts M_roads M_size M_rows M_nextRows M_first M_second M_number M_lists M_square M_fan M_trial M_touching M_having M_most M_only M_can M_next) s.heap.size)) g
theorem kvX8_heap : CalV RX8 yX8_heap cX8_heap 3 (some .int) 0 := ⟨wC_yX8_heap, wM_yX8_heap, wS_yX8_heap, wI_RX8, by decide +kernel⟩
set_option maxHeartbeats 4000000 in
set_option maxRecDepth 100000 in
theorem kX8_heap (l : Launch) (D : va_G) (cI cJ cZ : ClassId) (m0 m1 m2 m3 m4 m5 m6 m7 m8 m9 m10 m11 m12 m13 : Nat) (M_posts : Int32) (M_roads : Int32) (M_size : Int32) (M_rows : Int32) (M_nextRows : Int32) (M_first : Nat → Int32) (M_second : Nat → Int32) (M_number : Nat → Int32) (M_lists : Nat → Int32) (M_square : Nat → Int32) (M_fan : Nat → Int32) (M_trial : Nat → Int32) (M_touching : Nat → Int32) (M_having : Nat → Int32) (M_most : Nat → Int32) (M_only : Nat → Int32) (M_can : Nat → Int32) (M_next : Nat → Int32)  (out : Int32) (hf : FX8_heap M_posts M_roads M_first M_second = some out) : MI l yX8_heap (Cond.code yX8_heap cX8_heap 3 (some .int) :: GW) { frames := 2, cells := 0, slots := 0, locals := 46 } D cI cJ cZ [.ref m0] (wM cI cJ cZ m0 m1 m2 m3 m4 m5 m6 m7 m8 m9 m10 m11 m12 m13 M_posts M_roads M_size M_rows M_nextRows M_first M_second M_number M_lists M_square M_fan M_trial M_touching M_having M_most M_only M_can M_next) (fun r (_ : Unit) => r = out) (fun _ => (wM cI cJ cZ m0 m1 m2 m3 m4 m5 m6 m7 m8 m9 m10 m11 m12 m13 M_posts M_roads M_size M_rows M_nextRows M_first M_second M_number M_lists M_square M_fan M_trial M_touching M_having M_most M_only M_can M_next)) := by
  intro sz
  refine Met.ofW (cc := cX8_heap) (maxL := 3) (ret := (some .int)) (by decide +kernel) rfl ?_
  intro p e s m args below meth c s₁ B hml hv
  obtain ⟨rfl, hsz, hP, hK, hD0⟩ := hv
  have hx := B.exec
  have hb := B.bytes
  have hr := B.returns
  have hlocks := B.notSynchronized
  have hg : ∀ w ∈ GW, w.before _ s = true := fun w h => atoms_spec (ws := Cond.code yX8_heap cX8_heap 3 (some .int) :: GW) B.pre w (List.mem_cons_of_mem _ h)
  have hown : s.vm.findClass RX8 = some m.cls := findClass_of_methodNamed B.named
  subst hsz
  obtain ⟨A, hAe⟩ : ∃ A, A = va_A (wM cI cJ cZ m0 m1 m2 m3 m4 m5 m6 m7 m8 m9 m10 m11 m12 m13 M_posts M_roads M_size M_rows M_nextRows M_first M_second M_number M_lists M_square M_fan M_trial M_touching M_having M_most M_only M_can M_next) s.heap.size := ⟨_, rfl⟩
  have hA : ∀ q : Nat, s.heap.size ≤ q → A q := fun q h => by rw [hAe]; exact Or.inr h
  have hI : WI D A s.heap (wM cI cJ cZ m0 m1 m2 m3 m4 m5 m6 m7 m8 m9 m10 m11 m12 m13 M_posts M_roads M_size M_rows M_nextRows M_first M_second M_number M_lists M_square M_fan M_trial M_touching M_having M_most M_only M_can M_next) s.heap [] := ⟨hP, by rw [hAe]; exact hD0.self, va_S.rf⟩
  have hl := lv_entry [.ref m0] (n := 3) (Nat.le_of_ble_eq_true rfl)
  rw [lg_entry_eq]
  generalize (lg_sl [.ref m0] ++ List.replicate (3 - (lg_sl [.ref m0]).length) Slot.unset).toArray = ls at hl ⊢
  replace hl : lv_has ls 3 [(0, .ref m0)] := hl
  have L11 : ∀ (v : Int32 × Int32) (x : Int32), loopO (X8_heap_L11 M_roads M_first M_second) v = some x → (fun z : Int32 => z = out) x → (fun (v : Int32 × Int32) => ∀ (H : Heap) (locs : List Loc) (ls : Array Slot), WI D A s.heap (wM cI cJ cZ m0 m1 m2 m3 m4 m5 m6 m7 m8 m9 m10 m11 m12 m13 M_posts M_roads M_size M_rows M_nextRows M_first M_second M_number M_lists M_square M_fan M_trial M_touching M_having M_most M_only M_can M_next) H locs → lv_has ls 3 [(0, .ref m0), (1, .int v.1), (2, .int v.2)] → GX8_heap p l e s m below meth c D cI cJ cZ m0 m1 m2 m3 m4 m5 m6 m7 m8 m9 m10 m11 m12 m13 M_posts M_roads M_size M_rows M_nextRows M_first M_second M_number M_lists M_square M_fan M_trial M_touching M_having M_most M_only M_can M_next  out H locs (F0 m 11 ls [])) v := by
    refine loopO_ind (fun (v : Int32 × Int32) => ∀ (H : Heap) (locs : List Loc) (ls : Array Slot), WI D A s.heap (wM cI cJ cZ m0 m1 m2 m3 m4 m5 m6 m7 m8 m9 m10 m11 m12 m13 M_posts M_roads M_size M_rows M_nextRows M_first M_second M_number M_lists M_square M_fan M_trial M_touching M_having M_most M_only M_can M_next) H locs → lv_has ls 3 [(0, .ref m0), (1, .int v.1), (2, .int v.2)] → GX8_heap p l e s m below meth c D cI cJ cZ m0 m1 m2 m3 m4 m5 m6 m7 m8 m9 m10 m11 m12 m13 M_posts M_roads M_size M_rows M_nextRows M_first M_second M_number M_lists M_square M_fan M_trial M_touching M_having M_most M_only M_can M_next  out H locs (F0 m 11 ls [])) (fun z : Int32 => z = out) ?_
    intro v x hf hM H locs ls hI hl
    refine lv_iload_n hx hb dX8_heap_11 rfl (lv_at hl 2 rfl) ?_
    refine lv_if_le (tgt := 51) hx hb dX8_heap_12 (by decide) (fun hc => ?_) (fun hc => ?_)
    · replace hf := ite_t hc hf
      refine lv_iload_n hx hb dX8_heap_51 rfl (lv_at hl 1 rfl) ?_
      replace hf := Option.some.inj hf
      subst hf
      replace hM : v.1 = out := hM
      subst hM
      exact rt_i (u := ()) hx hb hr hlocks rfl hI hAe rfl dX8_heap_52
    · replace hf := ite_f hc hf
      refine lv_iload_n hx hb dX8_heap_15 rfl (lv_at hl 2 rfl) ?_
      obtain ⟨x2, hx2, hf⟩ := bd_e hf
      refine w_S (rest := []) hx hb hml hg hown hK (kX8_ones l D cI cJ cZ v.2 x2 hx2) ksX8_ones wL_RX8_107 ⟨Nat.le_of_ble_eq_true rfl, Nat.le_of_ble_eq_true rfl⟩ ⟨rfl, rfl⟩ rfl rfl hl.1 (Nat.le_of_ble_eq_true rfl) dX8_heap_16 ⟨Nat.zero_le _, Nat.zero_le _⟩ ?_
      refine lv_iconst (v := 3) hx hb dX8_heap_19 (by decide) ?_
      refine lv_icmp_ge (tgt := 26) hx hb dX8_heap_20 (by decide) (fun hc => ?_) (fun hc => ?_)
      · replace hf := ite_t hc hf
        refine lv_iload_n hx hb dX8_heap_26 rfl (lv_at hl 1 rfl) ?_
        refine lv_if_lt (tgt := 43) hx hb dX8_heap_27 (by decide) (fun hc => ?_) (fun hc => ?_)
        · replace hf := ite_t hc hf
          refine lv_iload_n hx hb dX8_heap_43 rfl (lv_at hl 2 rfl) ?_
          refine lv_istore_n (lv' := [(1, .int v.2), (0, .ref m0), (2, .int v.2)]) hx hb dX8_heap_44 rfl hl (by decide) rfl (fun ls hl => ?_)
          obtain ⟨x3, ex3⟩ : ∃ y : Int32, y = (v.2 + (-1 : Int32)) := ⟨_, rfl⟩
          replace hf := bnd_e hf x3 ex3
          refine lv_iinc (v := x3) (lv' := [(2, .int x3), (1, .int v.2), (0, .ref m0)]) hx hb dX8_heap_45 hl (k := 2) rfl (by rw [ex3]; rfl) (by decide) rfl (fun ls hl => ?_)
          refine lv_goto (tgt := 11) hx hb dX8_heap_48 (by decide) ?_
          replace hf := Option.some.inj hf
          subst hf
          exact hM _ _ _ hI (lv_sub hl [2, 1, 0] rfl)
        · replace hf := ite_f hc hf
          refine lv_aload_n hx hb dX8_heap_30 rfl (lv_at hl 0 rfl) ?_
          refine lv_iload_n hx hb dX8_heap_31 rfl (lv_at hl 2 rfl) ?_
          obtain ⟨o4, ho4, hf⟩ := bd_e hf
          refine w_Vi0 (wc := (wM cI cJ cZ m0 m1 m2 m3 m4 m5 m6 m7 m8 m9 m10 m11 m12 m13 M_posts M_roads M_size M_rows M_nextRows M_first M_second M_number M_lists M_square M_fan M_trial M_touching M_having M_most M_only M_can M_next)) (wr := []) (rest := []) hx hb hml hg hown hK hA hI (kX8_needOf l D cI cJ cZ m0 m1 m2 m3 m4 m5 m6 m7 m8 m9 m10 m11 m12 m13 M_posts M_roads M_size M_rows M_nextRows M_first M_second M_number M_lists M_square M_fan M_trial M_touching M_having M_most M_only M_can M_next v.2 o4 ho4) kvX8_needOf wL_RX8_145 ⟨Nat.le_of_ble_eq_true rfl, Nat.le_of_ble_eq_true rfl⟩ rfl rfl [0, 1, 2, 3, 4, 5, 6, 7, 8, 9, 10, 11, 12, 13] [] rfl rfl rfl rfl (by decide) rfl rfl hl.1 (Nat.le_of_ble_eq_true rfl) dX8_heap_32 ⟨Nat.zero_le _, Nat.zero_le _⟩ ⟨rfl, rfl⟩ (fun r u H locs hp hI => ?_)
          replace hp : r = o4 := hp
          rw [hp]
          clear hp
          replace hI : WI D A s.heap (wM cI cJ cZ m0 m1 m2 m3 m4 m5 m6 m7 m8 m9 m10 m11 m12 m13 M_posts M_roads M_size M_rows M_nextRows M_first M_second M_number M_lists M_square M_fan M_trial M_touching M_having M_most M_only M_can M_next) H locs := hI
          refine lv_aload_n hx hb dX8_heap_35 rfl (lv_at hl 0 rfl) ?_
          refine lv_iload_n hx hb dX8_heap_36 rfl (lv_at hl 1 rfl) ?_
          obtain ⟨o5, ho5, hf⟩ := bd_e hf
          refine w_Vi0 (wc := (wM cI cJ cZ m0 m1 m2 m3 m4 m5 m6 m7 m8 m9 m10 m11 m12 m13 M_posts M_roads M_size M_rows M_nextRows M_first M_second M_number M_lists M_square M_fan M_trial M_touching M_having M_most M_only M_can M_next)) (wr := []) (rest := [.int o4]) hx hb hml hg hown hK hA hI (kX8_needOf l D cI cJ cZ m0 m1 m2 m3 m4 m5 m6 m7 m8 m9 m10 m11 m12 m13 M_posts M_roads M_size M_rows M_nextRows M_first M_second M_number M_lists M_square M_fan M_trial M_touching M_having M_most M_only M_can M_next v.1 o5 ho5) kvX8_needOf wL_RX8_145 ⟨Nat.le_of_ble_eq_true rfl, Nat.le_of_ble_eq_true rfl⟩ rfl rfl [0, 1, 2, 3, 4, 5, 6, 7, 8, 9, 10, 11, 12, 13] [] rfl rfl rfl rfl (by decide) rfl rfl hl.1 (Nat.le_of_ble_eq_true rfl) dX8_heap_37 ⟨Nat.zero_le _, Nat.zero_le _⟩ ⟨rfl, rfl⟩ (fun r u H locs hp hI => ?_)
          replace hp : r = o5 := hp
          rw [hp]
          clear hp
          replace hI : WI D A s.heap (wM cI cJ cZ m0 m1 m2 m3 m4 m5 m6 m7 m8 m9 m10 m11 m12 m13 M_posts M_roads M_size M_rows M_nextRows M_first M_second M_number M_lists M_square M_fan M_trial M_touching M_having M_most M_only M_can M_next) H locs := hI
          refine lv_icmp_lt (tgt := 45) hx hb dX8_heap_40 (by decide) (fun hc => ?_) (fun hc => ?_)
          · replace hf := ite_t hc hf
            obtain ⟨x6, ex6⟩ : ∃ y : Int32, y = (v.2 + (-1 : Int32)) := ⟨_, rfl⟩
            replace hf := bnd_e hf x6 ex6
            refine lv_iinc (v := x6) (lv' := [(2, .int x6), (0, .ref m0), (1, .int v.1)]) hx hb dX8_heap_45 hl (k := 2) rfl (by rw [ex6]; rfl) (by decide) rfl (fun ls hl => ?_)
            refine lv_goto (tgt := 11) hx hb dX8_heap_48 (by decide) ?_
            replace hf := Option.some.inj hf
            subst hf
            exact hM _ _ _ hI (lv_sub hl [1, 2, 0] rfl)
          · replace hf := ite_f hc hf
            refine lv_iload_n hx hb dX8_heap_43 rfl (lv_at hl 2 rfl) ?_
            refine lv_istore_n (lv' := [(1, .int v.2), (0, .ref m0), (2, .int v.2)]) hx hb dX8_heap_44 rfl hl (by decide) rfl (fun ls hl => ?_)
            obtain ⟨x7, ex7⟩ : ∃ y : Int32, y = (v.2 + (-1 : Int32)) := ⟨_, rfl⟩
            replace hf := bnd_e hf x7 ex7
            refine lv_iinc (v := x7) (lv' := [(2, .int x7), (1, .int v.2), (0, .ref m0)]) hx hb dX8_heap_45 hl (k := 2) rfl (by rw [ex7]; rfl) (by decide) rfl (fun ls hl => ?_)
            refine lv_goto (tgt := 11) hx hb dX8_heap_48 (by decide) ?_
            replace hf := Option.some.inj hf
            subst hf
            exact hM _ _ _ hI (lv_sub hl [2, 1, 0] rfl)
      · replace hf := ite_f hc hf
        refine lv_goto (tgt := 45) hx hb dX8_heap_23 (by decide) ?_
        obtain ⟨x8, ex8⟩ : ∃ y : Int32, y = (v.2 + (-1 : Int32)) := ⟨_, rfl⟩
        replace hf := bnd_e hf x8 ex8
        refine lv_iinc (v := x8) (lv' := [(2, .int x8), (0, .ref m0), (1, .int v.1)]) hx hb dX8_heap_45 hl (k := 2) rfl (by rw [ex8]; rfl) (by decide) rfl (fun ls hl => ?_)
        refine lv_goto (tgt := 11) hx hb dX8_heap_48 (by decide) ?_
        replace hf := Option.some.inj hf
        subst hf
        exact hM _ _ _ hI (lv_sub hl [1, 2, 0] rfl)
  obtain ⟨x, hf, hM⟩ : ∃ x, FX8_heap M_posts M_roads M_first M_second = some x ∧ x = out := ⟨out, hf, rfl⟩
  refine lv_iconst (v := -1) hx hb dX8_heap_0 (by decide) ?_
  refine lv_istore_n (lv' := [(1, .int (-1 : Int32)), (0, .ref m0)]) hx hb dX8_heap_1 rfl hl (by decide) rfl (fun ls hl => ?_)
  refine lv_iconst (v := 1) hx hb dX8_heap_2 (by decide) ?_
  refine lv_aload_n hx hb dX8_heap_3 rfl (lv_at hl 1 rfl) ?_
  refine w_get hx hb hg hown hK hI iX8 0 rfl rfl 0 (by decide) wF_RX8_68 rfl dX8_heap_4 ?_
  refine lv_ishl hx hb dX8_heap_7 ?_
  refine lv_iconst (v := 1) hx hb dX8_heap_8 (by decide) ?_
  refine lv_isub hx hb dX8_heap_9 ?_
  refine lv_topi (fun x1 ex1 => ?_)
  replace hf := bnd_e hf x1 ex1
  refine lv_istore_n (lv' := [(2, .int x1), (1, .int (-1 : Int32)), (0, .ref m0)]) hx hb dX8_heap_10 rfl hl (by decide) rfl (fun ls hl => ?_)
  exact L11  ((-1 : Int32), x1) _ hf hM _ _ _ hI (lv_sub hl [2, 1, 0] rfl)
noncomputable def FX8_list (M_roads : Int32) (M_lists_0 : Nat → Int32) (a1 : Int32) (a2 : Int32) : Option (Int32 × (Nat → Int32)) :=
  (FX8_isRoad M_roads a1).bind (fun o1 => if o1 = (0 : Int32) then (some ((-2 : Int32), M_lists_0)) else ((FX8_in a2 (0 : Int32) (65535 : Int32)).bind (fun x2 => if x2 = (0 : Int32) then (some ((-2 : Int32), M_lists_0)) else (rd M_lists_0 24 a1 (fun x3 => wr M_lists_0 24 a1 a2 (fun g4 => some (x3, g4)))))))
abbrev GX8_list (p : Program) (l : Launch) (e : Env) (s : State) (m : MethodId) (below : List Frame) (meth : Method) (c : Code) (D : va_G) (cI cJ cZ : ClassId) (m0 m1 m2 m3 m4 m5 m6 m7 m8 m9 m10 m11 m12 m13 : Nat) (M_posts : Int32) (M_roads : Int32) (M_size : Int32) (M_rows : Int32) (M_nextRows : Int32) (M_first : Nat → Int32) (M_second : Nat → Int32) (M_number : Nat → Int32) (M_lists_0 : Nat → Int32) (M_square : Nat → Int32) (M_fan : Nat → Int32) (M_trial : Nat → Int32) (M_touching : Nat → Int32) (M_having : Nat → Int32) (M_most : Nat → Int32) (M_only : Nat → Int32) (M_can : Nat → Int32) (M_next : Nat → Int32) (a1 : Int32) (a2 : Int32) (out : Int32 × (Nat → Int32)) (H : Heap) (locs : List Loc) (g : JFrame) : Prop := W p l e (headSpec (Cond.code yX8_list cX8_list 4 (some .int) :: GW) { frames := 2, cells := 0, slots := 0, locals := 43 }).room s m ([.ref m0, .int a1, .int a2] : List Value).toArray below meth c H locs 0 0 (MQ below (va_Qi (fun r (_ : Unit) => r = out.1) (BW D (wM cI cJ cZ m0 m1 m2 m3 m4 m5 m6 m7 m8 m9 m10 m11 m12 m13 M_posts M_roads M_size M_rows M_nextRows M_first M_second M_number M_lists_0 M_square M_fan M_trial M_touching M_having M_most M_only M_can M_next) s.heap.size (fun _ => (wM cI cJ cZ m0 m1 m2 m3 m4 m5 m6 m7 m8 m9 m10 m11 m12 m13 M_posts M_roads M_size M_rows M_nextRows M_first M_second M_number out.2 M_square M_fan M_trial M_touching M_having M_most M_only M_can M_next))) (va_A (wM cI cJ cZ m0 m1 m2 m3 m4 m5 m6 m7 m8 m9 m10 m11 m12 m13 M_posts M_roads M_size M_rows M_nextRows M_first M_second M_number M_lists_0 M_square M_fan M_trial M_touching M_having M_most M_only M_can M_next) s.heap.size)) ([.ref m0, .int a1, .int a2] : List Value).toArray s 0 0 (va_A (wM cI cJ cZ m0 m1 m2 m3 m4 m5 m6 m7 m8 m9 m10 m11 m12 m13 M_posts M_roads M_size M_rows M_nextRows M_first M_second M_number M_lists_0 M_square M_fan M_trial M_touching M_having M_most M_only M_can M_next) s.heap.size)) g
theorem kvX8_list : CalV RX8 yX8_list cX8_list 4 (some .int) 2 := ⟨wC_yX8_list, wM_yX8_list, wS_yX8_list, wI_RX8, by decide +kernel⟩
set_option maxHeartbeats 4000000 in
set_option maxRecDepth 100000 in
theorem kX8_list (l : Launch) (D : va_G) (cI cJ cZ : ClassId) (m0 m1 m2 m3 m4 m5 m6 m7 m8 m9 m10 m11 m12 m13 : Nat) (M_posts : Int32) (M_roads : Int32) (M_size : Int32) (M_rows : Int32) (M_nextRows : Int32) (M_first : Nat → Int32) (M_second : Nat → Int32) (M_number : Nat → Int32) (M_lists_0 : Nat → Int32) (M_square : Nat → Int32) (M_fan : Nat → Int32) (M_trial : Nat → Int32) (M_touching : Nat → Int32) (M_having : Nat → Int32) (M_most : Nat → Int32) (M_only : Nat → Int32) (M_can : Nat → Int32) (M_next : Nat → Int32) (a1 : Int32) (a2 : Int32) (out : Int32 × (Nat → Int32)) (hf : FX8_list M_roads M_lists_0 a1 a2 = some out) : MI l yX8_list (Cond.code yX8_list cX8_list 4 (some .int) :: GW) { frames := 2, cells := 0, slots := 0, locals := 43 } D cI cJ cZ [.ref m0, .int a1, .int a2] (wM cI cJ cZ m0 m1 m2 m3 m4 m5 m6 m7 m8 m9 m10 m11 m12 m13 M_posts M_roads M_size M_rows M_nextRows M_first M_second M_number M_lists_0 M_square M_fan M_trial M_touching M_having M_most M_only M_can M_next) (fun r (_ : Unit) => r = out.1) (fun _ => (wM cI cJ cZ m0 m1 m2 m3 m4 m5 m6 m7 m8 m9 m10 m11 m12 m13 M_posts M_roads M_size M_rows M_nextRows M_first M_second M_number out.2 M_square M_fan M_trial M_touching M_having M_most M_only M_can M_next)) := by
  intro sz
  refine Met.ofW (cc := cX8_list) (maxL := 4) (ret := (some .int)) (by decide +kernel) rfl ?_
  intro p e s m args below meth c s₁ B hml hv
  obtain ⟨rfl, hsz, hP, hK, hD0⟩ := hv
  have hx := B.exec
  have hb := B.bytes
  have hr := B.returns
  have hlocks := B.notSynchronized
  have hg : ∀ w ∈ GW, w.before _ s = true := fun w h => atoms_spec (ws := Cond.code yX8_list cX8_list 4 (some .int) :: GW) B.pre w (List.mem_cons_of_mem _ h)
  have hown : s.vm.findClass RX8 = some m.cls := findClass_of_methodNamed B.named
  subst hsz
  obtain ⟨A, hAe⟩ : ∃ A, A = va_A (wM cI cJ cZ m0 m1 m2 m3 m4 m5 m6 m7 m8 m9 m10 m11 m12 m13 M_posts M_roads M_size M_rows M_nextRows M_first M_second M_number M_lists_0 M_square M_fan M_trial M_touching M_having M_most M_only M_can M_next) s.heap.size := ⟨_, rfl⟩
  have hA : ∀ q : Nat, s.heap.size ≤ q → A q := fun q h => by rw [hAe]; exact Or.inr h
  have hI : WI D A s.heap (wM cI cJ cZ m0 m1 m2 m3 m4 m5 m6 m7 m8 m9 m10 m11 m12 m13 M_posts M_roads M_size M_rows M_nextRows M_first M_second M_number M_lists_0 M_square M_fan M_trial M_touching M_having M_most M_only M_can M_next) s.heap [] := ⟨hP, by rw [hAe]; exact hD0.self, va_S.rf⟩
  have hl := lv_entry [.ref m0, .int a1, .int a2] (n := 4) (Nat.le_of_ble_eq_true rfl)
  rw [lg_entry_eq]
  generalize (lg_sl [.ref m0, .int a1, .int a2] ++ List.replicate (4 - (lg_sl [.ref m0, .int a1, .int a2]).length) Slot.unset).toArray = ls at hl ⊢
  replace hl : lv_has ls 4 [(0, .ref m0), (1, .int a1), (2, .int a2)] := hl
  obtain ⟨x, hf, hM⟩ : ∃ x, FX8_list M_roads M_lists_0 a1 a2 = some x ∧ x = out := ⟨out, hf, rfl⟩
  refine lv_aload_n hx hb dX8_list_0 rfl (lv_at hl 0 rfl) ?_
  refine lv_iload_n hx hb dX8_list_1 rfl (lv_at hl 1 rfl) ?_
  obtain ⟨o1, ho1, hf⟩ := bd_e hf
  refine w_Vi0 (wc := (wM cI cJ cZ m0 m1 m2 m3 m4 m5 m6 m7 m8 m9 m10 m11 m12 m13 M_posts M_roads M_size M_rows M_nextRows M_first M_second M_number M_lists_0 M_square M_fan M_trial M_touching M_having M_most M_only M_can M_next)) (wr := []) (rest := []) hx hb hml hg hown hK hA hI (kX8_isRoad l D cI cJ cZ m0 m1 m2 m3 m4 m5 m6 m7 m8 m9 m10 m11 m12 m13 M_posts M_roads M_size M_rows M_nextRows M_first M_second M_number M_lists_0 M_square M_fan M_trial M_touching M_having M_most M_only M_can M_next a1 o1 ho1) kvX8_isRoad wL_RX8_72 ⟨Nat.le_of_ble_eq_true rfl, Nat.le_of_ble_eq_true rfl⟩ rfl rfl [0, 1, 2, 3, 4, 5, 6, 7, 8, 9, 10, 11, 12, 13] [] rfl rfl rfl rfl (by decide) rfl rfl hl.1 (Nat.le_of_ble_eq_true rfl) dX8_list_2 ⟨Nat.zero_le _, Nat.zero_le _⟩ ⟨rfl, rfl⟩ (fun r u H locs hp hI => ?_)
  replace hp : r = o1 := hp
  rw [hp]
  clear hp
  replace hI : WI D A s.heap (wM cI cJ cZ m0 m1 m2 m3 m4 m5 m6 m7 m8 m9 m10 m11 m12 m13 M_posts M_roads M_size M_rows M_nextRows M_first M_second M_number M_lists_0 M_square M_fan M_trial M_touching M_having M_most M_only M_can M_next) H locs := hI
  refine lv_if_eq (tgt := 18) hx hb dX8_list_5 (by decide) (fun hc => ?_) (fun hc => ?_)
  · replace hf := ite_t hc hf
    refine lv_bipush (v := -2) hx hb dX8_list_18 (by decide) ?_
    replace hf := Option.some.inj hf
    subst hf
    replace hM : ((-2 : Int32), M_lists_0) = out := hM
    subst hM
    exact rt_i (u := ()) hx hb hr hlocks rfl hI hAe rfl dX8_list_20
  · replace hf := ite_f hc hf
    refine lv_iload_n hx hb dX8_list_8 rfl (lv_at hl 2 rfl) ?_
    refine lv_iconst (v := 0) hx hb dX8_list_9 (by decide) ?_
    refine lv_ldc hx hb hown (hg _ wV_RX8_71) dX8_list_10 ?_
    obtain ⟨x2, hx2, hf⟩ := bd_e hf
    refine w_S (rest := []) hx hb hml hg hown hK (kX8_in l D cI cJ cZ a2 (0 : Int32) (65535 : Int32) x2 hx2) ksX8_in wL_RX8_60 ⟨Nat.le_of_ble_eq_true rfl, Nat.le_of_ble_eq_true rfl⟩ ⟨rfl, rfl⟩ rfl rfl hl.1 (Nat.le_of_ble_eq_true rfl) dX8_list_12 ⟨Nat.zero_le _, Nat.zero_le _⟩ ?_
    refine lv_if_ne (tgt := 21) hx hb dX8_list_15 (by decide) (fun hc => ?_) (fun hc => ?_)
    · replace hf := ite_f hc hf
      refine lv_aload_n hx hb dX8_list_21 rfl (lv_at hl 0 rfl) ?_
      refine w_get hx hb hg hown hK hI iX8 0 rfl rfl 5 (by decide) wF_RX8_19 rfl dX8_list_22 ?_
      refine lv_iload_n hx hb dX8_list_25 rfl (lv_at hl 1 rfl) ?_
      obtain ⟨hin, hf⟩ := rd_e hf
      refine w_iald hx hb hK hI 4 rfl hin dX8_list_26 (fun x3 ex3 => ?_)
      replace hf := hf x3 ex3
      refine lv_istore_n (lv' := [(3, .int x3), (0, .ref m0), (1, .int a1), (2, .int a2)]) hx hb dX8_list_27 rfl hl (by decide) rfl (fun ls hl => ?_)
      refine lv_aload_n hx hb dX8_list_28 rfl (lv_at hl 1 rfl) ?_
      refine w_get hx hb hg hown hK hI iX8 0 rfl rfl 5 (by decide) wF_RX8_19 rfl dX8_list_29 ?_
      refine lv_iload_n hx hb dX8_list_32 rfl (lv_at hl 2 rfl) ?_
      refine lv_iload_n hx hb dX8_list_33 rfl (lv_at hl 3 rfl) ?_
      obtain ⟨hin, hf⟩ := wr_e hf
      obtain ⟨g4, eg4⟩ : ∃ g : Nat → Int32, g = upd M_lists_0 (a1).toNatClampNeg a2 := ⟨_, rfl⟩
      replace hf := hf g4 eg4
      refine w_iast (g := g4) (W1 := (wM cI cJ cZ m0 m1 m2 m3 m4 m5 m6 m7 m8 m9 m10 m11 m12 m13 M_posts M_roads M_size M_rows M_nextRows M_first M_second M_number g4 M_square M_fan M_trial M_touching M_having M_most M_only M_can M_next)) hx hb hK hI 4 rfl hin eg4 dX8_list_34 rfl (fun H locs hI => ?_)
      refine lv_iload_n hx hb dX8_list_35 rfl (lv_at hl 0 rfl) ?_
      replace hf := Option.some.inj hf
      subst hf
      replace hM : (x3, g4) = out := hM
      subst hM
      exact rt_i (u := ()) hx hb hr hlocks rfl hI hAe rfl dX8_list_36
    · replace hf := ite_t hc hf
      refine lv_bipush (v := -2) hx hb dX8_list_18 (by decide) ?_
      replace hf := Option.some.inj hf
      subst hf
      replace hM : ((-2 : Int32), M_lists_0) = out := hM
      subst hM
      exact rt_i (u := ()) hx hb hr hlocks rfl hI hAe rfl dX8_list_20
noncomputable def X8_mayHave_L2 (M_roads : Int32) (M_touching : Nat → Int32) (M_only : Nat → Int32) (l1 : Int32) (l2 : Int32) (v : Int32) : Option ((Int32) ⊕ (Int32)) :=
  if M_roads ≤ v then (some (.inr (1 : Int32))) else (if ((l1 >>> (v &&& (31 : Int32))) &&& (1 : Int32)) = (1 : Int32) then (rd M_only 24 v (fun x2 => if ((x2 >>> (l2 &&& (31 : Int32))) &&& (1 : Int32)) = (0 : Int32) then (some (.inr (0 : Int32))) else (rd M_touching 24 v (fun x3 => if (x3 &&& l1) = (0 : Int32) then (bnd (v + (1 : Int32)) (fun x4 => some (.inl x4))) else (some (.inr (0 : Int32))))))) else (bnd (v + (1 : Int32)) (fun x1 => some (.inl x1))))
noncomputable def FX8_mayHave (M_roads : Int32) (M_touching : Nat → Int32) (M_only : Nat → Int32) (a1 : Int32) (a2 : Int32) : Option (Int32) :=
  loopO (X8_mayHave_L2 M_roads M_touching M_only a1 a2) (0 : Int32)
abbrev GX8_mayHave (p : Program) (l : Launch) (e : Env) (s : State) (m : MethodId) (below : List Frame) (meth : Method) (c : Code) (D : va_G) (cI cJ cZ : ClassId) (m0 m1 m2 m3 m4 m5 m6 m7 m8 m9 m10 m11 m12 m13 : Nat) (M_posts : Int32) (M_roads : Int32) (M_size : Int32) (M_rows : Int32) (M_nextRows : Int32) (M_first : Nat → Int32) (M_second : Nat → Int32) (M_number : Nat → Int32) (M_lists : Nat → Int32) (M_square : Nat → Int32) (M_fan : Nat → Int32) (M_trial : Nat → Int32) (M_touching : Nat → Int32) (M_having : Nat → Int32) (M_most : Nat → Int32) (M_only : Nat → Int32) (M_can : Nat → Int32) (M_next : Nat → Int32) (a1 : Int32) (a2 : Int32) (out : Int32) (H : Heap) (locs : List Loc) (g : JFrame) : Prop := W p l e (headSpec (Cond.code yX8_mayHave cX8_mayHave 4 (some .boolean) :: GW) { frames := 0, cells := 0, slots := 0, locals := 0 }).room s m ([.ref m0, .int a1, .int a2] : List Value).toArray below meth c H locs 0 0 (MQ below (va_Qi (fun r (_ : Unit) => r = out) (BW D (wM cI cJ cZ m0 m1 m2 m3 m4 m5 m6 m7 m8 m9 m10 m11 m12 m13 M_posts M_roads M_size M_rows M_nextRows M_first M_second M_number M_lists M_square M_fan M_trial M_touching M_having M_most M_only M_can M_next) s.heap.size (fun _ => (wM cI cJ cZ m0 m1 m2 m3 m4 m5 m6 m7 m8 m9 m10 m11 m12 m13 M_posts M_roads M_size M_rows M_nextRows M_first M_second M_number M_lists M_square M_fan M_trial M_touching M_having M_most M_only M_can M_next))) (va_A (wM cI cJ cZ m0 m1 m2 m3 m4 m5 m6 m7 m8 m9 m10 m11 m12 m13 M_posts M_roads M_size M_rows M_nextRows M_first M_second M_number M_lists M_square M_fan M_trial M_touching M_having M_most M_only M_can M_next) s.heap.size)) ([.ref m0, .int a1, .int a2] : List Value).toArray s 0 0 (va_A (wM cI cJ cZ m0 m1 m2 m3 m4 m5 m6 m7 m8 m9 m10 m11 m12 m13 M_posts M_roads M_size M_rows M_nextRows M_first M_second M_number M_lists M_square M_fan M_trial M_touching M_having M_most M_only M_can M_next) s.heap.size)) g
theorem kvX8_mayHave : CalV RX8 yX8_mayHave cX8_mayHave 4 (some .boolean) 2 := ⟨wC_yX8_mayHave, wM_yX8_mayHave, wS_yX8_mayHave, wI_RX8, by decide +kernel⟩
set_option maxHeartbeats 4000000 in
set_option maxRecDepth 100000 in
theorem kX8_mayHave (l : Launch) (D : va_G) (cI cJ cZ : ClassId) (m0 m1 m2 m3 m4 m5 m6 m7 m8 m9 m10 m11 m12 m13 : Nat) (M_posts : Int32) (M_roads : Int32) (M_size : Int32) (M_rows : Int32) (M_nextRows : Int32) (M_first : Nat → Int32) (M_second : Nat → Int32) (M_number : Nat → Int32) (M_lists : Nat → Int32) (M_square : Nat → Int32) (M_fan : Nat → Int32) (M_trial : Nat → Int32) (M_touching : Nat → Int32) (M_having : Nat → Int32) (M_most : Nat → Int32) (M_only : Nat → Int32) (M_can : Nat → Int32) (M_next : Nat → Int32) (a1 : Int32) (a2 : Int32) (out : Int32) (hf : FX8_mayHave M_roads M_touching M_only a1 a2 = some out) : MI l yX8_mayHave (Cond.code yX8_mayHave cX8_mayHave 4 (some .boolean) :: GW) { frames := 0, cells := 0, slots := 0, locals := 0 } D cI cJ cZ [.ref m0, .int a1, .int a2] (wM cI cJ cZ m0 m1 m2 m3 m4 m5 m6 m7 m8 m9 m10 m11 m12 m13 M_posts M_roads M_size M_rows M_nextRows M_first M_second M_number M_lists M_square M_fan M_trial M_touching M_having M_most M_only M_can M_next) (fun r (_ : Unit) => r = out) (fun _ => (wM cI cJ cZ m0 m1 m2 m3 m4 m5 m6 m7 m8 m9 m10 m11 m12 m13 M_posts M_roads M_size M_rows M_nextRows M_first M_second M_number M_lists M_square M_fan M_trial M_touching M_having M_most M_only M_can M_next)) := by
  intro sz
  refine Met.ofW (cc := cX8_mayHave) (maxL := 4) (ret := (some .boolean)) (by decide +kernel) rfl ?_
  intro p e s m args below meth c s₁ B hml hv
  obtain ⟨rfl, hsz, hP, hK, hD0⟩ := hv
  have hx := B.exec
  have hb := B.bytes
  have hr := B.returns
  have hlocks := B.notSynchronized
  have hg : ∀ w ∈ GW, w.before _ s = true := fun w h => atoms_spec (ws := Cond.code yX8_mayHave cX8_mayHave 4 (some .boolean) :: GW) B.pre w (List.mem_cons_of_mem _ h)
  have hown : s.vm.findClass RX8 = some m.cls := findClass_of_methodNamed B.named
  subst hsz
  obtain ⟨A, hAe⟩ : ∃ A, A = va_A (wM cI cJ cZ m0 m1 m2 m3 m4 m5 m6 m7 m8 m9 m10 m11 m12 m13 M_posts M_roads M_size M_rows M_nextRows M_first M_second M_number M_lists M_square M_fan M_trial M_touching M_having M_most M_only M_can M_next) s.heap.size := ⟨_, rfl⟩
  have hA : ∀ q : Nat, s.heap.size ≤ q → A q := fun q h => by rw [hAe]; exact Or.inr h
  have hI : WI D A s.heap (wM cI cJ cZ m0 m1 m2 m3 m4 m5 m6 m7 m8 m9 m10 m11 m12 m13 M_posts M_roads M_size M_rows M_nextRows M_first M_second M_number M_lists M_square M_fan M_trial M_touching M_having M_most M_only M_can M_next) s.heap [] := ⟨hP, by rw [hAe]; exact hD0.self, va_S.rf⟩
  have hl := lv_entry [.ref m0, .int a1, .int a2] (n := 4) (Nat.le_of_ble_eq_true rfl)
  rw [lg_entry_eq]
  generalize (lg_sl [.ref m0, .int a1, .int a2] ++ List.replicate (4 - (lg_sl [.ref m0, .int a1, .int a2]).length) Slot.unset).toArray = ls at hl ⊢
  replace hl : lv_has ls 4 [(0, .ref m0), (1, .int a1), (2, .int a2)] := hl
  have L2 : ∀ (l1 : Int32) (l2 : Int32), ∀ (v : Int32) (x : Int32), loopO (X8_mayHave_L2 M_roads M_touching M_only l1 l2) v = some x → (fun z : Int32 => z = out) x → (fun (v : Int32) => ∀ (H : Heap) (locs : List Loc) (ls : Array Slot), WI D A s.heap (wM cI cJ cZ m0 m1 m2 m3 m4 m5 m6 m7 m8 m9 m10 m11 m12 m13 M_posts M_roads M_size M_rows M_nextRows M_first M_second M_number M_lists M_square M_fan M_trial M_touching M_having M_most M_only M_can M_next) H locs → lv_has ls 4 [(0, .ref m0), (1, .int l1), (2, .int l2), (3, .int v)] → GX8_mayHave p l e s m below meth c D cI cJ cZ m0 m1 m2 m3 m4 m5 m6 m7 m8 m9 m10 m11 m12 m13 M_posts M_roads M_size M_rows M_nextRows M_first M_second M_number M_lists M_square M_fan M_trial M_touching M_having M_most M_only M_can M_next a1 a2 out H locs (F0 m 2 ls [])) v := by
    intro l1 l2
    refine loopO_ind (fun (v : Int32) => ∀ (H : Heap) (locs : List Loc) (ls : Array Slot), WI D A s.heap (wM cI cJ cZ m0 m1 m2 m3 m4 m5 m6 m7 m8 m9 m10 m11 m12 m13 M_posts M_roads M_size M_rows M_nextRows M_first M_second M_number M_lists M_square M_fan M_trial M_touching M_having M_most M_only M_can M_next) H locs → lv_has ls 4 [(0, .ref m0), (1, .int l1), (2, .int l2), (3, .int v)] → GX8_mayHave p l e s m below meth c D cI cJ cZ m0 m1 m2 m3 m4 m5 m6 m7 m8 m9 m10 m11 m12 m13 M_posts M_roads M_size M_rows M_nextRows M_first M_second M_number M_lists M_square M_fan M_trial M_touching M_having M_most M_only M_can M_next a1 a2 out H locs (F0 m 2 ls [])) (fun z : Int32 => z = out) ?_
    intro v x hf hM H locs ls hI hl
    refine lv_iload_n hx hb dX8_mayHave_2 rfl (lv_at hl 3 rfl) ?_
    refine lv_aload_n hx hb dX8_mayHave_3 rfl (lv_at hl 0 rfl) ?_
    refine w_get hx hb hg hown hK hI iX8 0 rfl rfl 1 (by decide) wF_RX8_57 rfl dX8_mayHave_4 ?_
    refine lv_icmp_ge (tgt := 51) hx hb dX8_mayHave_7 (by decide) (fun hc => ?_) (fun hc => ?_)
    · replace hf := ite_t hc hf
      refine lv_iconst (v := 1) hx hb dX8_mayHave_51 (by decide) ?_
      replace hf := Option.some.inj hf
      subst hf
      replace hM : (1 : Int32) = out := hM
      subst hM
      exact rt_i (u := ()) hx hb hr hlocks (by decide) hI hAe rfl dX8_mayHave_52
    · replace hf := ite_f hc hf
      refine lv_iload_n hx hb dX8_mayHave_10 rfl (lv_at hl 1 rfl) ?_
      refine lv_iload_n hx hb dX8_mayHave_11 rfl (lv_at hl 3 rfl) ?_
      refine lv_ishr hx hb dX8_mayHave_12 ?_
      refine lv_iconst (v := 1) hx hb dX8_mayHave_13 (by decide) ?_
      refine lv_iand hx hb dX8_mayHave_14 ?_
      refine lv_iconst (v := 1) hx hb dX8_mayHave_15 (by decide) ?_
      refine lv_icmp_ne (tgt := 45) hx hb dX8_mayHave_16 (by decide) (fun hc => ?_) (fun hc => ?_)
      · replace hf := ite_f hc hf
        obtain ⟨x1, ex1⟩ : ∃ y : Int32, y = (v + (1 : Int32)) := ⟨_, rfl⟩
        replace hf := bnd_e hf x1 ex1
        refine lv_iinc (v := x1) (lv' := [(3, .int x1), (0, .ref m0), (1, .int l1), (2, .int l2)]) hx hb dX8_mayHave_45 hl (k := 3) rfl (by rw [ex1]; rfl) (by decide) rfl (fun ls hl => ?_)
        refine lv_goto (tgt := 2) hx hb dX8_mayHave_48 (by decide) ?_
        replace hf := Option.some.inj hf
        subst hf
        exact hM _ _ _ hI (lv_sub hl [1, 2, 3, 0] rfl)
      · replace hf := ite_t hc hf
        refine lv_aload_n hx hb dX8_mayHave_19 rfl (lv_at hl 0 rfl) ?_
        refine w_get hx hb hg hown hK hI iX8 0 rfl rfl 15 (by decide) wF_RX8_47 rfl dX8_mayHave_20 ?_
        refine lv_iload_n hx hb dX8_mayHave_23 rfl (lv_at hl 3 rfl) ?_
        obtain ⟨hin, hf⟩ := rd_e hf
        refine w_iald hx hb hK hI 11 rfl hin dX8_mayHave_24 (fun x2 ex2 => ?_)
        replace hf := hf x2 ex2
        refine lv_iload_n hx hb dX8_mayHave_25 rfl (lv_at hl 2 rfl) ?_
        refine lv_ishr hx hb dX8_mayHave_26 ?_
        refine lv_iconst (v := 1) hx hb dX8_mayHave_27 (by decide) ?_
        refine lv_iand hx hb dX8_mayHave_28 ?_
        refine lv_if_eq (tgt := 43) hx hb dX8_mayHave_29 (by decide) (fun hc => ?_) (fun hc => ?_)
        · replace hf := ite_t hc hf
          refine lv_iconst (v := 0) hx hb dX8_mayHave_43 (by decide) ?_
          replace hf := Option.some.inj hf
          subst hf
          replace hM : (0 : Int32) = out := hM
          subst hM
          exact rt_i (u := ()) hx hb hr hlocks (by decide) hI hAe rfl dX8_mayHave_44
        · replace hf := ite_f hc hf
          refine lv_aload_n hx hb dX8_mayHave_32 rfl (lv_at hl 0 rfl) ?_
          refine w_get hx hb hg hown hK hI iX8 0 rfl rfl 12 (by decide) wF_RX8_38 rfl dX8_mayHave_33 ?_
          refine lv_iload_n hx hb dX8_mayHave_36 rfl (lv_at hl 3 rfl) ?_
          obtain ⟨hin, hf⟩ := rd_e hf
          refine w_iald hx hb hK hI 8 rfl hin dX8_mayHave_37 (fun x3 ex3 => ?_)
          replace hf := hf x3 ex3
          refine lv_iload_n hx hb dX8_mayHave_38 rfl (lv_at hl 1 rfl) ?_
          refine lv_iand hx hb dX8_mayHave_39 ?_
          refine lv_if_eq (tgt := 45) hx hb dX8_mayHave_40 (by decide) (fun hc => ?_) (fun hc => ?_)
          · replace hf := ite_t hc hf
            obtain ⟨x4, ex4⟩ : ∃ y : Int32, y = (v + (1 : Int32)) := ⟨_, rfl⟩
            replace hf := bnd_e hf x4 ex4
            refine lv_iinc (v := x4) (lv' := [(3, .int x4), (0, .ref m0), (1, .int l1), (2, .int l2)]) hx hb dX8_mayHave_45 hl (k := 3) rfl (by rw [ex4]; rfl) (by decide) rfl (fun ls hl => ?_)
            refine lv_goto (tgt := 2) hx hb dX8_mayHave_48 (by decide) ?_
            replace hf := Option.some.inj hf
            subst hf
            exact hM _ _ _ hI (lv_sub hl [1, 2, 3, 0] rfl)
          · replace hf := ite_f hc hf
            refine lv_iconst (v := 0) hx hb dX8_mayHave_43 (by decide) ?_
            replace hf := Option.some.inj hf
            subst hf
            replace hM : (0 : Int32) = out := hM
            subst hM
            exact rt_i (u := ()) hx hb hr hlocks (by decide) hI hAe rfl dX8_mayHave_44
  obtain ⟨x, hf, hM⟩ : ∃ x, FX8_mayHave M_roads M_touching M_only a1 a2 = some x ∧ x = out := ⟨out, hf, rfl⟩
  refine lv_iconst (v := 0) hx hb dX8_mayHave_0 (by decide) ?_
  refine lv_istore_n (lv' := [(3, .int (0 : Int32)), (0, .ref m0), (1, .int a1), (2, .int a2)]) hx hb dX8_mayHave_1 rfl hl (by decide) rfl (fun ls hl => ?_)
  exact L2 a1 a2 (0 : Int32) _ hf hM _ _ _ hI (lv_sub hl [1, 2, 3, 0] rfl)
noncomputable def X8_allCan_J128 (M_roads : Int32) (M_touching : Nat → Int32) (M_only : Nat → Int32) (M_can : Nat → Int32) (l1 : Int32) (l2 : Int32) (l3 : Int32) (l4 : Int32) : Option (((Nat → Int32) × Int32) ⊕ (((Nat → Int32) × Int32) ⊕ (Int32 × (Nat → Int32)))) :=
  wr M_can 4352 (((256 : Int32) * l2) + l3) (vp_nar .boolean l4) (fun g4 => bnd (l3 + (1 : Int32)) (fun x5 => some (.inl (g4, x5))))
noncomputable def X8_allCan_J106 (M_roads : Int32) (M_touching : Nat → Int32) (M_only : Nat → Int32) (M_can : Nat → Int32) (l1 : Int32) (l2 : Int32) (l3 : Int32) (l5 : Int32) (s0 : Int32) : Option ((Int32 × Int32) ⊕ (((Nat → Int32) × Int32) ⊕ (((Nat → Int32) × Int32) ⊕ (Int32 × (Nat → Int32))))) :=
  if l5 = (0 : Int32) then (some (.inl (s0, (-1 : Int32)))) else (bnd ((l5 - (1 : Int32)) &&& l3) (fun x7 => some (.inl (s0, x7))))
noncomputable def X8_allCan_J105 (M_roads : Int32) (M_touching : Nat → Int32) (M_only : Nat → Int32) (M_can : Nat → Int32) (l1 : Int32) (l2 : Int32) (l3 : Int32) (l5 : Int32) : Option ((Int32 × Int32) ⊕ (((Nat → Int32) × Int32) ⊕ (((Nat → Int32) × Int32) ⊕ (Int32 × (Nat → Int32))))) :=
  X8_allCan_J106 M_roads M_touching M_only M_can l1 l2 l3 l5 (0 : Int32)
noncomputable def X8_allCan_L59 (M_roads : Int32) (M_touching : Nat → Int32) (M_only : Nat → Int32) (M_can : Nat → Int32) (l1 : Int32) (l2 : Int32) (l3 : Int32) (v : Int32 × Int32) : Option ((Int32 × Int32) ⊕ (((Nat → Int32) × Int32) ⊕ (((Nat → Int32) × Int32) ⊕ (Int32 × (Nat → Int32))))) :=
  if v.2 < (0 : Int32) then ((X8_allCan_J128 M_roads M_touching M_only M_can l1 l2 l3 v.1).map (fun z => (.inr z))) else (if v.1 = (0 : Int32) then (rd M_can 4352 (((256 : Int32) * (l2 + (1 : Int32))) + (l3 &&& (v.2 ^^^ (-1 : Int32)))) (fun x6 => if x6 = (0 : Int32) then (X8_allCan_J105 M_roads M_touching M_only M_can l1 l2 l3 v.2) else ((FX8_mayHave M_roads M_touching M_only v.2 l2).bind (fun o8 => if o8 = (0 : Int32) then (X8_allCan_J105 M_roads M_touching M_only M_can l1 l2 l3 v.2) else (X8_allCan_J106 M_roads M_touching M_only M_can l1 l2 l3 v.2 (1 : Int32)))))) else ((X8_allCan_J128 M_roads M_touching M_only M_can l1 l2 l3 v.1).map (fun z => (.inr z))))
noncomputable def X8_allCan_L48 (M_roads : Int32) (M_touching : Nat → Int32) (M_only : Nat → Int32) (l1 : Int32) (l2 : Int32) (v : (Nat → Int32) × Int32) : Option (((Nat → Int32) × Int32) ⊕ (((Nat → Int32) × Int32) ⊕ (Int32 × (Nat → Int32)))) :=
  if l1 ≤ v.2 then (bnd (l2 + (-1 : Int32)) (fun x3 => some (.inr (.inl (v.1, x3))))) else (loopO (X8_allCan_L59 M_roads M_touching M_only v.1 l1 l2 v.2) ((0 : Int32), v.2))
noncomputable def X8_allCan_L42 (M_roads : Int32) (M_touching : Nat → Int32) (M_only : Nat → Int32) (l1 : Int32) (v : (Nat → Int32) × Int32) : Option (((Nat → Int32) × Int32) ⊕ (Int32 × (Nat → Int32))) :=
  if v.2 < (0 : Int32) then (rd v.1 4352 (l1 - (1 : Int32)) (fun x2 => if x2 = (0 : Int32) ∨ x2 = (1 : Int32) then (some (.inr (x2, v.1))) else none)) else (loopO (X8_allCan_L48 M_roads M_touching M_only l1 v.2) (v.1, (0 : Int32)))
noncomputable def X8_allCan_J32 (M_roads : Int32) (M_touching : Nat → Int32) (M_only : Nat → Int32) (M_can : Nat → Int32) (l1 : Int32) (l2 : Int32) (s1 : Int32) (s2 : Int32) : Option (((Nat → Int32) × Int32) ⊕ (Int32 × (Nat → Int32))) :=
  wr M_can 4352 s1 (vp_nar .boolean s2) (fun g9 => bnd (l2 + (1 : Int32)) (fun x10 => some (.inl (g9, x10))))
noncomputable def X8_allCan_L9 (M_roads : Int32) (M_touching : Nat → Int32) (M_only : Nat → Int32) (l1 : Int32) (v : (Nat → Int32) × Int32) : Option (((Nat → Int32) × Int32) ⊕ (Int32 × (Nat → Int32))) :=
  if l1 ≤ v.2 then ((loopO (X8_allCan_L42 M_roads M_touching M_only l1) (v.1, (15 : Int32))).map (fun z => (.inr z))) else (if v.2 = (0 : Int32) then (X8_allCan_J32 M_roads M_touching M_only v.1 l1 v.2 ((4096 : Int32) + v.2) (1 : Int32)) else (X8_allCan_J32 M_roads M_touching M_only v.1 l1 v.2 ((4096 : Int32) + v.2) (0 : Int32)))
noncomputable def FX8_allCan (M_roads : Int32) (M_touching : Nat → Int32) (M_only : Nat → Int32) (M_can_0 : Nat → Int32)  : Option (Int32 × (Nat → Int32)) :=
  bnd ((1 : Int32) <<< (M_roads &&& (31 : Int32))) (fun x1 => loopO (X8_allCan_L9 M_roads M_touching M_only x1) (M_can_0, (0 : Int32)))
abbrev GX8_allCan (p : Program) (l : Launch) (e : Env) (s : State) (m : MethodId) (below : List Frame) (meth : Method) (c : Code) (D : va_G) (cI cJ cZ : ClassId) (m0 m1 m2 m3 m4 m5 m6 m7 m8 m9 m10 m11 m12 m13 : Nat) (M_posts : Int32) (M_roads : Int32) (M_size : Int32) (M_rows : Int32) (M_nextRows : Int32) (M_first : Nat → Int32) (M_second : Nat → Int32) (M_number : Nat → Int32) (M_lists : Nat → Int32) (M_square : Nat → Int32) (M_fan : Nat → Int32) (M_trial : Nat → Int32) (M_touching : Nat → Int32) (M_having : Nat → Int32) (M_most : Nat → Int32) (M_only : Nat → Int32) (M_can_0 : Nat → Int32) (M_next : Nat → Int32)  (out : Int32 × (Nat → Int32)) (H : Heap) (locs : List Loc) (g : JFrame) : Prop := W p l e (headSpec (Cond.code yX8_allCan cX8_allCan 6 (some .boolean) :: GW) { frames := 1, cells := 0, slots := 0, locals := 23 }).room s m ([.ref m0] : List Value).toArray below meth c H locs 0 0 (MQ below (va_Qi (fun r (_ : Unit) => r = out.1) (BW D (wM cI cJ cZ m0 m1 m2 m3 m4 m5 m6 m7 m8 m9 m10 m11 m12 m13 M_posts M_roads M_size M_rows M_nextRows M_first M_second M_number M_lists M_square M_fan M_trial M_touching M_having M_most M_only M_can_0 M_next) s.heap.size (fun _ => (wM cI cJ cZ m0 m1 m2 m3 m4 m5 m6 m7 m8 m9 m10 m11 m12 m13 M_posts M_roads M_size M_rows M_nextRows M_first M_second M_number M_lists M_square M_fan M_trial M_touching M_having M_most M_only out.2 M_next))) (va_A (wM cI cJ cZ m0 m1 m2 m3 m4 m5 m6 m7 m8 m9 m10 m11 m12 m13 M_posts M_roads M_size M_rows M_nextRows M_first M_second M_number M_lists M_square M_fan M_trial M_touching M_having M_most M_only M_can_0 M_next) s.heap.size)) ([.ref m0] : List Value).toArray s 0 0 (va_A (wM cI cJ cZ m0 m1 m2 m3 m4 m5 m6 m7 m8 m9 m10 m11 m12 m13 M_posts M_roads M_size M_rows M_nextRows M_first M_second M_number M_lists M_square M_fan M_trial M_touching M_having M_most M_only M_can_0 M_next) s.heap.size)) g
theorem kvX8_allCan : CalV RX8 yX8_allCan cX8_allCan 6 (some .boolean) 0 := ⟨wC_yX8_allCan, wM_yX8_allCan, wS_yX8_allCan, wI_RX8, by decide +kernel⟩
set_option maxHeartbeats 4000000 in
set_option maxRecDepth 100000 in
theorem kX8_allCan (l : Launch) (D : va_G) (cI cJ cZ : ClassId) (m0 m1 m2 m3 m4 m5 m6 m7 m8 m9 m10 m11 m12 m13 : Nat) (M_posts : Int32) (M_roads : Int32) (M_size : Int32) (M_rows : Int32) (M_nextRows : Int32) (M_first : Nat → Int32) (M_second : Nat → Int32) (M_number : Nat → Int32) (M_lists : Nat → Int32) (M_square : Nat → Int32) (M_fan : Nat → Int32) (M_trial : Nat → Int32) (M_touching : Nat → Int32) (M_having : Nat → Int32) (M_most : Nat → Int32) (M_only : Nat → Int32) (M_can_0 : Nat → Int32) (M_next : Nat → Int32)  (out : Int32 × (Nat → Int32)) (hf : FX8_allCan M_roads M_touching M_only M_can_0 = some out) : MI l yX8_allCan (Cond.code yX8_allCan cX8_allCan 6 (some .boolean) :: GW) { frames := 1, cells := 0, slots := 0, locals := 23 } D cI cJ cZ [.ref m0] (wM cI cJ cZ m0 m1 m2 m3 m4 m5 m6 m7 m8 m9 m10 m11 m12 m13 M_posts M_roads M_size M_rows M_nextRows M_first M_second M_number M_lists M_square M_fan M_trial M_touching M_having M_most M_only M_can_0 M_next) (fun r (_ : Unit) => r = out.1) (fun _ => (wM cI cJ cZ m0 m1 m2 m3 m4 m5 m6 m7 m8 m9 m10 m11 m12 m13 M_posts M_roads M_size M_rows M_nextRows M_first M_second M_number M_lists M_square M_fan M_trial M_touching M_having M_most M_only out.2 M_next)) := by
  intro sz
  refine Met.ofW (cc := cX8_allCan) (maxL := 6) (ret := (some .boolean)) (by decide +kernel) rfl ?_
  intro p e s m args below meth c s₁ B hml hv
  obtain ⟨rfl, hsz, hP, hK, hD0⟩ := hv
  have hx := B.exec
  have hb := B.bytes
  have hr := B.returns
  have hlocks := B.notSynchronized
  have hg : ∀ w ∈ GW, w.before _ s = true := fun w h => atoms_spec (ws := Cond.code yX8_allCan cX8_allCan 6 (some .boolean) :: GW) B.pre w (List.mem_cons_of_mem _ h)
  have hown : s.vm.findClass RX8 = some m.cls := findClass_of_methodNamed B.named
  subst hsz
  obtain ⟨A, hAe⟩ : ∃ A, A = va_A (wM cI cJ cZ m0 m1 m2 m3 m4 m5 m6 m7 m8 m9 m10 m11 m12 m13 M_posts M_roads M_size M_rows M_nextRows M_first M_second M_number M_lists M_square M_fan M_trial M_touching M_having M_most M_only M_can_0 M_next) s.heap.size := ⟨_, rfl⟩
  have hA : ∀ q : Nat, s.heap.size ≤ q → A q := fun q h => by rw [hAe]; exact Or.inr h
  have hI : WI D A s.heap (wM cI cJ cZ m0 m1 m2 m3 m4 m5 m6 m7 m8 m9 m10 m11 m12 m13 M_posts M_roads M_size M_rows M_nextRows M_first M_second M_number M_lists M_square M_fan M_trial M_touching M_having M_most M_only M_can_0 M_next) s.heap [] := ⟨hP, by rw [hAe]; exact hD0.self, va_S.rf⟩
  have hl := lv_entry [.ref m0] (n := 6) (Nat.le_of_ble_eq_true rfl)
  rw [lg_entry_eq]
  generalize (lg_sl [.ref m0] ++ List.replicate (6 - (lg_sl [.ref m0]).length) Slot.unset).toArray = ls at hl ⊢
  replace hl : lv_has ls 6 [(0, .ref m0)] := hl
  have J128 : ∀ (M_can : Nat → Int32) (l1 : Int32) (l2 : Int32) (l3 : Int32) (l4 : Int32) (x : ((Nat → Int32) × Int32) ⊕ (((Nat → Int32) × Int32) ⊕ (Int32 × (Nat → Int32)))), X8_allCan_J128 M_roads M_touching M_only M_can l1 l2 l3 l4 = some x → (fun z => Sum.elim (fun (v2 : (Nat → Int32) × Int32) => ∀ (H : Heap) (locs : List Loc) (ls : Array Slot), WI D A s.heap (wM cI cJ cZ m0 m1 m2 m3 m4 m5 m6 m7 m8 m9 m10 m11 m12 m13 M_posts M_roads M_size M_rows M_nextRows M_first M_second M_number M_lists M_square M_fan M_trial M_touching M_having M_most M_only v2.1 M_next) H locs → lv_has ls 6 [(0, .ref m0), (1, .int l1), (2, .int l2), (3, .int v2.2)] → GX8_allCan p l e s m below meth c D cI cJ cZ m0 m1 m2 m3 m4 m5 m6 m7 m8 m9 m10 m11 m12 m13 M_posts M_roads M_size M_rows M_nextRows M_first M_second M_number M_lists M_square M_fan M_trial M_touching M_having M_most M_only M_can_0 M_next  out H locs (F0 m 48 ls [])) (fun z => Sum.elim (fun (v1 : (Nat → Int32) × Int32) => ∀ (H : Heap) (locs : List Loc) (ls : Array Slot), WI D A s.heap (wM cI cJ cZ m0 m1 m2 m3 m4 m5 m6 m7 m8 m9 m10 m11 m12 m13 M_posts M_roads M_size M_rows M_nextRows M_first M_second M_number M_lists M_square M_fan M_trial M_touching M_having M_most M_only v1.1 M_next) H locs → lv_has ls 6 [(0, .ref m0), (1, .int l1), (2, .int v1.2)] → GX8_allCan p l e s m below meth c D cI cJ cZ m0 m1 m2 m3 m4 m5 m6 m7 m8 m9 m10 m11 m12 m13 M_posts M_roads M_size M_rows M_nextRows M_first M_second M_number M_lists M_square M_fan M_trial M_touching M_having M_most M_only M_can_0 M_next  out H locs (F0 m 42 ls [])) (fun z : Int32 × (Nat → Int32) => z = out) z) z) x → ∀ (H : Heap) (locs : List Loc) (ls : Array Slot), WI D A s.heap (wM cI cJ cZ m0 m1 m2 m3 m4 m5 m6 m7 m8 m9 m10 m11 m12 m13 M_posts M_roads M_size M_rows M_nextRows M_first M_second M_number M_lists M_square M_fan M_trial M_touching M_having M_most M_only M_can M_next) H locs → lv_has ls 6 [(0, .ref m0), (1, .int l1), (2, .int l2), (3, .int l3), (4, .int l4)] → GX8_allCan p l e s m below meth c D cI cJ cZ m0 m1 m2 m3 m4 m5 m6 m7 m8 m9 m10 m11 m12 m13 M_posts M_roads M_size M_rows M_nextRows M_first M_second M_number M_lists M_square M_fan M_trial M_touching M_having M_most M_only M_can_0 M_next  out H locs (F0 m 128 ls []) := by
    intro M_can l1 l2 l3 l4 x hf hM H locs ls hI hl
    refine lv_aload_n hx hb dX8_allCan_128 rfl (lv_at hl 0 rfl) ?_
    refine w_get hx hb hg hown hK hI iX8 0 rfl rfl 16 (by decide) wF_RX8_50 rfl dX8_allCan_129 ?_
    refine lv_sipush (v := 256) hx hb dX8_allCan_132 (by decide) ?_
    refine lv_iload_n hx hb dX8_allCan_135 rfl (lv_at hl 2 rfl) ?_
    refine lv_imul hx hb dX8_allCan_136 ?_
    refine lv_iload_n hx hb dX8_allCan_137 rfl (lv_at hl 3 rfl) ?_
    refine lv_iadd hx hb dX8_allCan_138 ?_
    refine lv_iload hx hb dX8_allCan_139 (lv_at hl 4 rfl) ?_
    obtain ⟨hin, hf⟩ := wr_e hf
    obtain ⟨g4, eg4⟩ : ∃ g : Nat → Int32, g = upd M_can ((((256 : Int32) * l2) + l3)).toNatClampNeg (vp_nar .boolean l4) := ⟨_, rfl⟩
    replace hf := hf g4 eg4
    refine w_zast (g := g4) (W1 := (wM cI cJ cZ m0 m1 m2 m3 m4 m5 m6 m7 m8 m9 m10 m11 m12 m13 M_posts M_roads M_size M_rows M_nextRows M_first M_second M_number M_lists M_square M_fan M_trial M_touching M_having M_most M_only g4 M_next)) hx hb hK hI 12 rfl hin eg4 dX8_allCan_141 rfl (fun H locs hI => ?_)
    obtain ⟨x5, ex5⟩ : ∃ y : Int32, y = (l3 + (1 : Int32)) := ⟨_, rfl⟩
    replace hf := bnd_e hf x5 ex5
    refine lv_iinc (v := x5) (lv' := [(3, .int x5), (0, .ref m0), (1, .int l1), (2, .int l2), (4, .int l4)]) hx hb dX8_allCan_142 hl (k := 3) rfl (by rw [ex5]; rfl) (by decide) rfl (fun ls hl => ?_)
    refine lv_goto (tgt := 48) hx hb dX8_allCan_145 (by decide) ?_
    replace hf := Option.some.inj hf
    subst hf
    exact hM _ _ _ hI (lv_sub hl [1, 2, 3, 0] rfl)
  have J106 : ∀ (M_can : Nat → Int32) (l1 : Int32) (l2 : Int32) (l3 : Int32) (l5 : Int32) (s0 : Int32) (x : (Int32 × Int32) ⊕ (((Nat → Int32) × Int32) ⊕ (((Nat → Int32) × Int32) ⊕ (Int32 × (Nat → Int32))))), X8_allCan_J106 M_roads M_touching M_only M_can l1 l2 l3 l5 s0 = some x → (fun z => Sum.elim (fun (v3 : Int32 × Int32) => ∀ (H : Heap) (locs : List Loc) (ls : Array Slot), WI D A s.heap (wM cI cJ cZ m0 m1 m2 m3 m4 m5 m6 m7 m8 m9 m10 m11 m12 m13 M_posts M_roads M_size M_rows M_nextRows M_first M_second M_number M_lists M_square M_fan M_trial M_touching M_having M_most M_only M_can M_next) H locs → lv_has ls 6 [(0, .ref m0), (1, .int l1), (2, .int l2), (3, .int l3), (4, .int v3.1), (5, .int v3.2)] → GX8_allCan p l e s m below meth c D cI cJ cZ m0 m1 m2 m3 m4 m5 m6 m7 m8 m9 m10 m11 m12 m13 M_posts M_roads M_size M_rows M_nextRows M_first M_second M_number M_lists M_square M_fan M_trial M_touching M_having M_most M_only M_can_0 M_next  out H locs (F0 m 59 ls [])) (fun z => Sum.elim (fun (v2 : (Nat → Int32) × Int32) => ∀ (H : Heap) (locs : List Loc) (ls : Array Slot), WI D A s.heap (wM cI cJ cZ m0 m1 m2 m3 m4 m5 m6 m7 m8 m9 m10 m11 m12 m13 M_posts M_roads M_size M_rows M_nextRows M_first M_second M_number M_lists M_square M_fan M_trial M_touching M_having M_most M_only v2.1 M_next) H locs → lv_has ls 6 [(0, .ref m0), (1, .int l1), (2, .int l2), (3, .int v2.2)] → GX8_allCan p l e s m below meth c D cI cJ cZ m0 m1 m2 m3 m4 m5 m6 m7 m8 m9 m10 m11 m12 m13 M_posts M_roads M_size M_rows M_nextRows M_first M_second M_number M_lists M_square M_fan M_trial M_touching M_having M_most M_only M_can_0 M_next  out H locs (F0 m 48 ls [])) (fun z => Sum.elim (fun (v1 : (Nat → Int32) × Int32) => ∀ (H : Heap) (locs : List Loc) (ls : Array Slot), WI D A s.heap (wM cI cJ cZ m0 m1 m2 m3 m4 m5 m6 m7 m8 m9 m10 m11 m12 m13 M_posts M_roads M_size M_rows M_nextRows M_first M_second M_number M_lists M_square M_fan M_trial M_touching M_having M_most M_only v1.1 M_next) H locs → lv_has ls 6 [(0, .ref m0), (1, .int l1), (2, .int v1.2)] → GX8_allCan p l e s m below meth c D cI cJ cZ m0 m1 m2 m3 m4 m5 m6 m7 m8 m9 m10 m11 m12 m13 M_posts M_roads M_size M_rows M_nextRows M_first M_second M_number M_lists M_square M_fan M_trial M_touching M_having M_most M_only M_can_0 M_next  out H locs (F0 m 42 ls [])) (fun z : Int32 × (Nat → Int32) => z = out) z) z) z) x → ∀ (H : Heap) (locs : List Loc) (ls : Array Slot), WI D A s.heap (wM cI cJ cZ m0 m1 m2 m3 m4 m5 m6 m7 m8 m9 m10 m11 m12 m13 M_posts M_roads M_size M_rows M_nextRows M_first M_second M_number M_lists M_square M_fan M_trial M_touching M_having M_most M_only M_can M_next) H locs → lv_has ls 6 [(0, .ref m0), (1, .int l1), (2, .int l2), (3, .int l3), (5, .int l5)] → GX8_allCan p l e s m below meth c D cI cJ cZ m0 m1 m2 m3 m4 m5 m6 m7 m8 m9 m10 m11 m12 m13 M_posts M_roads M_size M_rows M_nextRows M_first M_second M_number M_lists M_square M_fan M_trial M_touching M_having M_most M_only M_can_0 M_next  out H locs (F0 m 106 ls [.int s0]) := by
    intro M_can l1 l2 l3 l5 s0 x hf hM H locs ls hI hl
    refine lv_istore (lv' := [(4, .int s0), (0, .ref m0), (1, .int l1), (2, .int l2), (3, .int l3), (5, .int l5)]) hx hb dX8_allCan_106 hl (by decide) rfl (fun ls hl => ?_)
    refine lv_iload hx hb dX8_allCan_108 (lv_at hl 5 rfl) ?_
    refine lv_if_ne (tgt := 117) hx hb dX8_allCan_110 (by decide) (fun hc => ?_) (fun hc => ?_)
    · replace hf := ite_f hc hf
      refine lv_iload hx hb dX8_allCan_117 (lv_at hl 5 rfl) ?_
      refine lv_iconst (v := 1) hx hb dX8_allCan_119 (by decide) ?_
      refine lv_isub hx hb dX8_allCan_120 ?_
      refine lv_iload_n hx hb dX8_allCan_121 rfl (lv_at hl 4 rfl) ?_
      refine lv_iand hx hb dX8_allCan_122 ?_
      refine lv_topi (fun x7 ex7 => ?_)
      replace hf := bnd_e hf x7 ex7
      refine lv_istore (lv' := [(5, .int x7), (4, .int s0), (0, .ref m0), (1, .int l1), (2, .int l2), (3, .int l3)]) hx hb dX8_allCan_123 hl (by decide) rfl (fun ls hl => ?_)
      refine lv_goto (tgt := 59) hx hb dX8_allCan_125 (by decide) ?_
      replace hf := Option.some.inj hf
      subst hf
      exact hM _ _ _ hI (lv_sub hl [2, 3, 4, 5, 1, 0] rfl)
    · replace hf := ite_t hc hf
      refine lv_iconst (v := -1) hx hb dX8_allCan_113 (by decide) ?_
      refine lv_goto (tgt := 123) hx hb dX8_allCan_114 (by decide) ?_
      refine lv_istore (lv' := [(5, .int (-1 : Int32)), (4, .int s0), (0, .ref m0), (1, .int l1), (2, .int l2), (3, .int l3)]) hx hb dX8_allCan_123 hl (by decide) rfl (fun ls hl => ?_)
      refine lv_goto (tgt := 59) hx hb dX8_allCan_125 (by decide) ?_
      replace hf := Option.some.inj hf
      subst hf
      exact hM _ _ _ hI (lv_sub hl [2, 3, 4, 5, 1, 0] rfl)
  have J105 : ∀ (M_can : Nat → Int32) (l1 : Int32) (l2 : Int32) (l3 : Int32) (l5 : Int32) (x : (Int32 × Int32) ⊕ (((Nat → Int32) × Int32) ⊕ (((Nat → Int32) × Int32) ⊕ (Int32 × (Nat → Int32))))), X8_allCan_J105 M_roads M_touching M_only M_can l1 l2 l3 l5 = some x → (fun z => Sum.elim (fun (v3 : Int32 × Int32) => ∀ (H : Heap) (locs : List Loc) (ls : Array Slot), WI D A s.heap (wM cI cJ cZ m0 m1 m2 m3 m4 m5 m6 m7 m8 m9 m10 m11 m12 m13 M_posts M_roads M_size M_rows M_nextRows M_first M_second M_number M_lists M_square M_fan M_trial M_touching M_having M_most M_only M_can M_next) H locs → lv_has ls 6 [(0, .ref m0), (1, .int l1), (2, .int l2), (3, .int l3), (4, .int v3.1), (5, .int v3.2)] → GX8_allCan p l e s m below meth c D cI cJ cZ m0 m1 m2 m3 m4 m5 m6 m7 m8 m9 m10 m11 m12 m13 M_posts M_roads M_size M_rows M_nextRows M_first M_second M_number M_lists M_square M_fan M_trial M_touching M_having M_most M_only M_can_0 M_next  out H locs (F0 m 59 ls [])) (fun z => Sum.elim (fun (v2 : (Nat → Int32) × Int32) => ∀ (H : Heap) (locs : List Loc) (ls : Array Slot), WI D A s.heap (wM cI cJ cZ m0 m1 m2 m3 m4 m5 m6 m7 m8 m9 m10 m11 m12 m13 M_posts M_roads M_size M_rows M_nextRows M_first M_second M_number M_lists M_square M_fan M_trial M_touching M_having M_most M_only v2.1 M_next) H locs → lv_has ls 6 [(0, .ref m0), (1, .int l1), (2, .int l2), (3, .int v2.2)] → GX8_allCan p l e s m below meth c D cI cJ cZ m0 m1 m2 m3 m4 m5 m6 m7 m8 m9 m10 m11 m12 m13 M_posts M_roads M_size M_rows M_nextRows M_first M_second M_number M_lists M_square M_fan M_trial M_touching M_having M_most M_only M_can_0 M_next  out H locs (F0 m 48 ls [])) (fun z => Sum.elim (fun (v1 : (Nat → Int32) × Int32) => ∀ (H : Heap) (locs : List Loc) (ls : Array Slot), WI D A s.heap (wM cI cJ cZ m0 m1 m2 m3 m4 m5 m6 m7 m8 m9 m10 m11 m12 m13 M_posts M_roads M_size M_rows M_nextRows M_first M_second M_number M_lists M_square M_fan M_trial M_touching M_having M_most M_only v1.1 M_next) H locs → lv_has ls 6 [(0, .ref m0), (1, .int l1), (2, .int v1.2)] → GX8_allCan p l e s m below meth c D cI cJ cZ m0 m1 m2 m3 m4 m5 m6 m7 m8 m9 m10 m11 m12 m13 M_posts M_roads M_size M_rows M_nextRows M_first M_second M_number M_lists M_square M_fan M_trial M_touching M_having M_most M_only M_can_0 M_next  out H locs (F0 m 42 ls [])) (fun z : Int32 × (Nat → Int32) => z = out) z) z) z) x → ∀ (H : Heap) (locs : List Loc) (ls : Array Slot), WI D A s.heap (wM cI cJ cZ m0 m1 m2 m3 m4 m5 m6 m7 m8 m9 m10 m11 m12 m13 M_posts M_roads M_size M_rows M_nextRows M_first M_second M_number M_lists M_square M_fan M_trial M_touching M_having M_most M_only M_can M_next) H locs → lv_has ls 6 [(0, .ref m0), (1, .int l1), (2, .int l2), (3, .int l3), (5, .int l5)] → GX8_allCan p l e s m below meth c D cI cJ cZ m0 m1 m2 m3 m4 m5 m6 m7 m8 m9 m10 m11 m12 m13 M_posts M_roads M_size M_rows M_nextRows M_first M_second M_number M_lists M_square M_fan M_trial M_touching M_having M_most M_only M_can_0 M_next  out H locs (F0 m 105 ls []) := by
    intro M_can l1 l2 l3 l5 x hf hM H locs ls hI hl
    refine lv_iconst (v := 0) hx hb dX8_allCan_105 (by decide) ?_
    exact J106 M_can l1 l2 l3 l5 (0 : Int32) _ hf hM _ _ _ hI (lv_sub hl [0, 1, 2, 3, 4] rfl)
  have L59 : ∀ (M_can : Nat → Int32) (l1 : Int32) (l2 : Int32) (l3 : Int32), ∀ (v : Int32 × Int32) (x : ((Nat → Int32) × Int32) ⊕ (((Nat → Int32) × Int32) ⊕ (Int32 × (Nat → Int32)))), loopO (X8_allCan_L59 M_roads M_touching M_only M_can l1 l2 l3) v = some x → (fun z => Sum.elim (fun (v2 : (Nat → Int32) × Int32) => ∀ (H : Heap) (locs : List Loc) (ls : Array Slot), WI D A s.heap (wM cI cJ cZ m0 m1 m2 m3 m4 m5 m6 m7 m8 m9 m10 m11 m12 m13 M_posts M_roads M_size M_rows M_nextRows M_first M_second M_number M_lists M_square M_fan M_trial M_touching M_having M_most M_only v2.1 M_next) H locs → lv_has ls 6 [(0, .ref m0), (1, .int l1), (2, .int l2), (3, .int v2.2)] → GX8_allCan p l e s m below meth c D cI cJ cZ m0 m1 m2 m3 m4 m5 m6 m7 m8 m9 m10 m11 m12 m13 M_posts M_roads M_size M_rows M_nextRows M_first M_second M_number M_lists M_square M_fan M_trial M_touching M_having M_most M_only M_can_0 M_next  out H locs (F0 m 48 ls [])) (fun z => Sum.elim (fun (v1 : (Nat → Int32) × Int32) => ∀ (H : Heap) (locs : List Loc) (ls : Array Slot), WI D A s.heap (wM cI cJ cZ m0 m1 m2 m3 m4 m5 m6 m7 m8 m9 m10 m11 m12 m13 M_posts M_roads M_size M_rows M_nextRows M_first M_second M_number M_lists M_square M_fan M_trial M_touching M_having M_most M_only v1.1 M_next) H locs → lv_has ls 6 [(0, .ref m0), (1, .int l1), (2, .int v1.2)] → GX8_allCan p l e s m below meth c D cI cJ cZ m0 m1 m2 m3 m4 m5 m6 m7 m8 m9 m10 m11 m12 m13 M_posts M_roads M_size M_rows M_nextRows M_first M_second M_number M_lists M_square M_fan M_trial M_touching M_having M_most M_only M_can_0 M_next  out H locs (F0 m 42 ls [])) (fun z : Int32 × (Nat → Int32) => z = out) z) z) x → (fun (v : Int32 × Int32) => ∀ (H : Heap) (locs : List Loc) (ls : Array Slot), WI D A s.heap (wM cI cJ cZ m0 m1 m2 m3 m4 m5 m6 m7 m8 m9 m10 m11 m12 m13 M_posts M_roads M_size M_rows M_nextRows M_first M_second M_number M_lists M_square M_fan M_trial M_touching M_having M_most M_only M_can M_next) H locs → lv_has ls 6 [(0, .ref m0), (1, .int l1), (2, .int l2), (3, .int l3), (4, .int v.1), (5, .int v.2)] → GX8_allCan p l e s m below meth c D cI cJ cZ m0 m1 m2 m3 m4 m5 m6 m7 m8 m9 m10 m11 m12 m13 M_posts M_roads M_size M_rows M_nextRows M_first M_second M_number M_lists M_square M_fan M_trial M_touching M_having M_most M_only M_can_0 M_next  out H locs (F0 m 59 ls [])) v := by
    intro M_can l1 l2 l3
    refine loopO_ind (fun (v : Int32 × Int32) => ∀ (H : Heap) (locs : List Loc) (ls : Array Slot), WI D A s.heap (wM cI cJ cZ m0 m1 m2 m3 m4 m5 m6 m7 m8 m9 m10 m11 m12 m13 M_posts M_roads M_size M_rows M_nextRows M_first M_second M_number M_lists M_square M_fan M_trial M_touching M_having M_most M_only M_can M_next) H locs → lv_has ls 6 [(0, .ref m0), (1, .int l1), (2, .int l2), (3, .int l3), (4, .int v.1), (5, .int v.2)] → GX8_allCan p l e s m below meth c D cI cJ cZ m0 m1 m2 m3 m4 m5 m6 m7 m8 m9 m10 m11 m12 m13 M_posts M_roads M_size M_rows M_nextRows M_first M_second M_number M_lists M_square M_fan M_trial M_touching M_having M_most M_only M_can_0 M_next  out H locs (F0 m 59 ls [])) (fun z => Sum.elim (fun (v2 : (Nat → Int32) × Int32) => ∀ (H : Heap) (locs : List Loc) (ls : Array Slot), WI D A s.heap (wM cI cJ cZ m0 m1 m2 m3 m4 m5 m6 m7 m8 m9 m10 m11 m12 m13 M_posts M_roads M_size M_rows M_nextRows M_first M_second M_number M_lists M_square M_fan M_trial M_touching M_having M_most M_only v2.1 M_next) H locs → lv_has ls 6 [(0, .ref m0), (1, .int l1), (2, .int l2), (3, .int v2.2)] → GX8_allCan p l e s m below meth c D cI cJ cZ m0 m1 m2 m3 m4 m5 m6 m7 m8 m9 m10 m11 m12 m13 M_posts M_roads M_size M_rows M_nextRows M_first M_second M_number M_lists M_square M_fan M_trial M_touching M_having M_most M_only M_can_0 M_next  out H locs (F0 m 48 ls [])) (fun z => Sum.elim (fun (v1 : (Nat → Int32) × Int32) => ∀ (H : Heap) (locs : List Loc) (ls : Array Slot), WI D A s.heap (wM cI cJ cZ m0 m1 m2 m3 m4 m5 m6 m7 m8 m9 m10 m11 m12 m13 M_posts M_roads M_size M_rows M_nextRows M_first M_second M_number M_lists M_square M_fan M_trial M_touching M_having M_most M_only v1.1 M_next) H locs → lv_has ls 6 [(0, .ref m0), (1, .int l1), (2, .int v1.2)] → GX8_allCan p l e s m below meth c D cI cJ cZ m0 m1 m2 m3 m4 m5 m6 m7 m8 m9 m10 m11 m12 m13 M_posts M_roads M_size M_rows M_nextRows M_first M_second M_number M_lists M_square M_fan M_trial M_touching M_having M_most M_only M_can_0 M_next  out H locs (F0 m 42 ls [])) (fun z : Int32 × (Nat → Int32) => z = out) z) z) ?_
    intro v x hf hM H locs ls hI hl
    refine lv_iload hx hb dX8_allCan_59 (lv_at hl 5 rfl) ?_
    refine lv_if_lt (tgt := 128) hx hb dX8_allCan_61 (by decide) (fun hc => ?_) (fun hc => ?_)
    · replace hf := ite_t hc hf
      obtain ⟨z, hf2, ez⟩ := mp_e hf
      clear hf
      subst ez
      exact J128 M_can l1 l2 l3 v.1 _ hf2 hM _ _ _ hI (lv_sub hl [0, 1, 2, 3, 4] rfl)
    · replace hf := ite_f hc hf
      refine lv_iload hx hb dX8_allCan_64 (lv_at hl 4 rfl) ?_
      refine lv_if_ne (tgt := 128) hx hb dX8_allCan_66 (by decide) (fun hc => ?_) (fun hc => ?_)
      · replace hf := ite_f hc hf
        obtain ⟨z, hf2, ez⟩ := mp_e hf
        clear hf
        subst ez
        exact J128 M_can l1 l2 l3 v.1 _ hf2 hM _ _ _ hI (lv_sub hl [0, 1, 2, 3, 4] rfl)
      · replace hf := ite_t hc hf
        refine lv_aload_n hx hb dX8_allCan_69 rfl (lv_at hl 0 rfl) ?_
        refine w_get hx hb hg hown hK hI iX8 0 rfl rfl 16 (by decide) wF_RX8_50 rfl dX8_allCan_70 ?_
        refine lv_sipush (v := 256) hx hb dX8_allCan_73 (by decide) ?_
        refine lv_iload_n hx hb dX8_allCan_76 rfl (lv_at hl 2 rfl) ?_
        refine lv_iconst (v := 1) hx hb dX8_allCan_77 (by decide) ?_
        refine lv_iadd hx hb dX8_allCan_78 ?_
        refine lv_imul hx hb dX8_allCan_79 ?_
        refine lv_iload_n hx hb dX8_allCan_80 rfl (lv_at hl 3 rfl) ?_
        refine lv_iload hx hb dX8_allCan_81 (lv_at hl 5 rfl) ?_
        refine lv_iconst (v := -1) hx hb dX8_allCan_83 (by decide) ?_
        refine lv_ixor hx hb dX8_allCan_84 ?_
        refine lv_iand hx hb dX8_allCan_85 ?_
        refine lv_iadd hx hb dX8_allCan_86 ?_
        obtain ⟨hin, hf⟩ := rd_e hf
        refine w_zald hx hb hK hI 12 rfl hin dX8_allCan_87 (fun x6 ex6 => ?_)
        replace hf := hf x6 ex6
        refine lv_if_eq (tgt := 105) hx hb dX8_allCan_88 (by decide) (fun hc => ?_) (fun hc => ?_)
        · replace hf := ite_t hc hf
          exact J105 M_can l1 l2 l3 v.2 _ hf hM _ _ _ hI (lv_sub hl [0, 1, 2, 3, 5] rfl)
        · replace hf := ite_f hc hf
          refine lv_aload_n hx hb dX8_allCan_91 rfl (lv_at hl 0 rfl) ?_
          refine lv_iload hx hb dX8_allCan_92 (lv_at hl 5 rfl) ?_
          refine lv_iload_n hx hb dX8_allCan_94 rfl (lv_at hl 2 rfl) ?_
          obtain ⟨o8, ho8, hf⟩ := bd_e hf
          refine w_Vi0 (wc := (wM cI cJ cZ m0 m1 m2 m3 m4 m5 m6 m7 m8 m9 m10 m11 m12 m13 M_posts M_roads M_size M_rows M_nextRows M_first M_second M_number M_lists M_square M_fan M_trial M_touching M_having M_most M_only M_can M_next)) (wr := []) (rest := []) hx hb hml hg hown hK hA hI (kX8_mayHave l D cI cJ cZ m0 m1 m2 m3 m4 m5 m6 m7 m8 m9 m10 m11 m12 m13 M_posts M_roads M_size M_rows M_nextRows M_first M_second M_number M_lists M_square M_fan M_trial M_touching M_having M_most M_only M_can M_next v.2 l2 o8 ho8) kvX8_mayHave wL_RX8_156 ⟨Nat.le_of_ble_eq_true rfl, Nat.le_of_ble_eq_true rfl⟩ rfl rfl [0, 1, 2, 3, 4, 5, 6, 7, 8, 9, 10, 11, 12, 13] [] rfl rfl rfl rfl (by decide) rfl rfl hl.1 (Nat.le_of_ble_eq_true rfl) dX8_allCan_95 ⟨Nat.zero_le _, Nat.zero_le _⟩ ⟨rfl, rfl⟩ (fun r u H locs hp hI => ?_)
          replace hp : r = o8 := hp
          rw [hp]
          clear hp
          replace hI : WI D A s.heap (wM cI cJ cZ m0 m1 m2 m3 m4 m5 m6 m7 m8 m9 m10 m11 m12 m13 M_posts M_roads M_size M_rows M_nextRows M_first M_second M_number M_lists M_square M_fan M_trial M_touching M_having M_most M_only M_can M_next) H locs := hI
          refine lv_if_eq (tgt := 105) hx hb dX8_allCan_98 (by decide) (fun hc => ?_) (fun hc => ?_)
          · replace hf := ite_t hc hf
            exact J105 M_can l1 l2 l3 v.2 _ hf hM _ _ _ hI (lv_sub hl [0, 1, 2, 3, 5] rfl)
          · replace hf := ite_f hc hf
            refine lv_iconst (v := 1) hx hb dX8_allCan_101 (by decide) ?_
            refine lv_goto (tgt := 106) hx hb dX8_allCan_102 (by decide) ?_
            exact J106 M_can l1 l2 l3 v.2 (1 : Int32) _ hf hM _ _ _ hI (lv_sub hl [0, 1, 2, 3, 5] rfl)
  have L48 : ∀ (l1 : Int32) (l2 : Int32), ∀ (v : (Nat → Int32) × Int32) (x : ((Nat → Int32) × Int32) ⊕ (Int32 × (Nat → Int32))), loopO (X8_allCan_L48 M_roads M_touching M_only l1 l2) v = some x → (fun z => Sum.elim (fun (v1 : (Nat → Int32) × Int32) => ∀ (H : Heap) (locs : List Loc) (ls : Array Slot), WI D A s.heap (wM cI cJ cZ m0 m1 m2 m3 m4 m5 m6 m7 m8 m9 m10 m11 m12 m13 M_posts M_roads M_size M_rows M_nextRows M_first M_second M_number M_lists M_square M_fan M_trial M_touching M_having M_most M_only v1.1 M_next) H locs → lv_has ls 6 [(0, .ref m0), (1, .int l1), (2, .int v1.2)] → GX8_allCan p l e s m below meth c D cI cJ cZ m0 m1 m2 m3 m4 m5 m6 m7 m8 m9 m10 m11 m12 m13 M_posts M_roads M_size M_rows M_nextRows M_first M_second M_number M_lists M_square M_fan M_trial M_touching M_having M_most M_only M_can_0 M_next  out H locs (F0 m 42 ls [])) (fun z : Int32 × (Nat → Int32) => z = out) z) x → (fun (v : (Nat → Int32) × Int32) => ∀ (H : Heap) (locs : List Loc) (ls : Array Slot), WI D A s.heap (wM cI cJ cZ m0 m1 m2 m3 m4 m5 m6 m7 m8 m9 m10 m11 m12 m13 M_posts M_roads M_size M_rows M_nextRows M_first M_second M_number M_lists M_square M_fan M_trial M_touching M_having M_most M_only v.1 M_next) H locs → lv_has ls 6 [(0, .ref m0), (1, .int l1), (2, .int l2), (3, .int v.2)] → GX8_allCan p l e s m below meth c D cI cJ cZ m0 m1 m2 m3 m4 m5 m6 m7 m8 m9 m10 m11 m12 m13 M_posts M_roads M_size M_rows M_nextRows M_first M_second M_number M_lists M_square M_fan M_trial M_touching M_having M_most M_only M_can_0 M_next  out H locs (F0 m 48 ls [])) v := by
    intro l1 l2
    refine loopO_ind (fun (v : (Nat → Int32) × Int32) => ∀ (H : Heap) (locs : List Loc) (ls : Array Slot), WI D A s.heap (wM cI cJ cZ m0 m1 m2 m3 m4 m5 m6 m7 m8 m9 m10 m11 m12 m13 M_posts M_roads M_size M_rows M_nextRows M_first M_second M_number M_lists M_square M_fan M_trial M_touching M_having M_most M_only v.1 M_next) H locs → lv_has ls 6 [(0, .ref m0), (1, .int l1), (2, .int l2), (3, .int v.2)] → GX8_allCan p l e s m below meth c D cI cJ cZ m0 m1 m2 m3 m4 m5 m6 m7 m8 m9 m10 m11 m12 m13 M_posts M_roads M_size M_rows M_nextRows M_first M_second M_number M_lists M_square M_fan M_trial M_touching M_having M_most M_only M_can_0 M_next  out H locs (F0 m 48 ls [])) (fun z => Sum.elim (fun (v1 : (Nat → Int32) × Int32) => ∀ (H : Heap) (locs : List Loc) (ls : Array Slot), WI D A s.heap (wM cI cJ cZ m0 m1 m2 m3 m4 m5 m6 m7 m8 m9 m10 m11 m12 m13 M_posts M_roads M_size M_rows M_nextRows M_first M_second M_number M_lists M_square M_fan M_trial M_touching M_having M_most M_only v1.1 M_next) H locs → lv_has ls 6 [(0, .ref m0), (1, .int l1), (2, .int v1.2)] → GX8_allCan p l e s m below meth c D cI cJ cZ m0 m1 m2 m3 m4 m5 m6 m7 m8 m9 m10 m11 m12 m13 M_posts M_roads M_size M_rows M_nextRows M_first M_second M_number M_lists M_square M_fan M_trial M_touching M_having M_most M_only M_can_0 M_next  out H locs (F0 m 42 ls [])) (fun z : Int32 × (Nat → Int32) => z = out) z) ?_
    intro v x hf hM H locs ls hI hl
    refine lv_iload_n hx hb dX8_allCan_48 rfl (lv_at hl 3 rfl) ?_
    refine lv_iload_n hx hb dX8_allCan_49 rfl (lv_at hl 1 rfl) ?_
    refine lv_icmp_ge (tgt := 148) hx hb dX8_allCan_50 (by decide) (fun hc => ?_) (fun hc => ?_)
    · replace hf := ite_t hc hf
      obtain ⟨x3, ex3⟩ : ∃ y : Int32, y = (l2 + (-1 : Int32)) := ⟨_, rfl⟩
      replace hf := bnd_e hf x3 ex3
      refine lv_iinc (v := x3) (lv' := [(2, .int x3), (0, .ref m0), (1, .int l1), (3, .int v.2)]) hx hb dX8_allCan_148 hl (k := 2) rfl (by rw [ex3]; rfl) (by decide) rfl (fun ls hl => ?_)
      refine lv_goto (tgt := 42) hx hb dX8_allCan_151 (by decide) ?_
      replace hf := Option.some.inj hf
      subst hf
      exact hM _ _ _ hI (lv_sub hl [1, 2, 0] rfl)
    · replace hf := ite_f hc hf
      refine lv_iconst (v := 0) hx hb dX8_allCan_53 (by decide) ?_
      refine lv_istore (lv' := [(4, .int (0 : Int32)), (0, .ref m0), (1, .int l1), (2, .int l2), (3, .int v.2)]) hx hb dX8_allCan_54 hl (by decide) rfl (fun ls hl => ?_)
      refine lv_iload_n hx hb dX8_allCan_56 rfl (lv_at hl 4 rfl) ?_
      refine lv_istore (lv' := [(5, .int v.2), (4, .int (0 : Int32)), (0, .ref m0), (1, .int l1), (2, .int l2), (3, .int v.2)]) hx hb dX8_allCan_57 hl (by decide) rfl (fun ls hl => ?_)
      exact L59 v.1 l1 l2 v.2 ((0 : Int32), v.2) _ hf hM _ _ _ hI (lv_sub hl [2, 3, 4, 5, 1, 0] rfl)
  have L42 : ∀ (l1 : Int32), ∀ (v : (Nat → Int32) × Int32) (x : Int32 × (Nat → Int32)), loopO (X8_allCan_L42 M_roads M_touching M_only l1) v = some x → (fun z : Int32 × (Nat → Int32) => z = out) x → (fun (v : (Nat → Int32) × Int32) => ∀ (H : Heap) (locs : List Loc) (ls : Array Slot), WI D A s.heap (wM cI cJ cZ m0 m1 m2 m3 m4 m5 m6 m7 m8 m9 m10 m11 m12 m13 M_posts M_roads M_size M_rows M_nextRows M_first M_second M_number M_lists M_square M_fan M_trial M_touching M_having M_most M_only v.1 M_next) H locs → lv_has ls 6 [(0, .ref m0), (1, .int l1), (2, .int v.2)] → GX8_allCan p l e s m below meth c D cI cJ cZ m0 m1 m2 m3 m4 m5 m6 m7 m8 m9 m10 m11 m12 m13 M_posts M_roads M_size M_rows M_nextRows M_first M_second M_number M_lists M_square M_fan M_trial M_touching M_having M_most M_only M_can_0 M_next  out H locs (F0 m 42 ls [])) v := by
    intro l1
    refine loopO_ind (fun (v : (Nat → Int32) × Int32) => ∀ (H : Heap) (locs : List Loc) (ls : Array Slot), WI D A s.heap (wM cI cJ cZ m0 m1 m2 m3 m4 m5 m6 m7 m8 m9 m10 m11 m12 m13 M_posts M_roads M_size M_rows M_nextRows M_first M_second M_number M_lists M_square M_fan M_trial M_touching M_having M_most M_only v.1 M_next) H locs → lv_has ls 6 [(0, .ref m0), (1, .int l1), (2, .int v.2)] → GX8_allCan p l e s m below meth c D cI cJ cZ m0 m1 m2 m3 m4 m5 m6 m7 m8 m9 m10 m11 m12 m13 M_posts M_roads M_size M_rows M_nextRows M_first M_second M_number M_lists M_square M_fan M_trial M_touching M_having M_most M_only M_can_0 M_next  out H locs (F0 m 42 ls [])) (fun z : Int32 × (Nat → Int32) => z = out) ?_
    intro v x hf hM H locs ls hI hl
    refine lv_iload_n hx hb dX8_allCan_42 rfl (lv_at hl 2 rfl) ?_
    refine lv_if_lt (tgt := 154) hx hb dX8_allCan_43 (by decide) (fun hc => ?_) (fun hc => ?_)
    · replace hf := ite_t hc hf
      refine lv_aload_n hx hb dX8_allCan_154 rfl (lv_at hl 0 rfl) ?_
      refine w_get hx hb hg hown hK hI iX8 0 rfl rfl 16 (by decide) wF_RX8_50 rfl dX8_allCan_155 ?_
      refine lv_iload_n hx hb dX8_allCan_158 rfl (lv_at hl 1 rfl) ?_
      refine lv_iconst (v := 1) hx hb dX8_allCan_159 (by decide) ?_
      refine lv_isub hx hb dX8_allCan_160 ?_
      obtain ⟨hin, hf⟩ := rd_e hf
      refine w_zald hx hb hK hI 12 rfl hin dX8_allCan_161 (fun x2 ex2 => ?_)
      replace hf := hf x2 ex2
      obtain ⟨hz, hf⟩ := zb_e hf
      replace hf := Option.some.inj hf
      subst hf
      replace hM : (x2, v.1) = out := hM
      subst hM
      exact rt_i (u := ()) hx hb hr hlocks (zb_n hz) hI hAe rfl dX8_allCan_162
    · replace hf := ite_f hc hf
      refine lv_iconst (v := 0) hx hb dX8_allCan_46 (by decide) ?_
      refine lv_istore_n (lv' := [(3, .int (0 : Int32)), (0, .ref m0), (1, .int l1), (2, .int v.2)]) hx hb dX8_allCan_47 rfl hl (by decide) rfl (fun ls hl => ?_)
      exact L48 l1 v.2 (v.1, (0 : Int32)) _ hf hM _ _ _ hI (lv_sub hl [1, 2, 3, 0] rfl)
  have J32 : ∀ (M_can : Nat → Int32) (l1 : Int32) (l2 : Int32) (s1 : Int32) (s2 : Int32) (x : ((Nat → Int32) × Int32) ⊕ (Int32 × (Nat → Int32))), X8_allCan_J32 M_roads M_touching M_only M_can l1 l2 s1 s2 = some x → (fun z => Sum.elim (fun (v1 : (Nat → Int32) × Int32) => ∀ (H : Heap) (locs : List Loc) (ls : Array Slot), WI D A s.heap (wM cI cJ cZ m0 m1 m2 m3 m4 m5 m6 m7 m8 m9 m10 m11 m12 m13 M_posts M_roads M_size M_rows M_nextRows M_first M_second M_number M_lists M_square M_fan M_trial M_touching M_having M_most M_only v1.1 M_next) H locs → lv_has ls 6 [(0, .ref m0), (1, .int l1), (2, .int v1.2)] → GX8_allCan p l e s m below meth c D cI cJ cZ m0 m1 m2 m3 m4 m5 m6 m7 m8 m9 m10 m11 m12 m13 M_posts M_roads M_size M_rows M_nextRows M_first M_second M_number M_lists M_square M_fan M_trial M_touching M_having M_most M_only M_can_0 M_next  out H locs (F0 m 9 ls [])) (fun z : Int32 × (Nat → Int32) => z = out) z) x → ∀ (H : Heap) (locs : List Loc) (ls : Array Slot), WI D A s.heap (wM cI cJ cZ m0 m1 m2 m3 m4 m5 m6 m7 m8 m9 m10 m11 m12 m13 M_posts M_roads M_size M_rows M_nextRows M_first M_second M_number M_lists M_square M_fan M_trial M_touching M_having M_most M_only M_can M_next) H locs → lv_has ls 6 [(0, .ref m0), (1, .int l1), (2, .int l2)] → GX8_allCan p l e s m below meth c D cI cJ cZ m0 m1 m2 m3 m4 m5 m6 m7 m8 m9 m10 m11 m12 m13 M_posts M_roads M_size M_rows M_nextRows M_first M_second M_number M_lists M_square M_fan M_trial M_touching M_having M_most M_only M_can_0 M_next  out H locs (F0 m 32 ls [.int s2, .int s1, .ref m12]) := by
    intro M_can l1 l2 s1 s2 x hf hM H locs ls hI hl
    obtain ⟨hin, hf⟩ := wr_e hf
    obtain ⟨g9, eg9⟩ : ∃ g : Nat → Int32, g = upd M_can (s1).toNatClampNeg (vp_nar .boolean s2) := ⟨_, rfl⟩
    replace hf := hf g9 eg9
    refine w_zast (g := g9) (W1 := (wM cI cJ cZ m0 m1 m2 m3 m4 m5 m6 m7 m8 m9 m10 m11 m12 m13 M_posts M_roads M_size M_rows M_nextRows M_first M_second M_number M_lists M_square M_fan M_trial M_touching M_having M_most M_only g9 M_next)) hx hb hK hI 12 rfl hin eg9 dX8_allCan_32 rfl (fun H locs hI => ?_)
    obtain ⟨x10, ex10⟩ : ∃ y : Int32, y = (l2 + (1 : Int32)) := ⟨_, rfl⟩
    replace hf := bnd_e hf x10 ex10
    refine lv_iinc (v := x10) (lv' := [(2, .int x10), (0, .ref m0), (1, .int l1)]) hx hb dX8_allCan_33 hl (k := 2) rfl (by rw [ex10]; rfl) (by decide) rfl (fun ls hl => ?_)
    refine lv_goto (tgt := 9) hx hb dX8_allCan_36 (by decide) ?_
    replace hf := Option.some.inj hf
    subst hf
    exact hM _ _ _ hI (lv_sub hl [1, 2, 0] rfl)
  have L9 : ∀ (l1 : Int32), ∀ (v : (Nat → Int32) × Int32) (x : Int32 × (Nat → Int32)), loopO (X8_allCan_L9 M_roads M_touching M_only l1) v = some x → (fun z : Int32 × (Nat → Int32) => z = out) x → (fun (v : (Nat → Int32) × Int32) => ∀ (H : Heap) (locs : List Loc) (ls : Array Slot), WI D A s.heap (wM cI cJ cZ m0 m1 m2 m3 m4 m5 m6 m7 m8 m9 m10 m11 m12 m13 M_posts M_roads M_size M_rows M_nextRows M_first M_second M_number M_lists M_square M_fan M_trial M_touching M_having M_most M_only v.1 M_next) H locs → lv_has ls 6 [(0, .ref m0), (1, .int l1), (2, .int v.2)] → GX8_allCan p l e s m below meth c D cI cJ cZ m0 m1 m2 m3 m4 m5 m6 m7 m8 m9 m10 m11 m12 m13 M_posts M_roads M_size M_rows M_nextRows M_first M_second M_number M_lists M_square M_fan M_trial M_touching M_having M_most M_only M_can_0 M_next  out H locs (F0 m 9 ls [])) v := by
    intro l1
    refine loopO_ind (fun (v : (Nat → Int32) × Int32) => ∀ (H : Heap) (locs : List Loc) (ls : Array Slot), WI D A s.heap (wM cI cJ cZ m0 m1 m2 m3 m4 m5 m6 m7 m8 m9 m10 m11 m12 m13 M_posts M_roads M_size M_rows M_nextRows M_first M_second M_number M_lists M_square M_fan M_trial M_touching M_having M_most M_only v.1 M_next) H locs → lv_has ls 6 [(0, .ref m0), (1, .int l1), (2, .int v.2)] → GX8_allCan p l e s m below meth c D cI cJ cZ m0 m1 m2 m3 m4 m5 m6 m7 m8 m9 m10 m11 m12 m13 M_posts M_roads M_size M_rows M_nextRows M_first M_second M_number M_lists M_square M_fan M_trial M_touching M_having M_most M_only M_can_0 M_next  out H locs (F0 m 9 ls [])) (fun z : Int32 × (Nat → Int32) => z = out) ?_
    intro v x hf hM H locs ls hI hl
    refine lv_iload_n hx hb dX8_allCan_9 rfl (lv_at hl 2 rfl) ?_
    refine lv_iload_n hx hb dX8_allCan_10 rfl (lv_at hl 1 rfl) ?_
    refine lv_icmp_ge (tgt := 39) hx hb dX8_allCan_11 (by decide) (fun hc => ?_) (fun hc => ?_)
    · replace hf := ite_t hc hf
      refine lv_bipush (v := 15) hx hb dX8_allCan_39 (by decide) ?_
      refine lv_istore_n (lv' := [(2, .int (15 : Int32)), (0, .ref m0), (1, .int l1)]) hx hb dX8_allCan_41 rfl hl (by decide) rfl (fun ls hl => ?_)
      obtain ⟨z, hf2, ez⟩ := mp_e hf
      clear hf
      subst ez
      exact L42 l1 (v.1, (15 : Int32)) _ hf2 hM _ _ _ hI (lv_sub hl [1, 2, 0] rfl)
    · replace hf := ite_f hc hf
      refine lv_aload_n hx hb dX8_allCan_14 rfl (lv_at hl 0 rfl) ?_
      refine w_get hx hb hg hown hK hI iX8 0 rfl rfl 16 (by decide) wF_RX8_50 rfl dX8_allCan_15 ?_
      refine lv_sipush (v := 4096) hx hb dX8_allCan_18 (by decide) ?_
      refine lv_iload_n hx hb dX8_allCan_21 rfl (lv_at hl 2 rfl) ?_
      refine lv_iadd hx hb dX8_allCan_22 ?_
      refine lv_iload_n hx hb dX8_allCan_23 rfl (lv_at hl 2 rfl) ?_
      refine lv_if_ne (tgt := 31) hx hb dX8_allCan_24 (by decide) (fun hc => ?_) (fun hc => ?_)
      · replace hf := ite_f hc hf
        refine lv_iconst (v := 0) hx hb dX8_allCan_31 (by decide) ?_
        exact J32 v.1 l1 v.2 ((4096 : Int32) + v.2) (0 : Int32) _ hf hM _ _ _ hI (lv_sub hl [0, 1, 2] rfl)
      · replace hf := ite_t hc hf
        refine lv_iconst (v := 1) hx hb dX8_allCan_27 (by decide) ?_
        refine lv_goto (tgt := 32) hx hb dX8_allCan_28 (by decide) ?_
        exact J32 v.1 l1 v.2 ((4096 : Int32) + v.2) (1 : Int32) _ hf hM _ _ _ hI (lv_sub hl [0, 1, 2] rfl)
  obtain ⟨x, hf, hM⟩ : ∃ x, FX8_allCan M_roads M_touching M_only M_can_0 = some x ∧ x = out := ⟨out, hf, rfl⟩
  refine lv_iconst (v := 1) hx hb dX8_allCan_0 (by decide) ?_
  refine lv_aload_n hx hb dX8_allCan_1 rfl (lv_at hl 0 rfl) ?_
  refine w_get hx hb hg hown hK hI iX8 0 rfl rfl 1 (by decide) wF_RX8_57 rfl dX8_allCan_2 ?_
  refine lv_ishl hx hb dX8_allCan_5 ?_
  refine lv_topi (fun x1 ex1 => ?_)
  replace hf := bnd_e hf x1 ex1
  refine lv_istore_n (lv' := [(1, .int x1), (0, .ref m0)]) hx hb dX8_allCan_6 rfl hl (by decide) rfl (fun ls hl => ?_)
  refine lv_iconst (v := 0) hx hb dX8_allCan_7 (by decide) ?_
  refine lv_istore_n (lv' := [(2, .int (0 : Int32)), (1, .int x1), (0, .ref m0)]) hx hb dX8_allCan_8 rfl hl (by decide) rfl (fun ls hl => ?_)
  exact L9 x1 (M_can_0, (0 : Int32)) _ hf hM _ _ _ hI (lv_sub hl [2, 1, 0] rfl)
noncomputable def X8_choose_L130 (M_roads : Int32) (M_trial : Nat → Int32) (M_touching : Nat → Int32) (M_having : Nat → Int32) (M_most : Nat → Int32) (M_only : Nat → Int32) (M_can : Nat → Int32) (v : (Nat → Int32) × Int32) : Option (((Nat → Int32) × Int32) ⊕ (Int32 × (Nat → Int32) × (Nat → Int32) × (Nat → Int32) × (Nat → Int32) × (Nat → Int32) × (Nat → Int32) × (Nat → Int32))) :=
  if M_roads ≤ v.2 then (some (.inr ((1 : Int32), v.1, M_trial, M_touching, M_having, M_most, M_only, M_can))) else (rd M_trial 24 v.2 (fun x3 => wr v.1 24 v.2 x3 (fun g4 => bnd (v.2 + (1 : Int32)) (fun x5 => some (.inl (g4, x5))))))
noncomputable def X8_choose_J115 (M_roads : Int32) (M_number : Nat → Int32) (M_lists : Nat → Int32) (M_trial : Nat → Int32) (M_touching : Nat → Int32) (M_having : Nat → Int32) (M_most : Nat → Int32) (M_only : Nat → Int32) (M_can : Nat → Int32) (l1 : Int32) (l2 : Int32) : Option (((Nat → Int32) × (Nat → Int32) × (Nat → Int32) × Int32) ⊕ (Int32 × (Nat → Int32) × (Nat → Int32) × (Nat → Int32) × (Nat → Int32) × (Nat → Int32) × (Nat → Int32) × (Nat → Int32))) :=
  wr M_trial 24 l1 l2 (fun g6 => bnd (l1 + (1 : Int32)) (fun x7 => some (.inl (g6, M_only, M_can, x7))))
noncomputable def X8_choose_L67 (M_roads : Int32) (M_number : Nat → Int32) (M_lists : Nat → Int32) (M_trial : Nat → Int32) (M_touching : Nat → Int32) (M_having : Nat → Int32) (M_most : Nat → Int32) (l1 : Int32) (v : (Nat → Int32) × (Nat → Int32) × Int32 × Int32) : Option (((Nat → Int32) × (Nat → Int32) × Int32 × Int32) ⊕ (((Nat → Int32) × (Nat → Int32) × (Nat → Int32) × Int32) ⊕ (Int32 × (Nat → Int32) × (Nat → Int32) × (Nat → Int32) × (Nat → Int32) × (Nat → Int32) × (Nat → Int32) × (Nat → Int32)))) :=
  if v.2.2.2 = (0 : Int32) then (bnd (v.2.2.1 + (1 : Int32)) (fun x8 => rd M_lists 24 l1 (fun x9 => wr v.1 24 l1 (x9 &&& ((1 : Int32) <<< (x8 &&& (31 : Int32)))) (fun g10 => rd g10 24 l1 (fun x11 => if x11 = (0 : Int32) then (some (.inl (g10, v.2.1, x8, (0 : Int32)))) else ((FX8_allCan M_roads M_touching g10 v.2.1).bind (fun o12 => if o12.1 = (0 : Int32) then (some (.inl (g10, o12.2, x8, (0 : Int32)))) else (some (.inl (g10, o12.2, x8, (1 : Int32))))))))))) else ((X8_choose_J115 M_roads M_number M_lists M_trial M_touching M_having M_most v.1 v.2.1 l1 v.2.2.1).map (fun z => (.inr z)))
noncomputable def X8_choose_L55 (M_roads : Int32) (M_number : Nat → Int32) (M_lists : Nat → Int32) (M_touching : Nat → Int32) (M_having : Nat → Int32) (M_most : Nat → Int32) (v : (Nat → Int32) × (Nat → Int32) × (Nat → Int32) × Int32) : Option (((Nat → Int32) × (Nat → Int32) × (Nat → Int32) × Int32) ⊕ (Int32 × (Nat → Int32) × (Nat → Int32) × (Nat → Int32) × (Nat → Int32) × (Nat → Int32) × (Nat → Int32) × (Nat → Int32))) :=
  if M_roads ≤ v.2.2.2 then ((loopO (X8_choose_L130 M_roads v.1 M_touching M_having M_most v.2.1 v.2.2.1) (M_number, (0 : Int32))).map (fun z => (.inr z))) else (loopO (X8_choose_L67 M_roads M_number M_lists v.1 M_touching M_having M_most v.2.2.2) (v.2.1, v.2.2.1, (-1 : Int32), (0 : Int32)))
noncomputable def X8_choose_J44 (M_roads : Int32) (M_number : Nat → Int32) (M_lists : Nat → Int32) (M_trial : Nat → Int32) (M_touching : Nat → Int32) (M_having : Nat → Int32) (M_most : Nat → Int32) (M_only : Nat → Int32) (M_can : Nat → Int32) : Option (Int32 × (Nat → Int32) × (Nat → Int32) × (Nat → Int32) × (Nat → Int32) × (Nat → Int32) × (Nat → Int32) × (Nat → Int32)) :=
  (FX8_allCan M_roads M_touching M_only M_can).bind (fun o2 => if o2.1 = (0 : Int32) then (some ((0 : Int32), M_number, M_trial, M_touching, M_having, M_most, M_only, o2.2)) else (loopO (X8_choose_L55 M_roads M_number M_lists M_touching M_having M_most) (M_trial, M_only, o2.2, (0 : Int32))))
noncomputable def X8_choose_L18 (M_roads : Int32) (M_number : Nat → Int32) (M_lists : Nat → Int32) (M_trial : Nat → Int32) (M_touching : Nat → Int32) (M_having : Nat → Int32) (M_most : Nat → Int32) (M_can : Nat → Int32) (v : (Nat → Int32) × Int32) : Option (((Nat → Int32) × Int32) ⊕ (Int32 × (Nat → Int32) × (Nat → Int32) × (Nat → Int32) × (Nat → Int32) × (Nat → Int32) × (Nat → Int32) × (Nat → Int32))) :=
  if M_roads ≤ v.2 then ((X8_choose_J44 M_roads M_number M_lists M_trial M_touching M_having M_most v.1 M_can).map (fun z => (.inr z))) else (rd M_lists 24 v.2 (fun x13 => wr v.1 24 v.2 x13 (fun g14 => bnd (v.2 + (1 : Int32)) (fun x15 => some (.inl (g14, x15))))))
noncomputable def FX8_choose (M_roads : Int32) (M_first : Nat → Int32) (M_second : Nat → Int32) (M_number_0 : Nat → Int32) (M_lists : Nat → Int32) (M_trial_0 : Nat → Int32) (M_touching_0 : Nat → Int32) (M_having_0 : Nat → Int32) (M_most_0 : Nat → Int32) (M_only_0 : Nat → Int32) (M_can_0 : Nat → Int32)  : Option (Int32 × (Nat → Int32) × (Nat → Int32) × (Nat → Int32) × (Nat → Int32) × (Nat → Int32) × (Nat → Int32) × (Nat → Int32)) :=
  if M_roads ≤ (8 : Int32) then ((FX8_lookAtRoads M_roads M_first M_second M_trial_0 M_touching_0 M_having_0 M_most_0).bind (fun o1 => loopO (X8_choose_L18 M_roads M_number_0 M_lists o1.1 o1.2.1 o1.2.2.1 o1.2.2.2 M_can_0) (M_only_0, (0 : Int32)))) else (some ((-2 : Int32), M_number_0, M_trial_0, M_touching_0, M_having_0, M_most_0, M_only_0, M_can_0))
abbrev GX8_choose (p : Program) (l : Launch) (e : Env) (s : State) (m : MethodId) (below : List Frame) (meth : Method) (c : Code) (D : va_G) (cI cJ cZ : ClassId) (m0 m1 m2 m3 m4 m5 m6 m7 m8 m9 m10 m11 m12 m13 : Nat) (M_posts : Int32) (M_roads : Int32) (M_size : Int32) (M_rows : Int32) (M_nextRows : Int32) (M_first : Nat → Int32) (M_second : Nat → Int32) (M_number_0 : Nat → Int32) (M_lists : Nat → Int32) (M_square : Nat → Int32) (M_fan : Nat → Int32) (M_trial_0 : Nat → Int32) (M_touching_0 : Nat → Int32) (M_having_0 : Nat → Int32) (M_most_0 : Nat → Int32) (M_only_0 : Nat → Int32) (M_can_0 : Nat → Int32) (M_next : Nat → Int32)  (out : Int32 × (Nat → Int32) × (Nat → Int32) × (Nat → Int32) × (Nat → Int32) × (Nat → Int32) × (Nat → Int32) × (Nat → Int32)) (H : Heap) (locs : List Loc) (g : JFrame) : Prop := W p l e (headSpec (Cond.code yX8_choose cX8_choose 4 (some .int) :: GW) { frames := 3, cells := 0, slots := 0, locals := 66 }).room s m ([.ref m0] : List Value).toArray below meth c H locs 0 0 (MQ below (va_Qi (fun r (_ : Unit) => r = out.1) (BW D (wM cI cJ cZ m0 m1 m2 m3 m4 m5 m6 m7 m8 m9 m10 m11 m12 m13 M_posts M_roads M_size M_rows M_nextRows M_first M_second M_number_0 M_lists M_square M_fan M_trial_0 M_touching_0 M_having_0 M_most_0 M_only_0 M_can_0 M_next) s.heap.size (fun _ => (wM cI cJ cZ m0 m1 m2 m3 m4 m5 m6 m7 m8 m9 m10 m11 m12 m13 M_posts M_roads M_size M_rows M_nextRows M_first M_second out.2.1 M_lists M_square M_fan out.2.2.1 out.2.2.2.1 out.2.2.2.2.1 out.2.2.2.2.2.1 out.2.2.2.2.2.2.1 out.2.2.2.2.2.2.2 M_next))) (va_A (wM cI cJ cZ m0 m1 m2 m3 m4 m5 m6 m7 m8 m9 m10 m11 m12 m13 M_posts M_roads M_size M_rows M_nextRows M_first M_second M_number_0 M_lists M_square M_fan M_trial_0 M_touching_0 M_having_0 M_most_0 M_only_0 M_can_0 M_next) s.heap.size)) ([.ref m0] : List Value).toArray s 0 0 (va_A (wM cI cJ cZ m0 m1 m2 m3 m4 m5 m6 m7 m8 m9 m10 m11 m12 m13 M_posts M_roads M_size M_rows M_nextRows M_first M_second M_number_0 M_lists M_square M_fan M_trial_0 M_touching_0 M_having_0 M_most_0 M_only_0 M_can_0 M_next) s.heap.size)) g
theorem kvX8_choose : CalV RX8 yX8_choose cX8_choose 4 (some .int) 0 := ⟨wC_yX8_choose, wM_yX8_choose, wS_yX8_choose, wI_RX8, by decide +kernel⟩
set_option maxHeartbeats 4000000 in
set_option maxRecDepth 100000 in
theorem kX8_choose (l : Launch) (D : va_G) (cI cJ cZ : ClassId) (m0 m1 m2 m3 m4 m5 m6 m7 m8 m9 m10 m11 m12 m13 : Nat) (M_posts : Int32) (M_roads : Int32) (M_size : Int32) (M_rows : Int32) (M_nextRows : Int32) (M_first : Nat → Int32) (M_second : Nat → Int32) (M_number_0 : Nat → Int32) (M_lists : Nat → Int32) (M_square : Nat → Int32) (M_fan : Nat → Int32) (M_trial_0 : Nat → Int32) (M_touching_0 : Nat → Int32) (M_having_0 : Nat → Int32) (M_most_0 : Nat → Int32) (M_only_0 : Nat → Int32) (M_can_0 : Nat → Int32) (M_next : Nat → Int32)  (out : Int32 × (Nat → Int32) × (Nat → Int32) × (Nat → Int32) × (Nat → Int32) × (Nat → Int32) × (Nat → Int32) × (Nat → Int32)) (hf : FX8_choose M_roads M_first M_second M_number_0 M_lists M_trial_0 M_touching_0 M_having_0 M_most_0 M_only_0 M_can_0 = some out) : MI l yX8_choose (Cond.code yX8_choose cX8_choose 4 (some .int) :: GW) { frames := 3, cells := 0, slots := 0, locals := 66 } D cI cJ cZ [.ref m0] (wM cI cJ cZ m0 m1 m2 m3 m4 m5 m6 m7 m8 m9 m10 m11 m12 m13 M_posts M_roads M_size M_rows M_nextRows M_first M_second M_number_0 M_lists M_square M_fan M_trial_0 M_touching_0 M_having_0 M_most_0 M_only_0 M_can_0 M_next) (fun r (_ : Unit) => r = out.1) (fun _ => (wM cI cJ cZ m0 m1 m2 m3 m4 m5 m6 m7 m8 m9 m10 m11 m12 m13 M_posts M_roads M_size M_rows M_nextRows M_first M_second out.2.1 M_lists M_square M_fan out.2.2.1 out.2.2.2.1 out.2.2.2.2.1 out.2.2.2.2.2.1 out.2.2.2.2.2.2.1 out.2.2.2.2.2.2.2 M_next)) := by
  intro sz
  refine Met.ofW (cc := cX8_choose) (maxL := 4) (ret := (some .int)) (by decide +kernel) rfl ?_
  intro p e s m args below meth c s₁ B hml hv
  obtain ⟨rfl, hsz, hP, hK, hD0⟩ := hv
  have hx := B.exec
  have hb := B.bytes
  have hr := B.returns
  have hlocks := B.notSynchronized
  have hg : ∀ w ∈ GW, w.before _ s = true := fun w h => atoms_spec (ws := Cond.code yX8_choose cX8_choose 4 (some .int) :: GW) B.pre w (List.mem_cons_of_mem _ h)
  have hown : s.vm.findClass RX8 = some m.cls := findClass_of_methodNamed B.named
  subst hsz
  obtain ⟨A, hAe⟩ : ∃ A, A = va_A (wM cI cJ cZ m0 m1 m2 m3 m4 m5 m6 m7 m8 m9 m10 m11 m12 m13 M_posts M_roads M_size M_rows M_nextRows M_first M_second M_number_0 M_lists M_square M_fan M_trial_0 M_touching_0 M_having_0 M_most_0 M_only_0 M_can_0 M_next) s.heap.size := ⟨_, rfl⟩
  have hA : ∀ q : Nat, s.heap.size ≤ q → A q := fun q h => by rw [hAe]; exact Or.inr h
  have hI : WI D A s.heap (wM cI cJ cZ m0 m1 m2 m3 m4 m5 m6 m7 m8 m9 m10 m11 m12 m13 M_posts M_roads M_size M_rows M_nextRows M_first M_second M_number_0 M_lists M_square M_fan M_trial_0 M_touching_0 M_having_0 M_most_0 M_only_0 M_can_0 M_next) s.heap [] := ⟨hP, by rw [hAe]; exact hD0.self, va_S.rf⟩
  have hl := lv_entry [.ref m0] (n := 4) (Nat.le_of_ble_eq_true rfl)
  rw [lg_entry_eq]
  generalize (lg_sl [.ref m0] ++ List.replicate (4 - (lg_sl [.ref m0]).length) Slot.unset).toArray = ls at hl ⊢
  replace hl : lv_has ls 4 [(0, .ref m0)] := hl
  have L130 : ∀ (M_trial : Nat → Int32) (M_touching : Nat → Int32) (M_having : Nat → Int32) (M_most : Nat → Int32) (M_only : Nat → Int32) (M_can : Nat → Int32), ∀ (v : (Nat → Int32) × Int32) (x : Int32 × (Nat → Int32) × (Nat → Int32) × (Nat → Int32) × (Nat → Int32) × (Nat → Int32) × (Nat → Int32) × (Nat → Int32)), loopO (X8_choose_L130 M_roads M_trial M_touching M_having M_most M_only M_can) v = some x → (fun z : Int32 × (Nat → Int32) × (Nat → Int32) × (Nat → Int32) × (Nat → Int32) × (Nat → Int32) × (Nat → Int32) × (Nat → Int32) => z = out) x → (fun (v : (Nat → Int32) × Int32) => ∀ (H : Heap) (locs : List Loc) (ls : Array Slot), WI D A s.heap (wM cI cJ cZ m0 m1 m2 m3 m4 m5 m6 m7 m8 m9 m10 m11 m12 m13 M_posts M_roads M_size M_rows M_nextRows M_first M_second v.1 M_lists M_square M_fan M_trial M_touching M_having M_most M_only M_can M_next) H locs → lv_has ls 4 [(0, .ref m0), (1, .int v.2)] → GX8_choose p l e s m below meth c D cI cJ cZ m0 m1 m2 m3 m4 m5 m6 m7 m8 m9 m10 m11 m12 m13 M_posts M_roads M_size M_rows M_nextRows M_first M_second M_number_0 M_lists M_square M_fan M_trial_0 M_touching_0 M_having_0 M_most_0 M_only_0 M_can_0 M_next  out H locs (F0 m 130 ls [])) v := by
    intro M_trial M_touching M_having M_most M_only M_can
    refine loopO_ind (fun (v : (Nat → Int32) × Int32) => ∀ (H : Heap) (locs : List Loc) (ls : Array Slot), WI D A s.heap (wM cI cJ cZ m0 m1 m2 m3 m4 m5 m6 m7 m8 m9 m10 m11 m12 m13 M_posts M_roads M_size M_rows M_nextRows M_first M_second v.1 M_lists M_square M_fan M_trial M_touching M_having M_most M_only M_can M_next) H locs → lv_has ls 4 [(0, .ref m0), (1, .int v.2)] → GX8_choose p l e s m below meth c D cI cJ cZ m0 m1 m2 m3 m4 m5 m6 m7 m8 m9 m10 m11 m12 m13 M_posts M_roads M_size M_rows M_nextRows M_first M_second M_number_0 M_lists M_square M_fan M_trial_0 M_touching_0 M_having_0 M_most_0 M_only_0 M_can_0 M_next  out H locs (F0 m 130 ls [])) (fun z : Int32 × (Nat → Int32) × (Nat → Int32) × (Nat → Int32) × (Nat → Int32) × (Nat → Int32) × (Nat → Int32) × (Nat → Int32) => z = out) ?_
    intro v x hf hM H locs ls hI hl
    refine lv_iload_n hx hb dX8_choose_130 rfl (lv_at hl 1 rfl) ?_
    refine lv_aload_n hx hb dX8_choose_131 rfl (lv_at hl 0 rfl) ?_
    refine w_get hx hb hg hown hK hI iX8 0 rfl rfl 1 (by decide) wF_RX8_57 rfl dX8_choose_132 ?_
    refine lv_icmp_ge (tgt := 156) hx hb dX8_choose_135 (by decide) (fun hc => ?_) (fun hc => ?_)
    · replace hf := ite_t hc hf
      refine lv_iconst (v := 1) hx hb dX8_choose_156 (by decide) ?_
      replace hf := Option.some.inj hf
      subst hf
      replace hM : ((1 : Int32), v.1, M_trial, M_touching, M_having, M_most, M_only, M_can) = out := hM
      subst hM
      exact rt_i (u := ()) hx hb hr hlocks rfl hI hAe rfl dX8_choose_157
    · replace hf := ite_f hc hf
      refine lv_aload_n hx hb dX8_choose_138 rfl (lv_at hl 0 rfl) ?_
      refine w_get hx hb hg hown hK hI iX8 0 rfl rfl 4 (by decide) wF_RX8_16 rfl dX8_choose_139 ?_
      refine lv_iload_n hx hb dX8_choose_142 rfl (lv_at hl 1 rfl) ?_
      refine lv_aload_n hx hb dX8_choose_143 rfl (lv_at hl 0 rfl) ?_
      refine w_get hx hb hg hown hK hI iX8 0 rfl rfl 11 (by decide) wF_RX8_35 rfl dX8_choose_144 ?_
      refine lv_iload_n hx hb dX8_choose_147 rfl (lv_at hl 1 rfl) ?_
      obtain ⟨hin, hf⟩ := rd_e hf
      refine w_iald hx hb hK hI 7 rfl hin dX8_choose_148 (fun x3 ex3 => ?_)
      replace hf := hf x3 ex3
      obtain ⟨hin, hf⟩ := wr_e hf
      obtain ⟨g4, eg4⟩ : ∃ g : Nat → Int32, g = upd v.1 (v.2).toNatClampNeg x3 := ⟨_, rfl⟩
      replace hf := hf g4 eg4
      refine w_iast (g := g4) (W1 := (wM cI cJ cZ m0 m1 m2 m3 m4 m5 m6 m7 m8 m9 m10 m11 m12 m13 M_posts M_roads M_size M_rows M_nextRows M_first M_second g4 M_lists M_square M_fan M_trial M_touching M_having M_most M_only M_can M_next)) hx hb hK hI 3 rfl hin eg4 dX8_choose_149 rfl (fun H locs hI => ?_)
      obtain ⟨x5, ex5⟩ : ∃ y : Int32, y = (v.2 + (1 : Int32)) := ⟨_, rfl⟩
      replace hf := bnd_e hf x5 ex5
      refine lv_iinc (v := x5) (lv' := [(1, .int x5), (0, .ref m0)]) hx hb dX8_choose_150 hl (k := 1) rfl (by rw [ex5]; rfl) (by decide) rfl (fun ls hl => ?_)
      refine lv_goto (tgt := 130) hx hb dX8_choose_153 (by decide) ?_
      replace hf := Option.some.inj hf
      subst hf
      exact hM _ _ _ hI (lv_sub hl [1, 0] rfl)
  have J115 : ∀ (M_number : Nat → Int32) (M_trial : Nat → Int32) (M_touching : Nat → Int32) (M_having : Nat → Int32) (M_most : Nat → Int32) (M_only : Nat → Int32) (M_can : Nat → Int32) (l1 : Int32) (l2 : Int32) (x : ((Nat → Int32) × (Nat → Int32) × (Nat → Int32) × Int32) ⊕ (Int32 × (Nat → Int32) × (Nat → Int32) × (Nat → Int32) × (Nat → Int32) × (Nat → Int32) × (Nat → Int32) × (Nat → Int32))), X8_choose_J115 M_roads M_number M_lists M_trial M_touching M_having M_most M_only M_can l1 l2 = some x → (fun z => Sum.elim (fun (v1 : (Nat → Int32) × (Nat → Int32) × (Nat → Int32) × Int32) => ∀ (H : Heap) (locs : List Loc) (ls : Array Slot), WI D A s.heap (wM cI cJ cZ m0 m1 m2 m3 m4 m5 m6 m7 m8 m9 m10 m11 m12 m13 M_posts M_roads M_size M_rows M_nextRows M_first M_second M_number M_lists M_square M_fan v1.1 M_touching M_having M_most v1.2.1 v1.2.2.1 M_next) H locs → lv_has ls 4 [(0, .ref m0), (1, .int v1.2.2.2)] → GX8_choose p l e s m below meth c D cI cJ cZ m0 m1 m2 m3 m4 m5 m6 m7 m8 m9 m10 m11 m12 m13 M_posts M_roads M_size M_rows M_nextRows M_first M_second M_number_0 M_lists M_square M_fan M_trial_0 M_touching_0 M_having_0 M_most_0 M_only_0 M_can_0 M_next  out H locs (F0 m 55 ls [])) (fun z : Int32 × (Nat → Int32) × (Nat → Int32) × (Nat → Int32) × (Nat → Int32) × (Nat → Int32) × (Nat → Int32) × (Nat → Int32) => z = out) z) x → ∀ (H : Heap) (locs : List Loc) (ls : Array Slot), WI D A s.heap (wM cI cJ cZ m0 m1 m2 m3 m4 m5 m6 m7 m8 m9 m10 m11 m12 m13 M_posts M_roads M_size M_rows M_nextRows M_first M_second M_number M_lists M_square M_fan M_trial M_touching M_having M_most M_only M_can M_next) H locs → lv_has ls 4 [(0, .ref m0), (1, .int l1), (2, .int l2)] → GX8_choose p l e s m below meth c D cI cJ cZ m0 m1 m2 m3 m4 m5 m6 m7 m8 m9 m10 m11 m12 m13 M_posts M_roads M_size M_rows M_nextRows M_first M_second M_number_0 M_lists M_square M_fan M_trial_0 M_touching_0 M_having_0 M_most_0 M_only_0 M_can_0 M_next  out H locs (F0 m 115 ls []) := by
    intro M_number M_trial M_touching M_having M_most M_only M_can l1 l2 x hf hM H locs ls hI hl
    refine lv_aload_n hx hb dX8_choose_115 rfl (lv_at hl 0 rfl) ?_
    refine w_get hx hb hg hown hK hI iX8 0 rfl rfl 11 (by decide) wF_RX8_35 rfl dX8_choose_116 ?_
    refine lv_iload_n hx hb dX8_choose_119 rfl (lv_at hl 1 rfl) ?_
    refine lv_iload_n hx hb dX8_choose_120 rfl (lv_at hl 2 rfl) ?_
    obtain ⟨hin, hf⟩ := wr_e hf
    obtain ⟨g6, eg6⟩ : ∃ g : Nat → Int32, g = upd M_trial (l1).toNatClampNeg l2 := ⟨_, rfl⟩
    replace hf := hf g6 eg6
    refine w_iast (g := g6) (W1 := (wM cI cJ cZ m0 m1 m2 m3 m4 m5 m6 m7 m8 m9 m10 m11 m12 m13 M_posts M_roads M_size M_rows M_nextRows M_first M_second M_number M_lists M_square M_fan g6 M_touching M_having M_most M_only M_can M_next)) hx hb hK hI 7 rfl hin eg6 dX8_choose_121 rfl (fun H locs hI => ?_)
    obtain ⟨x7, ex7⟩ : ∃ y : Int32, y = (l1 + (1 : Int32)) := ⟨_, rfl⟩
    replace hf := bnd_e hf x7 ex7
    refine lv_iinc (v := x7) (lv' := [(1, .int x7), (0, .ref m0), (2, .int l2)]) hx hb dX8_choose_122 hl (k := 1) rfl (by rw [ex7]; rfl) (by decide) rfl (fun ls hl => ?_)
    refine lv_goto (tgt := 55) hx hb dX8_choose_125 (by decide) ?_
    replace hf := Option.some.inj hf
    subst hf
    exact hM _ _ _ hI (lv_sub hl [1, 0] rfl)
  have L67 : ∀ (M_number : Nat → Int32) (M_trial : Nat → Int32) (M_touching : Nat → Int32) (M_having : Nat → Int32) (M_most : Nat → Int32) (l1 : Int32), ∀ (v : (Nat → Int32) × (Nat → Int32) × Int32 × Int32) (x : ((Nat → Int32) × (Nat → Int32) × (Nat → Int32) × Int32) ⊕ (Int32 × (Nat → Int32) × (Nat → Int32) × (Nat → Int32) × (Nat → Int32) × (Nat → Int32) × (Nat → Int32) × (Nat → Int32))), loopO (X8_choose_L67 M_roads M_number M_lists M_trial M_touching M_having M_most l1) v = some x → (fun z => Sum.elim (fun (v1 : (Nat → Int32) × (Nat → Int32) × (Nat → Int32) × Int32) => ∀ (H : Heap) (locs : List Loc) (ls : Array Slot), WI D A s.heap (wM cI cJ cZ m0 m1 m2 m3 m4 m5 m6 m7 m8 m9 m10 m11 m12 m13 M_posts M_roads M_size M_rows M_nextRows M_first M_second M_number M_lists M_square M_fan v1.1 M_touching M_having M_most v1.2.1 v1.2.2.1 M_next) H locs → lv_has ls 4 [(0, .ref m0), (1, .int v1.2.2.2)] → GX8_choose p l e s m below meth c D cI cJ cZ m0 m1 m2 m3 m4 m5 m6 m7 m8 m9 m10 m11 m12 m13 M_posts M_roads M_size M_rows M_nextRows M_first M_second M_number_0 M_lists M_square M_fan M_trial_0 M_touching_0 M_having_0 M_most_0 M_only_0 M_can_0 M_next  out H locs (F0 m 55 ls [])) (fun z : Int32 × (Nat → Int32) × (Nat → Int32) × (Nat → Int32) × (Nat → Int32) × (Nat → Int32) × (Nat → Int32) × (Nat → Int32) => z = out) z) x → (fun (v : (Nat → Int32) × (Nat → Int32) × Int32 × Int32) => ∀ (H : Heap) (locs : List Loc) (ls : Array Slot), WI D A s.heap (wM cI cJ cZ m0 m1 m2 m3 m4 m5 m6 m7 m8 m9 m10 m11 m12 m13 M_posts M_roads M_size M_rows M_nextRows M_first M_second M_number M_lists M_square M_fan M_trial M_touching M_having M_most v.1 v.2.1 M_next) H locs → lv_has ls 4 [(0, .ref m0), (1, .int l1), (2, .int v.2.2.1), (3, .int v.2.2.2)] → GX8_choose p l e s m below meth c D cI cJ cZ m0 m1 m2 m3 m4 m5 m6 m7 m8 m9 m10 m11 m12 m13 M_posts M_roads M_size M_rows M_nextRows M_first M_second M_number_0 M_lists M_square M_fan M_trial_0 M_touching_0 M_having_0 M_most_0 M_only_0 M_can_0 M_next  out H locs (F0 m 67 ls [])) v := by
    intro M_number M_trial M_touching M_having M_most l1
    refine loopO_ind (fun (v : (Nat → Int32) × (Nat → Int32) × Int32 × Int32) => ∀ (H : Heap) (locs : List Loc) (ls : Array Slot), WI D A s.heap (wM cI cJ cZ m0 m1 m2 m3 m4 m5 m6 m7 m8 m9 m10 m11 m12 m13 M_posts M_roads M_size M_rows M_nextRows M_first M_second M_number M_lists M_square M_fan M_trial M_touching M_having M_most v.1 v.2.1 M_next) H locs → lv_has ls 4 [(0, .ref m0), (1, .int l1), (2, .int v.2.2.1), (3, .int v.2.2.2)] → GX8_choose p l e s m below meth c D cI cJ cZ m0 m1 m2 m3 m4 m5 m6 m7 m8 m9 m10 m11 m12 m13 M_posts M_roads M_size M_rows M_nextRows M_first M_second M_number_0 M_lists M_square M_fan M_trial_0 M_touching_0 M_having_0 M_most_0 M_only_0 M_can_0 M_next  out H locs (F0 m 67 ls [])) (fun z => Sum.elim (fun (v1 : (Nat → Int32) × (Nat → Int32) × (Nat → Int32) × Int32) => ∀ (H : Heap) (locs : List Loc) (ls : Array Slot), WI D A s.heap (wM cI cJ cZ m0 m1 m2 m3 m4 m5 m6 m7 m8 m9 m10 m11 m12 m13 M_posts M_roads M_size M_rows M_nextRows M_first M_second M_number M_lists M_square M_fan v1.1 M_touching M_having M_most v1.2.1 v1.2.2.1 M_next) H locs → lv_has ls 4 [(0, .ref m0), (1, .int v1.2.2.2)] → GX8_choose p l e s m below meth c D cI cJ cZ m0 m1 m2 m3 m4 m5 m6 m7 m8 m9 m10 m11 m12 m13 M_posts M_roads M_size M_rows M_nextRows M_first M_second M_number_0 M_lists M_square M_fan M_trial_0 M_touching_0 M_having_0 M_most_0 M_only_0 M_can_0 M_next  out H locs (F0 m 55 ls [])) (fun z : Int32 × (Nat → Int32) × (Nat → Int32) × (Nat → Int32) × (Nat → Int32) × (Nat → Int32) × (Nat → Int32) × (Nat → Int32) => z = out) z) ?_
    intro v x hf hM H locs ls hI hl
    refine lv_iload_n hx hb dX8_choose_67 rfl (lv_at hl 3 rfl) ?_
    refine lv_if_ne (tgt := 115) hx hb dX8_choose_68 (by decide) (fun hc => ?_) (fun hc => ?_)
    · replace hf := ite_f hc hf
      obtain ⟨z, hf2, ez⟩ := mp_e hf
      clear hf
      subst ez
      exact J115 M_number M_trial M_touching M_having M_most v.1 v.2.1 l1 v.2.2.1 _ hf2 hM _ _ _ hI (lv_sub hl [0, 1, 2] rfl)
    · replace hf := ite_t hc hf
      obtain ⟨x8, ex8⟩ : ∃ y : Int32, y = (v.2.2.1 + (1 : Int32)) := ⟨_, rfl⟩
      replace hf := bnd_e hf x8 ex8
      refine lv_iinc (v := x8) (lv' := [(2, .int x8), (0, .ref m0), (1, .int l1), (3, .int v.2.2.2)]) hx hb dX8_choose_71 hl (k := 2) rfl (by rw [ex8]; rfl) (by decide) rfl (fun ls hl => ?_)
      refine lv_aload_n hx hb dX8_choose_74 rfl (lv_at hl 1 rfl) ?_
      refine w_get hx hb hg hown hK hI iX8 0 rfl rfl 15 (by decide) wF_RX8_47 rfl dX8_choose_75 ?_
      refine lv_iload_n hx hb dX8_choose_78 rfl (lv_at hl 2 rfl) ?_
      refine lv_aload_n hx hb dX8_choose_79 rfl (lv_at hl 1 rfl) ?_
      refine w_get hx hb hg hown hK hI iX8 0 rfl rfl 5 (by decide) wF_RX8_19 rfl dX8_choose_80 ?_
      refine lv_iload_n hx hb dX8_choose_83 rfl (lv_at hl 2 rfl) ?_
      obtain ⟨hin, hf⟩ := rd_e hf
      refine w_iald hx hb hK hI 4 rfl hin dX8_choose_84 (fun x9 ex9 => ?_)
      replace hf := hf x9 ex9
      refine lv_iconst (v := 1) hx hb dX8_choose_85 (by decide) ?_
      refine lv_iload_n hx hb dX8_choose_86 rfl (lv_at hl 0 rfl) ?_
      refine lv_ishl hx hb dX8_choose_87 ?_
      refine lv_iand hx hb dX8_choose_88 ?_
      obtain ⟨hin, hf⟩ := wr_e hf
      obtain ⟨g10, eg10⟩ : ∃ g : Nat → Int32, g = upd v.1 (l1).toNatClampNeg (x9 &&& ((1 : Int32) <<< (x8 &&& (31 : Int32)))) := ⟨_, rfl⟩
      replace hf := hf g10 eg10
      refine w_iast (g := g10) (W1 := (wM cI cJ cZ m0 m1 m2 m3 m4 m5 m6 m7 m8 m9 m10 m11 m12 m13 M_posts M_roads M_size M_rows M_nextRows M_first M_second M_number M_lists M_square M_fan M_trial M_touching M_having M_most g10 v.2.1 M_next)) hx hb hK hI 11 rfl hin eg10 dX8_choose_89 rfl (fun H locs hI => ?_)
      refine lv_aload_n hx hb dX8_choose_90 rfl (lv_at hl 1 rfl) ?_
      refine w_get hx hb hg hown hK hI iX8 0 rfl rfl 15 (by decide) wF_RX8_47 rfl dX8_choose_91 ?_
      refine lv_iload_n hx hb dX8_choose_94 rfl (lv_at hl 2 rfl) ?_
      obtain ⟨hin, hf⟩ := rd_e hf
      refine w_iald hx hb hK hI 11 rfl hin dX8_choose_95 (fun x11 ex11 => ?_)
      replace hf := hf x11 ex11
      refine lv_if_eq (tgt := 110) hx hb dX8_choose_96 (by decide) (fun hc => ?_) (fun hc => ?_)
      · replace hf := ite_t hc hf
        refine lv_iconst (v := 0) hx hb dX8_choose_110 (by decide) ?_
        refine lv_istore_n (lv' := [(3, .int (0 : Int32)), (2, .int x8), (0, .ref m0), (1, .int l1)]) hx hb dX8_choose_111 rfl hl (by decide) rfl (fun ls hl => ?_)
        refine lv_goto (tgt := 67) hx hb dX8_choose_112 (by decide) ?_
        replace hf := Option.some.inj hf
        subst hf
        exact hM _ _ _ hI (lv_sub hl [2, 3, 1, 0] rfl)
      · replace hf := ite_f hc hf
        refine lv_aload_n hx hb dX8_choose_99 rfl (lv_at hl 1 rfl) ?_
        obtain ⟨o12, ho12, hf⟩ := bd_e hf
        refine w_Vi0 (wc := (wM cI cJ cZ m0 m1 m2 m3 m4 m5 m6 m7 m8 m9 m10 m11 m12 m13 M_posts M_roads M_size M_rows M_nextRows M_first M_second M_number M_lists M_square M_fan M_trial M_touching M_having M_most g10 v.2.1 M_next)) (wr := []) (rest := []) hx hb hml hg hown hK hA hI (kX8_allCan l D cI cJ cZ m0 m1 m2 m3 m4 m5 m6 m7 m8 m9 m10 m11 m12 m13 M_posts M_roads M_size M_rows M_nextRows M_first M_second M_number M_lists M_square M_fan M_trial M_touching M_having M_most g10 v.2.1 M_next  o12 ho12) kvX8_allCan wL_RX8_159 ⟨Nat.le_of_ble_eq_true rfl, Nat.le_of_ble_eq_true rfl⟩ rfl rfl [0, 1, 2, 3, 4, 5, 6, 7, 8, 9, 10, 11, 12, 13] [] rfl rfl rfl rfl (by decide) rfl rfl hl.1 (Nat.le_of_ble_eq_true rfl) dX8_choose_100 ⟨Nat.zero_le _, Nat.zero_le _⟩ ⟨rfl, rfl⟩ (fun r u H locs hp hI => ?_)
        replace hp : r = o12.1 := hp
        rw [hp]
        clear hp
        replace hI : WI D A s.heap (wM cI cJ cZ m0 m1 m2 m3 m4 m5 m6 m7 m8 m9 m10 m11 m12 m13 M_posts M_roads M_size M_rows M_nextRows M_first M_second M_number M_lists M_square M_fan M_trial M_touching M_having M_most g10 o12.2 M_next) H locs := hI
        refine lv_if_eq (tgt := 110) hx hb dX8_choose_103 (by decide) (fun hc => ?_) (fun hc => ?_)
        · replace hf := ite_t hc hf
          refine lv_iconst (v := 0) hx hb dX8_choose_110 (by decide) ?_
          refine lv_istore_n (lv' := [(3, .int (0 : Int32)), (2, .int x8), (0, .ref m0), (1, .int l1)]) hx hb dX8_choose_111 rfl hl (by decide) rfl (fun ls hl => ?_)
          refine lv_goto (tgt := 67) hx hb dX8_choose_112 (by decide) ?_
          replace hf := Option.some.inj hf
          subst hf
          exact hM _ _ _ hI (lv_sub hl [2, 3, 1, 0] rfl)
        · replace hf := ite_f hc hf
          refine lv_iconst (v := 1) hx hb dX8_choose_106 (by decide) ?_
          refine lv_goto (tgt := 111) hx hb dX8_choose_107 (by decide) ?_
          refine lv_istore_n (lv' := [(3, .int (1 : Int32)), (2, .int x8), (0, .ref m0), (1, .int l1)]) hx hb dX8_choose_111 rfl hl (by decide) rfl (fun ls hl => ?_)
          refine lv_goto (tgt := 67) hx hb dX8_choose_112 (by decide) ?_
          replace hf := Option.some.inj hf
          subst hf
          exact hM _ _ _ hI (lv_sub hl [2, 3, 1, 0] rfl)
  have L55 : ∀ (M_number : Nat → Int32) (M_touching : Nat → Int32) (M_having : Nat → Int32) (M_most : Nat → Int32), ∀ (v : (Nat → Int32) × (Nat → Int32) × (Nat → Int32) × Int32) (x : Int32 × (Nat → Int32) × (Nat → Int32) × (Nat → Int32) × (Nat → Int32) × (Nat → Int32) × (Nat → Int32) × (Nat → Int32)), loopO (X8_choose_L55 M_roads M_number M_lists M_touching M_having M_most) v = some x → (fun z : Int32 × (Nat → Int32) × (Nat → Int32) × (Nat → Int32) × (Nat → Int32) × (Nat → Int32) × (Nat → Int32) × (Nat → Int32) => z = out) x → (fun (v : (Nat → Int32) × (Nat → Int32) × (Nat → Int32) × Int32) => ∀ (H : Heap) (locs : List Loc) (ls : Array Slot), WI D A s.heap (wM cI cJ cZ m0 m1 m2 m3 m4 m5 m6 m7 m8 m9 m10 m11 m12 m13 M_posts M_roads M_size M_rows M_nextRows M_first M_second M_number M_lists M_square M_fan v.1 M_touching M_having M_most v.2.1 v.2.2.1 M_next) H locs → lv_has ls 4 [(0, .ref m0), (1, .int v.2.2.2)] → GX8_choose p l e s m below meth c D cI cJ cZ m0 m1 m2 m3 m4 m5 m6 m7 m8 m9 m10 m11 m12 m13 M_posts M_roads M_size M_rows M_nextRows M_first M_second M_number_0 M_lists M_square M_fan M_trial_0 M_touching_0 M_having_0 M_most_0 M_only_0 M_can_0 M_next  out H locs (F0 m 55 ls [])) v := by
    intro M_number M_touching M_having M_most
    refine loopO_ind (fun (v : (Nat → Int32) × (Nat → Int32) × (Nat → Int32) × Int32) => ∀ (H : Heap) (locs : List Loc) (ls : Array Slot), WI D A s.heap (wM cI cJ cZ m0 m1 m2 m3 m4 m5 m6 m7 m8 m9 m10 m11 m12 m13 M_posts M_roads M_size M_rows M_nextRows M_first M_second M_number M_lists M_square M_fan v.1 M_touching M_having M_most v.2.1 v.2.2.1 M_next) H locs → lv_has ls 4 [(0, .ref m0), (1, .int v.2.2.2)] → GX8_choose p l e s m below meth c D cI cJ cZ m0 m1 m2 m3 m4 m5 m6 m7 m8 m9 m10 m11 m12 m13 M_posts M_roads M_size M_rows M_nextRows M_first M_second M_number_0 M_lists M_square M_fan M_trial_0 M_touching_0 M_having_0 M_most_0 M_only_0 M_can_0 M_next  out H locs (F0 m 55 ls [])) (fun z : Int32 × (Nat → Int32) × (Nat → Int32) × (Nat → Int32) × (Nat → Int32) × (Nat → Int32) × (Nat → Int32) × (Nat → Int32) => z = out) ?_
    intro v x hf hM H locs ls hI hl
    refine lv_iload_n hx hb dX8_choose_55 rfl (lv_at hl 1 rfl) ?_
    refine lv_aload_n hx hb dX8_choose_56 rfl (lv_at hl 0 rfl) ?_
    refine w_get hx hb hg hown hK hI iX8 0 rfl rfl 1 (by decide) wF_RX8_57 rfl dX8_choose_57 ?_
    refine lv_icmp_ge (tgt := 128) hx hb dX8_choose_60 (by decide) (fun hc => ?_) (fun hc => ?_)
    · replace hf := ite_t hc hf
      refine lv_iconst (v := 0) hx hb dX8_choose_128 (by decide) ?_
      refine lv_istore_n (lv' := [(1, .int (0 : Int32)), (0, .ref m0)]) hx hb dX8_choose_129 rfl hl (by decide) rfl (fun ls hl => ?_)
      obtain ⟨z, hf2, ez⟩ := mp_e hf
      clear hf
      subst ez
      exact L130 v.1 M_touching M_having M_most v.2.1 v.2.2.1 (M_number, (0 : Int32)) _ hf2 hM _ _ _ hI (lv_sub hl [1, 0] rfl)
    · replace hf := ite_f hc hf
      refine lv_iconst (v := -1) hx hb dX8_choose_63 (by decide) ?_
      refine lv_istore_n (lv' := [(2, .int (-1 : Int32)), (0, .ref m0), (1, .int v.2.2.2)]) hx hb dX8_choose_64 rfl hl (by decide) rfl (fun ls hl => ?_)
      refine lv_iconst (v := 0) hx hb dX8_choose_65 (by decide) ?_
      refine lv_istore_n (lv' := [(3, .int (0 : Int32)), (2, .int (-1 : Int32)), (0, .ref m0), (1, .int v.2.2.2)]) hx hb dX8_choose_66 rfl hl (by decide) rfl (fun ls hl => ?_)
      exact L67 M_number v.1 M_touching M_having M_most v.2.2.2 (v.2.1, v.2.2.1, (-1 : Int32), (0 : Int32)) _ hf hM _ _ _ hI (lv_sub hl [2, 3, 1, 0] rfl)
  have J44 : ∀ (M_number : Nat → Int32) (M_trial : Nat → Int32) (M_touching : Nat → Int32) (M_having : Nat → Int32) (M_most : Nat → Int32) (M_only : Nat → Int32) (M_can : Nat → Int32) (x : Int32 × (Nat → Int32) × (Nat → Int32) × (Nat → Int32) × (Nat → Int32) × (Nat → Int32) × (Nat → Int32) × (Nat → Int32)), X8_choose_J44 M_roads M_number M_lists M_trial M_touching M_having M_most M_only M_can = some x → (fun z : Int32 × (Nat → Int32) × (Nat → Int32) × (Nat → Int32) × (Nat → Int32) × (Nat → Int32) × (Nat → Int32) × (Nat → Int32) => z = out) x → ∀ (H : Heap) (locs : List Loc) (ls : Array Slot), WI D A s.heap (wM cI cJ cZ m0 m1 m2 m3 m4 m5 m6 m7 m8 m9 m10 m11 m12 m13 M_posts M_roads M_size M_rows M_nextRows M_first M_second M_number M_lists M_square M_fan M_trial M_touching M_having M_most M_only M_can M_next) H locs → lv_has ls 4 [(0, .ref m0)] → GX8_choose p l e s m below meth c D cI cJ cZ m0 m1 m2 m3 m4 m5 m6 m7 m8 m9 m10 m11 m12 m13 M_posts M_roads M_size M_rows M_nextRows M_first M_second M_number_0 M_lists M_square M_fan M_trial_0 M_touching_0 M_having_0 M_most_0 M_only_0 M_can_0 M_next  out H locs (F0 m 44 ls []) := by
    intro M_number M_trial M_touching M_having M_most M_only M_can x hf hM H locs ls hI hl
    refine lv_aload_n hx hb dX8_choose_44 rfl (lv_at hl 0 rfl) ?_
    obtain ⟨o2, ho2, hf⟩ := bd_e hf
    refine w_Vi0 (wc := (wM cI cJ cZ m0 m1 m2 m3 m4 m5 m6 m7 m8 m9 m10 m11 m12 m13 M_posts M_roads M_size M_rows M_nextRows M_first M_second M_number M_lists M_square M_fan M_trial M_touching M_having M_most M_only M_can M_next)) (wr := []) (rest := []) hx hb hml hg hown hK hA hI (kX8_allCan l D cI cJ cZ m0 m1 m2 m3 m4 m5 m6 m7 m8 m9 m10 m11 m12 m13 M_posts M_roads M_size M_rows M_nextRows M_first M_second M_number M_lists M_square M_fan M_trial M_touching M_having M_most M_only M_can M_next  o2 ho2) kvX8_allCan wL_RX8_159 ⟨Nat.le_of_ble_eq_true rfl, Nat.le_of_ble_eq_true rfl⟩ rfl rfl [0, 1, 2, 3, 4, 5, 6, 7, 8, 9, 10, 11, 12, 13] [] rfl rfl rfl rfl (by decide) rfl rfl hl.1 (Nat.le_of_ble_eq_true rfl) dX8_choose_45 ⟨Nat.zero_le _, Nat.zero_le _⟩ ⟨rfl, rfl⟩ (fun r u H locs hp hI => ?_)
    replace hp : r = o2.1 := hp
    rw [hp]
    clear hp
    replace hI : WI D A s.heap (wM cI cJ cZ m0 m1 m2 m3 m4 m5 m6 m7 m8 m9 m10 m11 m12 m13 M_posts M_roads M_size M_rows M_nextRows M_first M_second M_number M_lists M_square M_fan M_trial M_touching M_having M_most M_only o2.2 M_next) H locs := hI
    refine lv_if_ne (tgt := 53) hx hb dX8_choose_48 (by decide) (fun hc => ?_) (fun hc => ?_)
    · replace hf := ite_f hc hf
      refine lv_iconst (v := 0) hx hb dX8_choose_53 (by decide) ?_
      refine lv_istore_n (lv' := [(1, .int (0 : Int32)), (0, .ref m0)]) hx hb dX8_choose_54 rfl hl (by decide) rfl (fun ls hl => ?_)
      exact L55 M_number M_touching M_having M_most (M_trial, M_only, o2.2, (0 : Int32)) _ hf hM _ _ _ hI (lv_sub hl [1, 0] rfl)
    · replace hf := ite_t hc hf
      refine lv_iconst (v := 0) hx hb dX8_choose_51 (by decide) ?_
      replace hf := Option.some.inj hf
      subst hf
      replace hM : ((0 : Int32), M_number, M_trial, M_touching, M_having, M_most, M_only, o2.2) = out := hM
      subst hM
      exact rt_i (u := ()) hx hb hr hlocks rfl hI hAe rfl dX8_choose_52
  have L18 : ∀ (M_number : Nat → Int32) (M_trial : Nat → Int32) (M_touching : Nat → Int32) (M_having : Nat → Int32) (M_most : Nat → Int32) (M_can : Nat → Int32), ∀ (v : (Nat → Int32) × Int32) (x : Int32 × (Nat → Int32) × (Nat → Int32) × (Nat → Int32) × (Nat → Int32) × (Nat → Int32) × (Nat → Int32) × (Nat → Int32)), loopO (X8_choose_L18 M_roads M_number M_lists M_trial M_touching M_having M_most M_can) v = some x → (fun z : Int32 × (Nat → Int32) × (Nat → Int32) × (Nat → Int32) × (Nat → Int32) × (Nat → Int32) × (Nat → Int32) × (Nat → Int32) => z = out) x → (fun (v : (Nat → Int32) × Int32) => ∀ (H : Heap) (locs : List Loc) (ls : Array Slot), WI D A s.heap (wM cI cJ cZ m0 m1 m2 m3 m4 m5 m6 m7 m8 m9 m10 m11 m12 m13 M_posts M_roads M_size M_rows M_nextRows M_first M_second M_number M_lists M_square M_fan M_trial M_touching M_having M_most v.1 M_can M_next) H locs → lv_has ls 4 [(0, .ref m0), (1, .int v.2)] → GX8_choose p l e s m below meth c D cI cJ cZ m0 m1 m2 m3 m4 m5 m6 m7 m8 m9 m10 m11 m12 m13 M_posts M_roads M_size M_rows M_nextRows M_first M_second M_number_0 M_lists M_square M_fan M_trial_0 M_touching_0 M_having_0 M_most_0 M_only_0 M_can_0 M_next  out H locs (F0 m 18 ls [])) v := by
    intro M_number M_trial M_touching M_having M_most M_can
    refine loopO_ind (fun (v : (Nat → Int32) × Int32) => ∀ (H : Heap) (locs : List Loc) (ls : Array Slot), WI D A s.heap (wM cI cJ cZ m0 m1 m2 m3 m4 m5 m6 m7 m8 m9 m10 m11 m12 m13 M_posts M_roads M_size M_rows M_nextRows M_first M_second M_number M_lists M_square M_fan M_trial M_touching M_having M_most v.1 M_can M_next) H locs → lv_has ls 4 [(0, .ref m0), (1, .int v.2)] → GX8_choose p l e s m below meth c D cI cJ cZ m0 m1 m2 m3 m4 m5 m6 m7 m8 m9 m10 m11 m12 m13 M_posts M_roads M_size M_rows M_nextRows M_first M_second M_number_0 M_lists M_square M_fan M_trial_0 M_touching_0 M_having_0 M_most_0 M_only_0 M_can_0 M_next  out H locs (F0 m 18 ls [])) (fun z : Int32 × (Nat → Int32) × (Nat → Int32) × (Nat → Int32) × (Nat → Int32) × (Nat → Int32) × (Nat → Int32) × (Nat → Int32) => z = out) ?_
    intro v x hf hM H locs ls hI hl
    refine lv_iload_n hx hb dX8_choose_18 rfl (lv_at hl 1 rfl) ?_
    refine lv_aload_n hx hb dX8_choose_19 rfl (lv_at hl 0 rfl) ?_
    refine w_get hx hb hg hown hK hI iX8 0 rfl rfl 1 (by decide) wF_RX8_57 rfl dX8_choose_20 ?_
    refine lv_icmp_ge (tgt := 44) hx hb dX8_choose_23 (by decide) (fun hc => ?_) (fun hc => ?_)
    · replace hf := ite_t hc hf
      obtain ⟨z, hf2, ez⟩ := mp_e hf
      clear hf
      subst ez
      exact J44 M_number M_trial M_touching M_having M_most v.1 M_can _ hf2 hM _ _ _ hI (lv_sub hl [0] rfl)
    · replace hf := ite_f hc hf
      refine lv_aload_n hx hb dX8_choose_26 rfl (lv_at hl 0 rfl) ?_
      refine w_get hx hb hg hown hK hI iX8 0 rfl rfl 15 (by decide) wF_RX8_47 rfl dX8_choose_27 ?_
      refine lv_iload_n hx hb dX8_choose_30 rfl (lv_at hl 1 rfl) ?_
      refine lv_aload_n hx hb dX8_choose_31 rfl (lv_at hl 0 rfl) ?_
      refine w_get hx hb hg hown hK hI iX8 0 rfl rfl 5 (by decide) wF_RX8_19 rfl dX8_choose_32 ?_
      refine lv_iload_n hx hb dX8_choose_35 rfl (lv_at hl 1 rfl) ?_
      obtain ⟨hin, hf⟩ := rd_e hf
      refine w_iald hx hb hK hI 4 rfl hin dX8_choose_36 (fun x13 ex13 => ?_)
      replace hf := hf x13 ex13
      obtain ⟨hin, hf⟩ := wr_e hf
      obtain ⟨g14, eg14⟩ : ∃ g : Nat → Int32, g = upd v.1 (v.2).toNatClampNeg x13 := ⟨_, rfl⟩
      replace hf := hf g14 eg14
      refine w_iast (g := g14) (W1 := (wM cI cJ cZ m0 m1 m2 m3 m4 m5 m6 m7 m8 m9 m10 m11 m12 m13 M_posts M_roads M_size M_rows M_nextRows M_first M_second M_number M_lists M_square M_fan M_trial M_touching M_having M_most g14 M_can M_next)) hx hb hK hI 11 rfl hin eg14 dX8_choose_37 rfl (fun H locs hI => ?_)
      obtain ⟨x15, ex15⟩ : ∃ y : Int32, y = (v.2 + (1 : Int32)) := ⟨_, rfl⟩
      replace hf := bnd_e hf x15 ex15
      refine lv_iinc (v := x15) (lv' := [(1, .int x15), (0, .ref m0)]) hx hb dX8_choose_38 hl (k := 1) rfl (by rw [ex15]; rfl) (by decide) rfl (fun ls hl => ?_)
      refine lv_goto (tgt := 18) hx hb dX8_choose_41 (by decide) ?_
      replace hf := Option.some.inj hf
      subst hf
      exact hM _ _ _ hI (lv_sub hl [1, 0] rfl)
  obtain ⟨x, hf, hM⟩ : ∃ x, FX8_choose M_roads M_first M_second M_number_0 M_lists M_trial_0 M_touching_0 M_having_0 M_most_0 M_only_0 M_can_0 = some x ∧ x = out := ⟨out, hf, rfl⟩
  refine lv_aload_n hx hb dX8_choose_0 rfl (lv_at hl 0 rfl) ?_
  refine w_get hx hb hg hown hK hI iX8 0 rfl rfl 1 (by decide) wF_RX8_57 rfl dX8_choose_1 ?_
  refine lv_bipush (v := 8) hx hb dX8_choose_4 (by decide) ?_
  refine lv_icmp_le (tgt := 12) hx hb dX8_choose_6 (by decide) (fun hc => ?_) (fun hc => ?_)
  · replace hf := ite_t hc hf
    refine lv_aload_n hx hb dX8_choose_12 rfl (lv_at hl 0 rfl) ?_
    obtain ⟨o1, ho1, hf⟩ := bd_e hf
    refine w_Vv0 (wc := (wM cI cJ cZ m0 m1 m2 m3 m4 m5 m6 m7 m8 m9 m10 m11 m12 m13 M_posts M_roads M_size M_rows M_nextRows M_first M_second M_number_0 M_lists M_square M_fan M_trial_0 M_touching_0 M_having_0 M_most_0 M_only_0 M_can_0 M_next)) (wr := []) (rest := []) hx hb hml hg hown hK hA hI (kX8_lookAtRoads l D cI cJ cZ m0 m1 m2 m3 m4 m5 m6 m7 m8 m9 m10 m11 m12 m13 M_posts M_roads M_size M_rows M_nextRows M_first M_second M_number_0 M_lists M_square M_fan M_trial_0 M_touching_0 M_having_0 M_most_0 M_only_0 M_can_0 M_next  o1 ho1) kvX8_lookAtRoads wL_RX8_136 ⟨Nat.le_of_ble_eq_true rfl, Nat.le_of_ble_eq_true rfl⟩ rfl rfl [0, 1, 2, 3, 4, 5, 6, 7, 8, 9, 10, 11, 12, 13] [] rfl rfl rfl rfl (by decide) rfl rfl hl.1 (Nat.le_of_ble_eq_true rfl) dX8_choose_13 ⟨Nat.zero_le _, Nat.zero_le _⟩ ⟨rfl, rfl⟩ (fun  u H locs hp hI => ?_)
    replace hI : WI D A s.heap (wM cI cJ cZ m0 m1 m2 m3 m4 m5 m6 m7 m8 m9 m10 m11 m12 m13 M_posts M_roads M_size M_rows M_nextRows M_first M_second M_number_0 M_lists M_square M_fan o1.1 o1.2.1 o1.2.2.1 o1.2.2.2 M_only_0 M_can_0 M_next) H locs := hI
    refine lv_iconst (v := 0) hx hb dX8_choose_16 (by decide) ?_
    refine lv_istore_n (lv' := [(1, .int (0 : Int32)), (0, .ref m0)]) hx hb dX8_choose_17 rfl hl (by decide) rfl (fun ls hl => ?_)
    exact L18 M_number_0 o1.1 o1.2.1 o1.2.2.1 o1.2.2.2 M_can_0 (M_only_0, (0 : Int32)) _ hf hM _ _ _ hI (lv_sub hl [1, 0] rfl)
  · replace hf := ite_f hc hf
    refine lv_bipush (v := -2) hx hb dX8_choose_9 (by decide) ?_
    replace hf := Option.some.inj hf
    subst hf
    replace hM : ((-2 : Int32), M_number_0, M_trial_0, M_touching_0, M_having_0, M_most_0, M_only_0, M_can_0) = out := hM
    subst hM
    exact rt_i (u := ()) hx hb hr hlocks rfl hI hAe rfl dX8_choose_11
