noncomputable def X8_between_L2 (M_roads : Int32) (M_first : Nat → Int32) (M_second : Nat → Int32) (l1 : Int32) (l2 : Int32) (v : Int32) : Option ((Int32) ⊕ (Int32)) :=
  if M_roads ≤ v then (some (.inr (-1 : Int32))) else ((FX8_ends M_first M_second v l1).bind (fun o1 => if o1 = (0 : Int32) then (bnd (v + (1 : Int32)) (fun x2 => some (.inl x2))) else ((FX8_ends M_first M_second v l2).bind (fun o3 => if o3 = (0 : Int32) then (bnd (v + (1 : Int32)) (fun x4 => some (.inl x4))) else (some (.inr v))))))
noncomputable def FX8_between (M_roads : Int32) (M_first : Nat → Int32) (M_second : Nat → Int32) (a1 : Int32) (a2 : Int32) : Option (Int32) :=
  loopO (X8_between_L2 M_roads M_first M_second a1 a2) (0 : Int32)
abbrev GX8_between (p : Program) (l : Launch) (e : Env) (s : State) (m : MethodId) (below : List Frame) (meth : Method) (c : Code) (D : va_G) (cI cJ cZ : ClassId) (m0 m1 m2 m3 m4 m5 m6 m7 m8 m9 m10 m11 m12 m13 : Nat) (M_posts : Int32) (M_roads : Int32) (M_size : Int32) (M_rows : Int32) (M_nextRows : Int32) (M_first : Nat → Int32) (M_second : Nat → Int32) (M_number : Nat → Int32) (M_lists : Nat → Int32) (M_square : Nat → Int32) (M_fan : Nat → Int32) (M_trial : Nat → Int32) (M_touching : Nat → Int32) (M_having : Nat → Int32) (M_most : Nat → Int32) (M_only : Nat → Int32) (M_can : Nat → Int32) (M_next : Nat → Int32) (a1 : Int32) (a2 : Int32) (out : Int32) (H : Heap) (locs : List Loc) (g : JFrame) : Prop := W p l e (headSpec (Cond.code yX8_between cX8_between 4 (some .int) :: GW) { frames := 1, cells := 0, slots := 0, locals := 22 }).room s m ([.ref m0, .int a1, .int a2] : List Value).toArray below meth c H locs 0 0 (MQ below (va_Qi (fun r (_ : Unit) => r = out) (BW D (wM cI cJ cZ m0 m1 m2 m3 m4 m5 m6 m7 m8 m9 m10 m11 m12 m13 M_posts M_roads M_size M_rows M_nextRows M_first M_second M_number M_lists M_square M_fan M_trial M_touching M_having M_most M_only M_can M_next) s.heap.size (fun _ => (wM cI cJ cZ m0 m1 m2 m3 m4 m5 m6 m7 m8 m9 m10 m11 m12 m13 M_posts M_roads M_size M_rows M_nextRows M_first M_second M_number M_lists M_square M_fan M_trial M_touching M_having M_most M_only M_can M_next))) (va_A (wM cI cJ cZ m0 m1 m2 m3 m4 m5 m6 m7 m8 m9 m10 m11 m12 m13 M_posts M_roads M_size M_rows M_nextRows M_first M_second M_number M_lists M_square M_fan M_trial M_touching M_having M_most M_only M_can M_next) s.heap.size)) ([.ref m0, .int a1, .int a2] : List Value).toArray s 0 0 (va_A (wM cI cJ cZ m0 m1 m2 m3 m4 m5 m6 m7 m8 m9 m10 m11 m12 m13 M_posts M_roads M_size M_rows M_nextRows M_first M_second M_number M_lists M_square M_fan M_trial M_touching M_having M_most M_only M_can M_next) s.heap.size)) g
theorem kvX8_between : CalV RX8 yX8_between cX8_between 4 (some .int) 2 := ⟨wC_yX8_between, wM_yX8_between, wS_yX8_between, wI_RX8, by decide +kernel⟩
set_option maxHeartbeats 4000000 in
set_option maxRecDepth 100000 in
theorem kX8_between (l : Launch) (D : va_G) (cI cJ cZ : ClassId) (m0 m1 m2 m3 m4 m5 m6 m7 m8 m9 m10 m11 m12 m13 : Nat) (M_posts : Int32) (M_roads : Int32) (M_size : Int32) (M_rows : Int32) (M_nextRows : Int32) (M_first : Nat → Int32) (M_second : Nat → Int32) (M_number : Nat → Int32) (M_lists : Nat → Int32) (M_square : Nat → Int32) (M_fan : Nat → Int32) (M_trial : Nat → Int32) (M_touching : Nat → Int32) (M_having : Nat → Int32) (M_most : Nat → Int32) (M_only : Nat → Int32) (M_can : Nat → Int32) (M_next : Nat → Int32) (a1 : Int32) (a2 : Int32) (out : Int32) (hf : FX8_between M_roads M_first M_second a1 a2 = some out) : MI l yX8_between (Cond.code yX8_between cX8_between 4 (some .int) :: GW) { frames := 1, cells := 0, slots := 0, locals := 22 } D cI cJ cZ [.ref m0, .int a1, .int a2] (wM cI cJ cZ m0 m1 m2 m3 m4 m5 m6 m7 m8 m9 m10 m11 m12 m13 M_posts M_roads M_size M_rows M_nextRows M_first M_second M_number M_lists M_square M_fan M_trial M_touching M_having M_most M_only M_can M_next) (fun r (_ : Unit) => r = out) (fun _ => (wM cI cJ cZ m0 m1 m2 m3 m4 m5 m6 m7 m8 m9 m10 m11 m12 m13 M_posts M_roads M_size M_rows M_nextRows M_first M_second M_number M_lists M_square M_fan M_trial M_touching M_having M_most M_only M_can M_next)) := by
  intro sz
  refine Met.ofW (cc := cX8_between) (maxL := 4) (ret := (some .int)) (by decide +kernel) rfl ?_
  intro p e s m args below meth c s₁ B hml hv
  obtain ⟨rfl, hsz, hP, hK, hD0⟩ := hv
  have hx := B.exec
  have hb := B.bytes
  have hr := B.returns
  have hlocks := B.notSynchronized
  have hg : ∀ w ∈ GW, w.before _ s = true := fun w h => atoms_spec (ws := Cond.code yX8_between cX8_between 4 (some .int) :: GW) B.pre w (List.mem_cons_of_mem _ h)
  have hown : s.vm.findClass RX8 = some m.cls := findClass_of_methodNamed B.named
  subst hsz
  obtain ⟨A, hAe⟩ : ∃ A, A = va_A (wM cI cJ cZ m0 m1 m2 m3 m4 m5 m6 m7 m8 m9 m10 m11 m12 m13 M_posts M_roads M_size M_rows M_nextRows M_first M_second M_number M_lists M_square M_fan M_trial M_touching M_having M_most M_only M_can M_next) s.heap.size := ⟨_, rfl⟩
  have hA : ∀ q : Nat, s.heap.size ≤ q → A q := fun q h => by rw [hAe]; exact Or.inr h
  have hI : WI D A s.heap (wM cI cJ cZ m0 m1 m2 m3 m4 m5 m6 m7 m8 m9 m10 m11 m12 m13 M_posts M_roads M_size M_rows M_nextRows M_first M_second M_number M_lists M_square M_fan M_trial M_touching M_having M_most M_only M_can M_next) s.heap [] := ⟨hP, by rw [hAe]; exact hD0.self, va_S.rf⟩
  have hl := lv_entry [.ref m0, .int a1, .int a2] (n := 4) (Nat.le_of_ble_eq_true rfl)
  rw [lg_entry_eq]
  generalize (lg_sl [.ref m0, .int a1, .int a2] ++ List.replicate (4 - (lg_sl [.ref m0, .int a1, .int a2]).length) Slot.unset).toArray = ls at hl ⊢
  replace hl : lv_has ls 4 [(0, .ref m0), (1, .int a1), (2, .int a2)] := hl
  have L2 : ∀ (l1 : Int32) (l2 : Int32), ∀ (v : Int32) (x : Int32), loopO (X8_between_L2 M_roads M_first M_second l1 l2) v = some x → (fun z : Int32 => z = out) x → (fun (v : Int32) => ∀ (H : Heap) (locs : List Loc) (ls : Array Slot), WI D A s.heap (wM cI cJ cZ m0 m1 m2 m3 m4 m5 m6 m7 m8 m9 m10 m11 m12 m13 M_posts M_roads M_size M_rows M_nextRows M_first M_second M_number M_lists M_square M_fan M_trial M_touching M_having M_most M_only M_can M_next) H locs → lv_has ls 4 [(0, .ref m0), (1, .int l1), (2, .int l2), (3, .int v)] → GX8_between p l e s m below meth c D cI cJ cZ m0 m1 m2 m3 m4 m5 m6 m7 m8 m9 m10 m11 m12 m13 M_posts M_roads M_size M_rows M_nextRows M_first M_second M_number M_lists M_square M_fan M_trial M_touching M_having M_most M_only M_can M_next a1 a2 out H locs (F0 m 2 ls [])) v := by
    intro l1 l2
    refine loopO_ind (fun (v : Int32) => ∀ (H : Heap) (locs : List Loc) (ls : Array Slot), WI D A s.heap (wM cI cJ cZ m0 m1 m2 m3 m4 m5 m6 m7 m8 m9 m10 m11 m12 m13 M_posts M_roads M_size M_rows M_nextRows M_first M_second M_number M_lists M_square M_fan M_trial M_touching M_having M_most M_only M_can M_next) H locs → lv_has ls 4 [(0, .ref m0), (1, .int l1), (2, .int l2), (3, .int v)] → GX8_between p l e s m below meth c D cI cJ cZ m0 m1 m2 m3 m4 m5 m6 m7 m8 m9 m10 m11 m12 m13 M_posts M_roads M_size M_rows M_nextRows M_first M_second M_number M_lists M_square M_fan M_trial M_touching M_having M_most M_only M_can M_next a1 a2 out H locs (F0 m 2 ls [])) (fun z : Int32 => z = out) ?_
    intro v x hf hM H locs ls hI hl
    refine lv_iload_n hx hb dX8_between_2 rfl (lv_at hl 3 rfl) ?_
    refine lv_aload_n hx hb dX8_between_3 rfl (lv_at hl 0 rfl) ?_
    refine w_get hx hb hg hown hK hI iX8 0 rfl rfl 1 (by decide) wF_RX8_57 rfl dX8_between_4 ?_
    refine lv_icmp_ge (tgt := 36) hx hb dX8_between_7 (by decide) (fun hc => ?_) (fun hc => ?_)
    · replace hf := ite_t hc hf
      refine lv_iconst (v := -1) hx hb dX8_between_36 (by decide) ?_
      replace hf := Option.some.inj hf
      subst hf
      replace hM : (-1 : Int32) = out := hM
      subst hM
      exact rt_i (u := ()) hx hb hr hlocks rfl hI hAe rfl dX8_between_37
    · replace hf := ite_f hc hf
      refine lv_aload_n hx hb dX8_between_10 rfl (lv_at hl 0 rfl) ?_
      refine lv_iload_n hx hb dX8_between_11 rfl (lv_at hl 3 rfl) ?_
      refine lv_iload_n hx hb dX8_between_12 rfl (lv_at hl 1 rfl) ?_
      obtain ⟨o1, ho1, hf⟩ := bd_e hf
      refine w_Vi0 (wc := (wM cI cJ cZ m0 m1 m2 m3 m4 m5 m6 m7 m8 m9 m10 m11 m12 m13 M_posts M_roads M_size M_rows M_nextRows M_first M_second M_number M_lists M_square M_fan M_trial M_touching M_having M_most M_only M_can M_next)) (wr := []) (rest := []) hx hb hml hg hown hK hA hI (kX8_ends l D cI cJ cZ m0 m1 m2 m3 m4 m5 m6 m7 m8 m9 m10 m11 m12 m13 M_posts M_roads M_size M_rows M_nextRows M_first M_second M_number M_lists M_square M_fan M_trial M_touching M_having M_most M_only M_can M_next v l1 o1 ho1) kvX8_ends wL_RX8_64 ⟨Nat.le_of_ble_eq_true rfl, Nat.le_of_ble_eq_true rfl⟩ rfl rfl [0, 1, 2, 3, 4, 5, 6, 7, 8, 9, 10, 11, 12, 13] [] rfl rfl rfl rfl (by decide) rfl rfl hl.1 (Nat.le_of_ble_eq_true rfl) dX8_between_13 ⟨Nat.zero_le _, Nat.zero_le _⟩ ⟨rfl, rfl⟩ (fun r u H locs hp hI => ?_)
      replace hp : r = o1 := hp
      rw [hp]
      clear hp
      replace hI : WI D A s.heap (wM cI cJ cZ m0 m1 m2 m3 m4 m5 m6 m7 m8 m9 m10 m11 m12 m13 M_posts M_roads M_size M_rows M_nextRows M_first M_second M_number M_lists M_square M_fan M_trial M_touching M_having M_most M_only M_can M_next) H locs := hI
      refine lv_if_eq (tgt := 30) hx hb dX8_between_16 (by decide) (fun hc => ?_) (fun hc => ?_)
      · replace hf := ite_t hc hf
        obtain ⟨x2, ex2⟩ : ∃ y : Int32, y = (v + (1 : Int32)) := ⟨_, rfl⟩
        replace hf := bnd_e hf x2 ex2
        refine lv_iinc (v := x2) (lv' := [(3, .int x2), (0, .ref m0), (1, .int l1), (2, .int l2)]) hx hb dX8_between_30 hl (k := 3) rfl (by rw [ex2]; rfl) (by decide) rfl (fun ls hl => ?_)
        refine lv_goto (tgt := 2) hx hb dX8_between_33 (by decide) ?_
        replace hf := Option.some.inj hf
        subst hf
        exact hM _ _ _ hI (lv_sub hl [1, 2, 3, 0] rfl)
      · replace hf := ite_f hc hf
        refine lv_aload_n hx hb dX8_between_19 rfl (lv_at hl 0 rfl) ?_
        refine lv_iload_n hx hb dX8_between_20 rfl (lv_at hl 3 rfl) ?_
        refine lv_iload_n hx hb dX8_between_21 rfl (lv_at hl 2 rfl) ?_
        obtain ⟨o3, ho3, hf⟩ := bd_e hf
        refine w_Vi0 (wc := (wM cI cJ cZ m0 m1 m2 m3 m4 m5 m6 m7 m8 m9 m10 m11 m12 m13 M_posts M_roads M_size M_rows M_nextRows M_first M_second M_number M_lists M_square M_fan M_trial M_touching M_having M_most M_only M_can M_next)) (wr := []) (rest := []) hx hb hml hg hown hK hA hI (kX8_ends l D cI cJ cZ m0 m1 m2 m3 m4 m5 m6 m7 m8 m9 m10 m11 m12 m13 M_posts M_roads M_size M_rows M_nextRows M_first M_second M_number M_lists M_square M_fan M_trial M_touching M_having M_most M_only M_can M_next v l2 o3 ho3) kvX8_ends wL_RX8_64 ⟨Nat.le_of_ble_eq_true rfl, Nat.le_of_ble_eq_true rfl⟩ rfl rfl [0, 1, 2, 3, 4, 5, 6, 7, 8, 9, 10, 11, 12, 13] [] rfl rfl rfl rfl (by decide) rfl rfl hl.1 (Nat.le_of_ble_eq_true rfl) dX8_between_22 ⟨Nat.zero_le _, Nat.zero_le _⟩ ⟨rfl, rfl⟩ (fun r u H locs hp hI => ?_)
        replace hp : r = o3 := hp
        rw [hp]
        clear hp
        replace hI : WI D A s.heap (wM cI cJ cZ m0 m1 m2 m3 m4 m5 m6 m7 m8 m9 m10 m11 m12 m13 M_posts M_roads M_size M_rows M_nextRows M_first M_second M_number M_lists M_square M_fan M_trial M_touching M_having M_most M_only M_can M_next) H locs := hI
        refine lv_if_eq (tgt := 30) hx hb dX8_between_25 (by decide) (fun hc => ?_) (fun hc => ?_)
        · replace hf := ite_t hc hf
          obtain ⟨x4, ex4⟩ : ∃ y : Int32, y = (v + (1 : Int32)) := ⟨_, rfl⟩
          replace hf := bnd_e hf x4 ex4
          refine lv_iinc (v := x4) (lv' := [(3, .int x4), (0, .ref m0), (1, .int l1), (2, .int l2)]) hx hb dX8_between_30 hl (k := 3) rfl (by rw [ex4]; rfl) (by decide) rfl (fun ls hl => ?_)
          refine lv_goto (tgt := 2) hx hb dX8_between_33 (by decide) ?_
          replace hf := Option.some.inj hf
          subst hf
          exact hM _ _ _ hI (lv_sub hl [1, 2, 3, 0] rfl)
        · replace hf := ite_f hc hf
          refine lv_iload_n hx hb dX8_between_28 rfl (lv_at hl 3 rfl) ?_
          replace hf := Option.some.inj hf
          subst hf
          replace hM : v = out := hM
          subst hM
          exact rt_i (u := ()) hx hb hr hlocks rfl hI hAe rfl dX8_between_29
  obtain ⟨x, hf, hM⟩ : ∃ x, FX8_between M_roads M_first M_second a1 a2 = some x ∧ x = out := ⟨out, hf, rfl⟩
  refine lv_iconst (v := 0) hx hb dX8_between_0 (by decide) ?_
  refine lv_istore_n (lv' := [(3, .int (0 : Int32)), (0, .ref m0), (1, .int a1), (2, .int a2)]) hx hb dX8_between_1 rfl hl (by decide) rfl (fun ls hl => ?_)
  exact L2 a1 a2 (0 : Int32) _ hf hM _ _ _ hI (lv_sub hl [1, 2, 3, 0] rfl)
noncomputable def FX8_other (M_first : Nat → Int32) (M_second : Nat → Int32) (a1 : Int32) (a2 : Int32) : Option (Int32) :=
  rd M_first 24 a1 (fun x1 => if x1 = a2 then (rd M_second 24 a1 (fun x3 => some x3)) else (rd M_first 24 a1 (fun x2 => some x2)))
abbrev GX8_other (p : Program) (l : Launch) (e : Env) (s : State) (m : MethodId) (below : List Frame) (meth : Method) (c : Code) (D : va_G) (cI cJ cZ : ClassId) (m0 m1 m2 m3 m4 m5 m6 m7 m8 m9 m10 m11 m12 m13 : Nat) (M_posts : Int32) (M_roads : Int32) (M_size : Int32) (M_rows : Int32) (M_nextRows : Int32) (M_first : Nat → Int32) (M_second : Nat → Int32) (M_number : Nat → Int32) (M_lists : Nat → Int32) (M_square : Nat → Int32) (M_fan : Nat → Int32) (M_trial : Nat → Int32) (M_touching : Nat → Int32) (M_having : Nat → Int32) (M_most : Nat → Int32) (M_only : Nat → Int32) (M_can : Nat → Int32) (M_next : Nat → Int32) (a1 : Int32) (a2 : Int32) (out : Int32) (H : Heap) (locs : List Loc) (g : JFrame) : Prop := W p l e (headSpec (Cond.code yX8_other cX8_other 3 (some .int) :: GW) { frames := 0, cells := 0, slots := 0, locals := 0 }).room s m ([.ref m0, .int a1, .int a2] : List Value).toArray below meth c H locs 0 0 (MQ below (va_Qi (fun r (_ : Unit) => r = out) (BW D (wM cI cJ cZ m0 m1 m2 m3 m4 m5 m6 m7 m8 m9 m10 m11 m12 m13 M_posts M_roads M_size M_rows M_nextRows M_first M_second M_number M_lists M_square M_fan M_trial M_touching M_having M_most M_only M_can M_next) s.heap.size (fun _ => (wM cI cJ cZ m0 m1 m2 m3 m4 m5 m6 m7 m8 m9 m10 m11 m12 m13 M_posts M_roads M_size M_rows M_nextRows M_first M_second M_number M_lists M_square M_fan M_trial M_touching M_having M_most M_only M_can M_next))) (va_A (wM cI cJ cZ m0 m1 m2 m3 m4 m5 m6 m7 m8 m9 m10 m11 m12 m13 M_posts M_roads M_size M_rows M_nextRows M_first M_second M_number M_lists M_square M_fan M_trial M_touching M_having M_most M_only M_can M_next) s.heap.size)) ([.ref m0, .int a1, .int a2] : List Value).toArray s 0 0 (va_A (wM cI cJ cZ m0 m1 m2 m3 m4 m5 m6 m7 m8 m9 m10 m11 m12 m13 M_posts M_roads M_size M_rows M_nextRows M_first M_second M_number M_lists M_square M_fan M_trial M_touching M_having M_most M_only M_can M_next) s.heap.size)) g
theorem kvX8_other : CalV RX8 yX8_other cX8_other 3 (some .int) 2 := ⟨wC_yX8_other, wM_yX8_other, wS_yX8_other, wI_RX8, by decide +kernel⟩
set_option maxHeartbeats 4000000 in
set_option maxRecDepth 100000 in
theorem kX8_other (l : Launch) (D : va_G) (cI cJ cZ : ClassId) (m0 m1 m2 m3 m4 m5 m6 m7 m8 m9 m10 m11 m12 m13 : Nat) (M_posts : Int32) (M_roads : Int32) (M_size : Int32) (M_rows : Int32) (M_nextRows : Int32) (M_first : Nat → Int32) (M_second : Nat → Int32) (M_number : Nat → Int32) (M_lists : Nat → Int32) (M_square : Nat → Int32) (M_fan : Nat → Int32) (M_trial : Nat → Int32) (M_touching : Nat → Int32) (M_having : Nat → Int32) (M_most : Nat → Int32) (M_only : Nat → Int32) (M_can : Nat → Int32) (M_next : Nat → Int32) (a1 : Int32) (a2 : Int32) (out : Int32) (hf : FX8_other M_first M_second a1 a2 = some out) : MI l yX8_other (Cond.code yX8_other cX8_other 3 (some .int) :: GW) { frames := 0, cells := 0, slots := 0, locals := 0 } D cI cJ cZ [.ref m0, .int a1, .int a2] (wM cI cJ cZ m0 m1 m2 m3 m4 m5 m6 m7 m8 m9 m10 m11 m12 m13 M_posts M_roads M_size M_rows M_nextRows M_first M_second M_number M_lists M_square M_fan M_trial M_touching M_having M_most M_only M_can M_next) (fun r (_ : Unit) => r = out) (fun _ => (wM cI cJ cZ m0 m1 m2 m3 m4 m5 m6 m7 m8 m9 m10 m11 m12 m13 M_posts M_roads M_size M_rows M_nextRows M_first M_second M_number M_lists M_square M_fan M_trial M_touching M_having M_most M_only M_can M_next)) := by
  intro sz
  refine Met.ofW (cc := cX8_other) (maxL := 3) (ret := (some .int)) (by decide +kernel) rfl ?_
  intro p e s m args below meth c s₁ B hml hv
  obtain ⟨rfl, hsz, hP, hK, hD0⟩ := hv
  have hx := B.exec
  have hb := B.bytes
  have hr := B.returns
  have hlocks := B.notSynchronized
  have hg : ∀ w ∈ GW, w.before _ s = true := fun w h => atoms_spec (ws := Cond.code yX8_other cX8_other 3 (some .int) :: GW) B.pre w (List.mem_cons_of_mem _ h)
  have hown : s.vm.findClass RX8 = some m.cls := findClass_of_methodNamed B.named
  subst hsz
  obtain ⟨A, hAe⟩ : ∃ A, A = va_A (wM cI cJ cZ m0 m1 m2 m3 m4 m5 m6 m7 m8 m9 m10 m11 m12 m13 M_posts M_roads M_size M_rows M_nextRows M_first M_second M_number M_lists M_square M_fan M_trial M_touching M_having M_most M_only M_can M_next) s.heap.size := ⟨_, rfl⟩
  have hA : ∀ q : Nat, s.heap.size ≤ q → A q := fun q h => by rw [hAe]; exact Or.inr h
  have hI : WI D A s.heap (wM cI cJ cZ m0 m1 m2 m3 m4 m5 m6 m7 m8 m9 m10 m11 m12 m13 M_posts M_roads M_size M_rows M_nextRows M_first M_second M_number M_lists M_square M_fan M_trial M_touching M_having M_most M_only M_can M_next) s.heap [] := ⟨hP, by rw [hAe]; exact hD0.self, va_S.rf⟩
  have hl := lv_entry [.ref m0, .int a1, .int a2] (n := 3) (Nat.le_of_ble_eq_true rfl)
  rw [lg_entry_eq]
  generalize (lg_sl [.ref m0, .int a1, .int a2] ++ List.replicate (3 - (lg_sl [.ref m0, .int a1, .int a2]).length) Slot.unset).toArray = ls at hl ⊢
  replace hl : lv_has ls 3 [(0, .ref m0), (1, .int a1), (2, .int a2)] := hl
  obtain ⟨x, hf, hM⟩ : ∃ x, FX8_other M_first M_second a1 a2 = some x ∧ x = out := ⟨out, hf, rfl⟩
  refine lv_aload_n hx hb dX8_other_0 rfl (lv_at hl 0 rfl) ?_
  refine w_get hx hb hg hown hK hI iX8 0 rfl rfl 2 (by decide) wF_RX8_7 rfl dX8_other_1 ?_
  refine lv_iload_n hx hb dX8_other_4 rfl (lv_at hl 1 rfl) ?_
  obtain ⟨hin, hf⟩ := rd_e hf
  refine w_iald hx hb hK hI 1 rfl hin dX8_other_5 (fun x1 ex1 => ?_)
  replace hf := hf x1 ex1
  refine lv_iload_n hx hb dX8_other_6 rfl (lv_at hl 2 rfl) ?_
  refine lv_icmp_ne (tgt := 19) hx hb dX8_other_7 (by decide) (fun hc => ?_) (fun hc => ?_)
  · replace hf := ite_f hc hf
    refine lv_aload_n hx hb dX8_other_19 rfl (lv_at hl 0 rfl) ?_
    refine w_get hx hb hg hown hK hI iX8 0 rfl rfl 2 (by decide) wF_RX8_7 rfl dX8_other_20 ?_
    refine lv_iload_n hx hb dX8_other_23 rfl (lv_at hl 1 rfl) ?_
    obtain ⟨hin, hf⟩ := rd_e hf
    refine w_iald hx hb hK hI 1 rfl hin dX8_other_24 (fun x2 ex2 => ?_)
    replace hf := hf x2 ex2
    replace hf := Option.some.inj hf
    subst hf
    replace hM : x2 = out := hM
    subst hM
    exact rt_i (u := ()) hx hb hr hlocks rfl hI hAe rfl dX8_other_25
  · replace hf := ite_t hc hf
    refine lv_aload_n hx hb dX8_other_10 rfl (lv_at hl 0 rfl) ?_
    refine w_get hx hb hg hown hK hI iX8 0 rfl rfl 3 (by decide) wF_RX8_13 rfl dX8_other_11 ?_
    refine lv_iload_n hx hb dX8_other_14 rfl (lv_at hl 1 rfl) ?_
    obtain ⟨hin, hf⟩ := rd_e hf
    refine w_iald hx hb hK hI 2 rfl hin dX8_other_15 (fun x3 ex3 => ?_)
    replace hf := hf x3 ex3
    refine lv_goto (tgt := 25) hx hb dX8_other_16 (by decide) ?_
    replace hf := Option.some.inj hf
    subst hf
    replace hM : x3 = out := hM
    subst hM
    exact rt_i (u := ()) hx hb hr hlocks rfl hI hAe rfl dX8_other_25
noncomputable def X8_turned_J53 (M_roads : Int32) (M_first : Nat → Int32) (M_second : Nat → Int32) (M_number : Nat → Int32) (M_fan : Nat → Int32) (l1 : Int32) (l2 : Int32) (l3 : Int32) : Option ((Nat → Int32)) :=
  rd M_fan 12 (l2 - (1 : Int32)) (fun x1 => (FX8_between M_roads M_first M_second l1 x1).bind (fun o2 => wr M_number 24 o2 l3 (fun g3 => some g3)))
noncomputable def X8_turned_L3 (M_roads : Int32) (M_first : Nat → Int32) (M_second : Nat → Int32) (M_fan : Nat → Int32) (l1 : Int32) (l2 : Int32) (l3 : Int32) (v : (Nat → Int32) × Int32) : Option (((Nat → Int32) × Int32) ⊕ ((Nat → Int32))) :=
  if (l2 - (1 : Int32)) ≤ v.2 then ((X8_turned_J53 M_roads M_first M_second v.1 M_fan l1 l2 l3).map (fun z => (.inr z))) else (rd M_fan 12 v.2 (fun x4 => (FX8_between M_roads M_first M_second l1 x4).bind (fun o5 => rd M_fan 12 (v.2 + (1 : Int32)) (fun x6 => (FX8_between M_roads M_first M_second l1 x6).bind (fun o7 => rd v.1 24 o7 (fun x8 => wr v.1 24 o5 x8 (fun g9 => bnd (v.2 + (1 : Int32)) (fun x10 => some (.inl (g9, x10))))))))))
noncomputable def FX8_turned (M_roads : Int32) (M_first : Nat → Int32) (M_second : Nat → Int32) (M_number_0 : Nat → Int32) (M_fan : Nat → Int32) (a1 : Int32) (a2 : Int32) (a3 : Int32) : Option ((Nat → Int32)) :=
  loopO (X8_turned_L3 M_roads M_first M_second M_fan a1 a2 a3) (M_number_0, (0 : Int32))
abbrev GX8_turned (p : Program) (l : Launch) (e : Env) (s : State) (m : MethodId) (below : List Frame) (meth : Method) (c : Code) (D : va_G) (cI cJ cZ : ClassId) (m0 m1 m2 m3 m4 m5 m6 m7 m8 m9 m10 m11 m12 m13 : Nat) (M_posts : Int32) (M_roads : Int32) (M_size : Int32) (M_rows : Int32) (M_nextRows : Int32) (M_first : Nat → Int32) (M_second : Nat → Int32) (M_number_0 : Nat → Int32) (M_lists : Nat → Int32) (M_square : Nat → Int32) (M_fan : Nat → Int32) (M_trial : Nat → Int32) (M_touching : Nat → Int32) (M_having : Nat → Int32) (M_most : Nat → Int32) (M_only : Nat → Int32) (M_can : Nat → Int32) (M_next : Nat → Int32) (a1 : Int32) (a2 : Int32) (a3 : Int32) (out : (Nat → Int32)) (H : Heap) (locs : List Loc) (g : JFrame) : Prop := W p l e (headSpec (Cond.code yX8_turned cX8_turned 5 none :: GW) { frames := 2, cells := 0, slots := 0, locals := 45 }).room s m ([.ref m0, .int a1, .int a2, .int a3] : List Value).toArray below meth c H locs 0 0 (MQ below (va_Qv (fun (_ : Unit) => True) (BW D (wM cI cJ cZ m0 m1 m2 m3 m4 m5 m6 m7 m8 m9 m10 m11 m12 m13 M_posts M_roads M_size M_rows M_nextRows M_first M_second M_number_0 M_lists M_square M_fan M_trial M_touching M_having M_most M_only M_can M_next) s.heap.size (fun _ => (wM cI cJ cZ m0 m1 m2 m3 m4 m5 m6 m7 m8 m9 m10 m11 m12 m13 M_posts M_roads M_size M_rows M_nextRows M_first M_second out M_lists M_square M_fan M_trial M_touching M_having M_most M_only M_can M_next))) (va_A (wM cI cJ cZ m0 m1 m2 m3 m4 m5 m6 m7 m8 m9 m10 m11 m12 m13 M_posts M_roads M_size M_rows M_nextRows M_first M_second M_number_0 M_lists M_square M_fan M_trial M_touching M_having M_most M_only M_can M_next) s.heap.size)) ([.ref m0, .int a1, .int a2, .int a3] : List Value).toArray s 0 0 (va_A (wM cI cJ cZ m0 m1 m2 m3 m4 m5 m6 m7 m8 m9 m10 m11 m12 m13 M_posts M_roads M_size M_rows M_nextRows M_first M_second M_number_0 M_lists M_square M_fan M_trial M_touching M_having M_most M_only M_can M_next) s.heap.size)) g
theorem kvX8_turned : CalV RX8 yX8_turned cX8_turned 5 none 3 := ⟨wC_yX8_turned, wM_yX8_turned, wS_yX8_turned, wI_RX8, by decide +kernel⟩
set_option maxHeartbeats 4000000 in
set_option maxRecDepth 100000 in
theorem kX8_turned (l : Launch) (D : va_G) (cI cJ cZ : ClassId) (m0 m1 m2 m3 m4 m5 m6 m7 m8 m9 m10 m11 m12 m13 : Nat) (M_posts : Int32) (M_roads : Int32) (M_size : Int32) (M_rows : Int32) (M_nextRows : Int32) (M_first : Nat → Int32) (M_second : Nat → Int32) (M_number_0 : Nat → Int32) (M_lists : Nat → Int32) (M_square : Nat → Int32) (M_fan : Nat → Int32) (M_trial : Nat → Int32) (M_touching : Nat → Int32) (M_having : Nat → Int32) (M_most : Nat → Int32) (M_only : Nat → Int32) (M_can : Nat → Int32) (M_next : Nat → Int32) (a1 : Int32) (a2 : Int32) (a3 : Int32) (out : (Nat → Int32)) (hf : FX8_turned M_roads M_first M_second M_number_0 M_fan a1 a2 a3 = some out) : MV l yX8_turned (Cond.code yX8_turned cX8_turned 5 none :: GW) { frames := 2, cells := 0, slots := 0, locals := 45 } D cI cJ cZ [.ref m0, .int a1, .int a2, .int a3] (wM cI cJ cZ m0 m1 m2 m3 m4 m5 m6 m7 m8 m9 m10 m11 m12 m13 M_posts M_roads M_size M_rows M_nextRows M_first M_second M_number_0 M_lists M_square M_fan M_trial M_touching M_having M_most M_only M_can M_next) (fun (_ : Unit) => True) (fun _ => (wM cI cJ cZ m0 m1 m2 m3 m4 m5 m6 m7 m8 m9 m10 m11 m12 m13 M_posts M_roads M_size M_rows M_nextRows M_first M_second out M_lists M_square M_fan M_trial M_touching M_having M_most M_only M_can M_next)) := by
  intro sz
  refine Met.ofW (cc := cX8_turned) (maxL := 5) (ret := none) (by decide +kernel) rfl ?_
  intro p e s m args below meth c s₁ B hml hv
  obtain ⟨rfl, hsz, hP, hK, hD0⟩ := hv
  have hx := B.exec
  have hb := B.bytes
  have hr := B.returns
  have hlocks := B.notSynchronized
  have hg : ∀ w ∈ GW, w.before _ s = true := fun w h => atoms_spec (ws := Cond.code yX8_turned cX8_turned 5 none :: GW) B.pre w (List.mem_cons_of_mem _ h)
  have hown : s.vm.findClass RX8 = some m.cls := findClass_of_methodNamed B.named
  subst hsz
  obtain ⟨A, hAe⟩ : ∃ A, A = va_A (wM cI cJ cZ m0 m1 m2 m3 m4 m5 m6 m7 m8 m9 m10 m11 m12 m13 M_posts M_roads M_size M_rows M_nextRows M_first M_second M_number_0 M_lists M_square M_fan M_trial M_touching M_having M_most M_only M_can M_next) s.heap.size := ⟨_, rfl⟩
  have hA : ∀ q : Nat, s.heap.size ≤ q → A q := fun q h => by rw [hAe]; exact Or.inr h
  have hI : WI D A s.heap (wM cI cJ cZ m0 m1 m2 m3 m4 m5 m6 m7 m8 m9 m10 m11 m12 m13 M_posts M_roads M_size M_rows M_nextRows M_first M_second M_number_0 M_lists M_square M_fan M_trial M_touching M_having M_most M_only M_can M_next) s.heap [] := ⟨hP, by rw [hAe]; exact hD0.self, va_S.rf⟩
  have hl := lv_entry [.ref m0, .int a1, .int a2, .int a3] (n := 5) (Nat.le_of_ble_eq_true rfl)
  rw [lg_entry_eq]
  generalize (lg_sl [.ref m0, .int a1, .int a2, .int a3] ++ List.replicate (5 - (lg_sl [.ref m0, .int a1, .int a2, .int a3]).length) Slot.unset).toArray = ls at hl ⊢
  replace hl : lv_has ls 5 [(0, .ref m0), (1, .int a1), (2, .int a2), (3, .int a3)] := hl
  have J53 : ∀ (M_number : Nat → Int32) (l1 : Int32) (l2 : Int32) (l3 : Int32) (x : (Nat → Int32)), X8_turned_J53 M_roads M_first M_second M_number M_fan l1 l2 l3 = some x → (fun z : (Nat → Int32) => z = out) x → ∀ (H : Heap) (locs : List Loc) (ls : Array Slot), WI D A s.heap (wM cI cJ cZ m0 m1 m2 m3 m4 m5 m6 m7 m8 m9 m10 m11 m12 m13 M_posts M_roads M_size M_rows M_nextRows M_first M_second M_number M_lists M_square M_fan M_trial M_touching M_having M_most M_only M_can M_next) H locs → lv_has ls 5 [(0, .ref m0), (1, .int l1), (2, .int l2), (3, .int l3)] → GX8_turned p l e s m below meth c D cI cJ cZ m0 m1 m2 m3 m4 m5 m6 m7 m8 m9 m10 m11 m12 m13 M_posts M_roads M_size M_rows M_nextRows M_first M_second M_number_0 M_lists M_square M_fan M_trial M_touching M_having M_most M_only M_can M_next a1 a2 a3 out H locs (F0 m 53 ls []) := by
    intro M_number l1 l2 l3 x hf hM H locs ls hI hl
    refine lv_aload_n hx hb dX8_turned_53 rfl (lv_at hl 0 rfl) ?_
    refine w_get hx hb hg hown hK hI iX8 0 rfl rfl 4 (by decide) wF_RX8_16 rfl dX8_turned_54 ?_
    refine lv_aload_n hx hb dX8_turned_57 rfl (lv_at hl 0 rfl) ?_
    refine lv_iload_n hx hb dX8_turned_58 rfl (lv_at hl 1 rfl) ?_
    refine lv_aload_n hx hb dX8_turned_59 rfl (lv_at hl 0 rfl) ?_
    refine w_get hx hb hg hown hK hI iX8 0 rfl rfl 10 (by decide) wF_RX8_32 rfl dX8_turned_60 ?_
    refine lv_iload_n hx hb dX8_turned_63 rfl (lv_at hl 2 rfl) ?_
    refine lv_iconst (v := 1) hx hb dX8_turned_64 (by decide) ?_
    refine lv_isub hx hb dX8_turned_65 ?_
    obtain ⟨hin, hf⟩ := rd_e hf
    refine w_iald hx hb hK hI 6 rfl hin dX8_turned_66 (fun x1 ex1 => ?_)
    replace hf := hf x1 ex1
    obtain ⟨o2, ho2, hf⟩ := bd_e hf
    refine w_Vi0 (wc := (wM cI cJ cZ m0 m1 m2 m3 m4 m5 m6 m7 m8 m9 m10 m11 m12 m13 M_posts M_roads M_size M_rows M_nextRows M_first M_second M_number M_lists M_square M_fan M_trial M_touching M_having M_most M_only M_can M_next)) (wr := []) (rest := [.ref m3]) hx hb hml hg hown hK hA hI (kX8_between l D cI cJ cZ m0 m1 m2 m3 m4 m5 m6 m7 m8 m9 m10 m11 m12 m13 M_posts M_roads M_size M_rows M_nextRows M_first M_second M_number M_lists M_square M_fan M_trial M_touching M_having M_most M_only M_can M_next l1 x1 o2 ho2) kvX8_between wL_RX8_114 ⟨Nat.le_of_ble_eq_true rfl, Nat.le_of_ble_eq_true rfl⟩ rfl rfl [0, 1, 2, 3, 4, 5, 6, 7, 8, 9, 10, 11, 12, 13] [] rfl rfl rfl rfl (by decide) rfl rfl hl.1 (Nat.le_of_ble_eq_true rfl) dX8_turned_67 ⟨Nat.zero_le _, Nat.zero_le _⟩ ⟨rfl, rfl⟩ (fun r u H locs hp hI => ?_)
    replace hp : r = o2 := hp
    rw [hp]
    clear hp
    replace hI : WI D A s.heap (wM cI cJ cZ m0 m1 m2 m3 m4 m5 m6 m7 m8 m9 m10 m11 m12 m13 M_posts M_roads M_size M_rows M_nextRows M_first M_second M_number M_lists M_square M_fan M_trial M_touching M_having M_most M_only M_can M_next) H locs := hI
    refine lv_iload_n hx hb dX8_turned_70 rfl (lv_at hl 3 rfl) ?_
    obtain ⟨hin, hf⟩ := wr_e hf
    obtain ⟨g3, eg3⟩ : ∃ g : Nat → Int32, g = upd M_number (o2).toNatClampNeg l3 := ⟨_, rfl⟩
    replace hf := hf g3 eg3
    refine w_iast (g := g3) (W1 := (wM cI cJ cZ m0 m1 m2 m3 m4 m5 m6 m7 m8 m9 m10 m11 m12 m13 M_posts M_roads M_size M_rows M_nextRows M_first M_second g3 M_lists M_square M_fan M_trial M_touching M_having M_most M_only M_can M_next)) hx hb hK hI 3 rfl hin eg3 dX8_turned_71 rfl (fun H locs hI => ?_)
    replace hf := Option.some.inj hf
    subst hf
    replace hM : g3 = out := hM
    subst hM
    exact rt_v (u := ()) hx hb hr hlocks hI hAe trivial dX8_turned_72
  have L3 : ∀ (l1 : Int32) (l2 : Int32) (l3 : Int32), ∀ (v : (Nat → Int32) × Int32) (x : (Nat → Int32)), loopO (X8_turned_L3 M_roads M_first M_second M_fan l1 l2 l3) v = some x → (fun z : (Nat → Int32) => z = out) x → (fun (v : (Nat → Int32) × Int32) => ∀ (H : Heap) (locs : List Loc) (ls : Array Slot), WI D A s.heap (wM cI cJ cZ m0 m1 m2 m3 m4 m5 m6 m7 m8 m9 m10 m11 m12 m13 M_posts M_roads M_size M_rows M_nextRows M_first M_second v.1 M_lists M_square M_fan M_trial M_touching M_having M_most M_only M_can M_next) H locs → lv_has ls 5 [(0, .ref m0), (1, .int l1), (2, .int l2), (3, .int l3), (4, .int v.2)] → GX8_turned p l e s m below meth c D cI cJ cZ m0 m1 m2 m3 m4 m5 m6 m7 m8 m9 m10 m11 m12 m13 M_posts M_roads M_size M_rows M_nextRows M_first M_second M_number_0 M_lists M_square M_fan M_trial M_touching M_having M_most M_only M_can M_next a1 a2 a3 out H locs (F0 m 3 ls [])) v := by
    intro l1 l2 l3
    refine loopO_ind (fun (v : (Nat → Int32) × Int32) => ∀ (H : Heap) (locs : List Loc) (ls : Array Slot), WI D A s.heap (wM cI cJ cZ m0 m1 m2 m3 m4 m5 m6 m7 m8 m9 m10 m11 m12 m13 M_posts M_roads M_size M_rows M_nextRows M_first M_second v.1 M_lists M_square M_fan M_trial M_touching M_having M_most M_only M_can M_next) H locs → lv_has ls 5 [(0, .ref m0), (1, .int l1), (2, .int l2), (3, .int l3), (4, .int v.2)] → GX8_turned p l e s m below meth c D cI cJ cZ m0 m1 m2 m3 m4 m5 m6 m7 m8 m9 m10 m11 m12 m13 M_posts M_roads M_size M_rows M_nextRows M_first M_second M_number_0 M_lists M_square M_fan M_trial M_touching M_having M_most M_only M_can M_next a1 a2 a3 out H locs (F0 m 3 ls [])) (fun z : (Nat → Int32) => z = out) ?_
    intro v x hf hM H locs ls hI hl
    refine lv_iload hx hb dX8_turned_3 (lv_at hl 4 rfl) ?_
    refine lv_iload_n hx hb dX8_turned_5 rfl (lv_at hl 2 rfl) ?_
    refine lv_iconst (v := 1) hx hb dX8_turned_6 (by decide) ?_
    refine lv_isub hx hb dX8_turned_7 ?_
    refine lv_icmp_ge (tgt := 53) hx hb dX8_turned_8 (by decide) (fun hc => ?_) (fun hc => ?_)
    · replace hf := ite_t hc hf
      obtain ⟨z, hf2, ez⟩ := mp_e hf
      clear hf
      subst ez
      exact J53 v.1 l1 l2 l3 _ hf2 hM _ _ _ hI (lv_sub hl [0, 1, 2, 3] rfl)
    · replace hf := ite_f hc hf
      refine lv_aload_n hx hb dX8_turned_11 rfl (lv_at hl 0 rfl) ?_
      refine w_get hx hb hg hown hK hI iX8 0 rfl rfl 4 (by decide) wF_RX8_16 rfl dX8_turned_12 ?_
      refine lv_aload_n hx hb dX8_turned_15 rfl (lv_at hl 0 rfl) ?_
      refine lv_iload_n hx hb dX8_turned_16 rfl (lv_at hl 1 rfl) ?_
      refine lv_aload_n hx hb dX8_turned_17 rfl (lv_at hl 0 rfl) ?_
      refine w_get hx hb hg hown hK hI iX8 0 rfl rfl 10 (by decide) wF_RX8_32 rfl dX8_turned_18 ?_
      refine lv_iload hx hb dX8_turned_21 (lv_at hl 4 rfl) ?_
      obtain ⟨hin, hf⟩ := rd_e hf
      refine w_iald hx hb hK hI 6 rfl hin dX8_turned_23 (fun x4 ex4 => ?_)
      replace hf := hf x4 ex4
      obtain ⟨o5, ho5, hf⟩ := bd_e hf
      refine w_Vi0 (wc := (wM cI cJ cZ m0 m1 m2 m3 m4 m5 m6 m7 m8 m9 m10 m11 m12 m13 M_posts M_roads M_size M_rows M_nextRows M_first M_second v.1 M_lists M_square M_fan M_trial M_touching M_having M_most M_only M_can M_next)) (wr := []) (rest := [.ref m3]) hx hb hml hg hown hK hA hI (kX8_between l D cI cJ cZ m0 m1 m2 m3 m4 m5 m6 m7 m8 m9 m10 m11 m12 m13 M_posts M_roads M_size M_rows M_nextRows M_first M_second v.1 M_lists M_square M_fan M_trial M_touching M_having M_most M_only M_can M_next l1 x4 o5 ho5) kvX8_between wL_RX8_114 ⟨Nat.le_of_ble_eq_true rfl, Nat.le_of_ble_eq_true rfl⟩ rfl rfl [0, 1, 2, 3, 4, 5, 6, 7, 8, 9, 10, 11, 12, 13] [] rfl rfl rfl rfl (by decide) rfl rfl hl.1 (Nat.le_of_ble_eq_true rfl) dX8_turned_24 ⟨Nat.zero_le _, Nat.zero_le _⟩ ⟨rfl, rfl⟩ (fun r u H locs hp hI => ?_)
      replace hp : r = o5 := hp
      rw [hp]
      clear hp
      replace hI : WI D A s.heap (wM cI cJ cZ m0 m1 m2 m3 m4 m5 m6 m7 m8 m9 m10 m11 m12 m13 M_posts M_roads M_size M_rows M_nextRows M_first M_second v.1 M_lists M_square M_fan M_trial M_touching M_having M_most M_only M_can M_next) H locs := hI
      refine lv_aload_n hx hb dX8_turned_27 rfl (lv_at hl 0 rfl) ?_
      refine w_get hx hb hg hown hK hI iX8 0 rfl rfl 4 (by decide) wF_RX8_16 rfl dX8_turned_28 ?_
      refine lv_aload_n hx hb dX8_turned_31 rfl (lv_at hl 0 rfl) ?_
      refine lv_iload_n hx hb dX8_turned_32 rfl (lv_at hl 1 rfl) ?_
      refine lv_aload_n hx hb dX8_turned_33 rfl (lv_at hl 0 rfl) ?_
      refine w_get hx hb hg hown hK hI iX8 0 rfl rfl 10 (by decide) wF_RX8_32 rfl dX8_turned_34 ?_
      refine lv_iload hx hb dX8_turned_37 (lv_at hl 4 rfl) ?_
      refine lv_iconst (v := 1) hx hb dX8_turned_39 (by decide) ?_
      refine lv_iadd hx hb dX8_turned_40 ?_
      obtain ⟨hin, hf⟩ := rd_e hf
      refine w_iald hx hb hK hI 6 rfl hin dX8_turned_41 (fun x6 ex6 => ?_)
      replace hf := hf x6 ex6
      obtain ⟨o7, ho7, hf⟩ := bd_e hf
      refine w_Vi0 (wc := (wM cI cJ cZ m0 m1 m2 m3 m4 m5 m6 m7 m8 m9 m10 m11 m12 m13 M_posts M_roads M_size M_rows M_nextRows M_first M_second v.1 M_lists M_square M_fan M_trial M_touching M_having M_most M_only M_can M_next)) (wr := []) (rest := [.ref m3, .int o5, .ref m3]) hx hb hml hg hown hK hA hI (kX8_between l D cI cJ cZ m0 m1 m2 m3 m4 m5 m6 m7 m8 m9 m10 m11 m12 m13 M_posts M_roads M_size M_rows M_nextRows M_first M_second v.1 M_lists M_square M_fan M_trial M_touching M_having M_most M_only M_can M_next l1 x6 o7 ho7) kvX8_between wL_RX8_114 ⟨Nat.le_of_ble_eq_true rfl, Nat.le_of_ble_eq_true rfl⟩ rfl rfl [0, 1, 2, 3, 4, 5, 6, 7, 8, 9, 10, 11, 12, 13] [] rfl rfl rfl rfl (by decide) rfl rfl hl.1 (Nat.le_of_ble_eq_true rfl) dX8_turned_42 ⟨Nat.zero_le _, Nat.zero_le _⟩ ⟨rfl, rfl⟩ (fun r u H locs hp hI => ?_)
      replace hp : r = o7 := hp
      rw [hp]
      clear hp
      replace hI : WI D A s.heap (wM cI cJ cZ m0 m1 m2 m3 m4 m5 m6 m7 m8 m9 m10 m11 m12 m13 M_posts M_roads M_size M_rows M_nextRows M_first M_second v.1 M_lists M_square M_fan M_trial M_touching M_having M_most M_only M_can M_next) H locs := hI
      obtain ⟨hin, hf⟩ := rd_e hf
      refine w_iald hx hb hK hI 3 rfl hin dX8_turned_45 (fun x8 ex8 => ?_)
      replace hf := hf x8 ex8
      obtain ⟨hin, hf⟩ := wr_e hf
      obtain ⟨g9, eg9⟩ : ∃ g : Nat → Int32, g = upd v.1 (o5).toNatClampNeg x8 := ⟨_, rfl⟩
      replace hf := hf g9 eg9
      refine w_iast (g := g9) (W1 := (wM cI cJ cZ m0 m1 m2 m3 m4 m5 m6 m7 m8 m9 m10 m11 m12 m13 M_posts M_roads M_size M_rows M_nextRows M_first M_second g9 M_lists M_square M_fan M_trial M_touching M_having M_most M_only M_can M_next)) hx hb hK hI 3 rfl hin eg9 dX8_turned_46 rfl (fun H locs hI => ?_)
      obtain ⟨x10, ex10⟩ : ∃ y : Int32, y = (v.2 + (1 : Int32)) := ⟨_, rfl⟩
      replace hf := bnd_e hf x10 ex10
      refine lv_iinc (v := x10) (lv' := [(4, .int x10), (0, .ref m0), (1, .int l1), (2, .int l2), (3, .int l3)]) hx hb dX8_turned_47 hl (k := 4) rfl (by rw [ex10]; rfl) (by decide) rfl (fun ls hl => ?_)
      refine lv_goto (tgt := 3) hx hb dX8_turned_50 (by decide) ?_
      replace hf := Option.some.inj hf
      subst hf
      exact hM _ _ _ hI (lv_sub hl [1, 2, 3, 4, 0] rfl)
  obtain ⟨x, hf, hM⟩ : ∃ x, FX8_turned M_roads M_first M_second M_number_0 M_fan a1 a2 a3 = some x ∧ x = out := ⟨out, hf, rfl⟩
  refine lv_iconst (v := 0) hx hb dX8_turned_0 (by decide) ?_
  refine lv_istore (lv' := [(4, .int (0 : Int32)), (0, .ref m0), (1, .int a1), (2, .int a2), (3, .int a3)]) hx hb dX8_turned_1 hl (by decide) rfl (fun ls hl => ?_)
  exact L3 a1 a2 a3 (M_number_0, (0 : Int32)) _ hf hM _ _ _ hI (lv_sub hl [1, 2, 3, 4, 0] rfl)
noncomputable def X8_mend_J294 (M_roads : Int32) (M_first : Nat → Int32) (M_second : Nat → Int32) (M_number : Nat → Int32) (M_fan : Nat → Int32) (l1 : Int32) (l4 : Int32) (s1 : Int32) (s2 : Int32) : Option (Int32 × (Nat → Int32) × (Nat → Int32)) :=
  (FX8_turned M_roads M_first M_second M_number M_fan s1 s2 l4).bind (fun o16 => rd o16 24 l1 (fun x17 => some (x17, o16, M_fan)))
noncomputable def X8_mend_J271 (M_roads : Int32) (M_first : Nat → Int32) (M_second : Nat → Int32) (M_number : Nat → Int32) (M_fan : Nat → Int32) (l1 : Int32) (l2 : Int32) (l3 : Int32) (l4 : Int32) (l7 : Int32) (l9 : Int32) (l10 : Int32) (l11 : Int32) : Option (Int32 × (Nat → Int32) × (Nat → Int32)) :=
  (FX8_swapped M_roads M_number l10 l4 l9).bind (fun o15 => if l11 = (0 : Int32) then (X8_mend_J294 M_roads M_first M_second o15 M_fan l1 l4 l2 l7) else (X8_mend_J294 M_roads M_first M_second o15 M_fan l1 l4 l2 l3))
noncomputable def X8_mend_L222 (M_roads : Int32) (M_first : Nat → Int32) (M_second : Nat → Int32) (M_number : Nat → Int32) (M_fan : Nat → Int32) (l1 : Int32) (l2 : Int32) (l3 : Int32) (l4 : Int32) (l7 : Int32) (l8 : Int32) (l9 : Int32) (l10 : Int32) (v : Int32 × Int32) : Option ((Int32 × Int32) ⊕ (Int32 × (Nat → Int32) × (Nat → Int32))) :=
  if M_roads ≤ v.2 then ((X8_mend_J271 M_roads M_first M_second M_number M_fan l1 l2 l3 l4 l7 l9 l10 v.1).map (fun z => (.inr z))) else (if v.1 = (0 : Int32) then (if ((l10 >>> (v.2 &&& (31 : Int32))) &&& (1 : Int32)) = (1 : Int32) then ((FX8_ends M_first M_second v.2 l8).bind (fun o20 => if o20 = (0 : Int32) then (bnd (v.2 + (1 : Int32)) (fun x21 => some (.inl ((0 : Int32), x21)))) else (bnd (v.2 + (1 : Int32)) (fun x22 => some (.inl ((1 : Int32), x22)))))) else (bnd (v.2 + (1 : Int32)) (fun x19 => some (.inl ((0 : Int32), x19))))) else (bnd (v.2 + (1 : Int32)) (fun x18 => some (.inl ((1 : Int32), x18)))))
noncomputable def X8_mend_J186 (M_roads : Int32) (M_first : Nat → Int32) (M_second : Nat → Int32) (M_number : Nat → Int32) (M_fan : Nat → Int32) (l1 : Int32) (l2 : Int32) (l3 : Int32) (l4 : Int32) (l5 : Int32) (l7 : Int32) : Option (Int32 × (Nat → Int32) × (Nat → Int32)) :=
  rd M_fan 12 (l7 - (1 : Int32)) (fun x12 => (FX8_leastFree M_roads M_first M_second M_number l2).bind (fun o13 => (FX8_chainOf M_roads M_first M_second M_number l5 l4 o13).bind (fun o14 => loopO (X8_mend_L222 M_roads M_first M_second M_number M_fan l1 l2 l3 l4 l7 x12 o13 o14) ((0 : Int32), (0 : Int32)))))
noncomputable def X8_mend_J166 (M_roads : Int32) (M_first : Nat → Int32) (M_second : Nat → Int32) (M_number : Nat → Int32) (M_fan : Nat → Int32) (l1 : Int32) (l2 : Int32) (l3 : Int32) (l4 : Int32) (l5 : Int32) (l6 : Int32) (l7 : Int32) : Option (((Nat → Int32) × Int32) ⊕ (Int32 × (Nat → Int32) × (Nat → Int32))) :=
  if l7 = l3 then (wr M_fan 12 l3 l6 (fun g23 => bnd (l3 + (1 : Int32)) (fun x24 => some (.inl (g23, x24))))) else ((X8_mend_J186 M_roads M_first M_second M_number M_fan l1 l2 l3 l4 l5 l7).map (fun z => (.inr z)))
noncomputable def X8_mend_L142 (M_roads : Int32) (M_first : Nat → Int32) (M_second : Nat → Int32) (M_number : Nat → Int32) (M_fan : Nat → Int32) (l1 : Int32) (l2 : Int32) (l3 : Int32) (l4 : Int32) (l5 : Int32) (l6 : Int32) (v : Int32) : Option ((Int32) ⊕ (((Nat → Int32) × Int32) ⊕ (Int32 × (Nat → Int32) × (Nat → Int32)))) :=
  if l3 ≤ v then ((X8_mend_J166 M_roads M_first M_second M_number M_fan l1 l2 l3 l4 l5 l6 v).map (fun z => (.inr z))) else (rd M_fan 12 v (fun x25 => if x25 = l6 then ((X8_mend_J166 M_roads M_first M_second M_number M_fan l1 l2 l3 l4 l5 l6 v).map (fun z => (.inr z))) else (bnd (v + (1 : Int32)) (fun x26 => some (.inl x26)))))
noncomputable def X8_mend_J115 (M_roads : Int32) (M_first : Nat → Int32) (M_second : Nat → Int32) (M_number : Nat → Int32) (M_fan : Nat → Int32) (l1 : Int32) (l2 : Int32) (l3 : Int32) (l4 : Int32) : Option (Int32 × (Nat → Int32) × (Nat → Int32)) :=
  (FX8_turned M_roads M_first M_second M_number M_fan l2 l3 l4).bind (fun o27 => rd o27 24 l1 (fun x28 => some (x28, o27, M_fan)))
noncomputable def X8_mend_L87 (M_roads : Int32) (M_first : Nat → Int32) (M_second : Nat → Int32) (M_number : Nat → Int32) (l1 : Int32) (l2 : Int32) (v : (Nat → Int32) × Int32) : Option (((Nat → Int32) × Int32) ⊕ (Int32 × (Nat → Int32) × (Nat → Int32))) :=
  rd v.1 12 (v.2 - (1 : Int32)) (fun x8 => (FX8_leastFree M_roads M_first M_second M_number x8).bind (fun o9 => (FX8_with M_roads M_first M_second M_number l2 o9).bind (fun o10 => if (0 : Int32) ≤ o10 then ((FX8_other M_first M_second o10 l2).bind (fun o11 => loopO (X8_mend_L142 M_roads M_first M_second M_number v.1 l1 l2 v.2 o9 o10 o11) (0 : Int32))) else ((X8_mend_J115 M_roads M_first M_second M_number v.1 l1 l2 v.2 o9).map (fun z => (.inr z))))))
noncomputable def X8_mend_J66 (M_roads : Int32) (M_first : Nat → Int32) (M_second : Nat → Int32) (M_number : Nat → Int32) (M_fan : Nat → Int32) (l1 : Int32) : Option (Int32 × (Nat → Int32) × (Nat → Int32)) :=
  rd M_first 24 l1 (fun x5 => rd M_second 24 l1 (fun x6 => wr M_fan 12 (0 : Int32) x6 (fun g7 => loopO (X8_mend_L87 M_roads M_first M_second M_number l1 x5) (g7, (1 : Int32)))))
noncomputable def X8_mend_L36 (M_posts : Int32) (M_roads : Int32) (M_first : Nat → Int32) (M_second : Nat → Int32) (M_number : Nat → Int32) (M_fan : Nat → Int32) (l1 : Int32) (v : Int32) : Option ((Int32) ⊕ (Int32 × (Nat → Int32) × (Nat → Int32))) :=
  if M_roads ≤ v then ((X8_mend_J66 M_roads M_first M_second M_number M_fan l1).map (fun z => (.inr z))) else (rd M_number 24 v (fun x29 => (FX8_fullOf M_posts M_roads M_first M_second).bind (fun o30 => if x29 ≤ o30 then (bnd (v + (1 : Int32)) (fun x31 => some (.inl x31))) else (some (.inr ((-2 : Int32), M_number, M_fan))))))
noncomputable def FX8_mend (M_posts : Int32) (M_roads : Int32) (M_first : Nat → Int32) (M_second : Nat → Int32) (M_number_0 : Nat → Int32) (M_fan_0 : Nat → Int32) (a1 : Int32) : Option (Int32 × (Nat → Int32) × (Nat → Int32)) :=
  (FX8_isRoad M_roads a1).bind (fun o1 => if o1 = (0 : Int32) then (some ((-2 : Int32), M_number_0, M_fan_0)) else (rd M_number_0 24 a1 (fun x2 => if (0 : Int32) ≤ x2 then (some ((-2 : Int32), M_number_0, M_fan_0)) else ((FX8_clashing M_roads M_first M_second M_number_0).bind (fun o3 => if (0 : Int32) ≤ o3 then (some ((-2 : Int32), M_number_0, M_fan_0)) else ((FX8_isPlain M_roads M_first M_second).bind (fun o4 => if o4 = (0 : Int32) then (some ((-2 : Int32), M_number_0, M_fan_0)) else (loopO (X8_mend_L36 M_posts M_roads M_first M_second M_number_0 M_fan_0 a1) (0 : Int32)))))))))
abbrev GX8_mend (p : Program) (l : Launch) (e : Env) (s : State) (m : MethodId) (below : List Frame) (meth : Method) (c : Code) (D : va_G) (cI cJ cZ : ClassId) (m0 m1 m2 m3 m4 m5 m6 m7 m8 m9 m10 m11 m12 m13 : Nat) (M_posts : Int32) (M_roads : Int32) (M_size : Int32) (M_rows : Int32) (M_nextRows : Int32) (M_first : Nat → Int32) (M_second : Nat → Int32) (M_number_0 : Nat → Int32) (M_lists : Nat → Int32) (M_square : Nat → Int32) (M_fan_0 : Nat → Int32) (M_trial : Nat → Int32) (M_touching : Nat → Int32) (M_having : Nat → Int32) (M_most : Nat → Int32) (M_only : Nat → Int32) (M_can : Nat → Int32) (M_next : Nat → Int32) (a1 : Int32) (out : Int32 × (Nat → Int32) × (Nat → Int32)) (H : Heap) (locs : List Loc) (g : JFrame) : Prop := W p l e (headSpec (Cond.code yX8_mend cX8_mend 13 (some .int) :: GW) { frames := 4, cells := 0, slots := 0, locals := 87 }).room s m ([.ref m0, .int a1] : List Value).toArray below meth c H locs 0 0 (MQ below (va_Qi (fun r (_ : Unit) => r = out.1) (BW D (wM cI cJ cZ m0 m1 m2 m3 m4 m5 m6 m7 m8 m9 m10 m11 m12 m13 M_posts M_roads M_size M_rows M_nextRows M_first M_second M_number_0 M_lists M_square M_fan_0 M_trial M_touching M_having M_most M_only M_can M_next) s.heap.size (fun _ => (wM cI cJ cZ m0 m1 m2 m3 m4 m5 m6 m7 m8 m9 m10 m11 m12 m13 M_posts M_roads M_size M_rows M_nextRows M_first M_second out.2.1 M_lists M_square out.2.2 M_trial M_touching M_having M_most M_only M_can M_next))) (va_A (wM cI cJ cZ m0 m1 m2 m3 m4 m5 m6 m7 m8 m9 m10 m11 m12 m13 M_posts M_roads M_size M_rows M_nextRows M_first M_second M_number_0 M_lists M_square M_fan_0 M_trial M_touching M_having M_most M_only M_can M_next) s.heap.size)) ([.ref m0, .int a1] : List Value).toArray s 0 0 (va_A (wM cI cJ cZ m0 m1 m2 m3 m4 m5 m6 m7 m8 m9 m10 m11 m12 m13 M_posts M_roads M_size M_rows M_nextRows M_first M_second M_number_0 M_lists M_square M_fan_0 M_trial M_touching M_having M_most M_only M_can M_next) s.heap.size)) g
theorem kvX8_mend : CalV RX8 yX8_mend cX8_mend 13 (some .int) 1 := ⟨wC_yX8_mend, wM_yX8_mend, wS_yX8_mend, wI_RX8, by decide +kernel⟩
set_option maxHeartbeats 4000000 in
set_option maxRecDepth 100000 in
theorem kX8_mend (l : Launch) (D : va_G) (cI cJ cZ : ClassId) (m0 m1 m2 m3 m4 m5 m6 m7 m8 m9 m10 m11 m12 m13 : Nat) (M_posts : Int32) (M_roads : Int32) (M_size : Int32) (M_rows : Int32) (M_nextRows : Int32) (M_first : Nat → Int32) (M_second : Nat → Int32) (M_number_0 : Nat → Int32) (M_lists : Nat → Int32) (M_square : Nat → Int32) (M_fan_0 : Nat → Int32) (M_trial : Nat → Int32) (M_touching : Nat → Int32) (M_having : Nat → Int32) (M_most : Nat → Int32) (M_only : Nat → Int32) (M_can : Nat → Int32) (M_next : Nat → Int32) (a1 : Int32) (out : Int32 × (Nat → Int32) × (Nat → Int32)) (hf : FX8_mend M_posts M_roads M_first M_second M_number_0 M_fan_0 a1 = some out) : MI l yX8_mend (Cond.code yX8_mend cX8_mend 13 (some .int) :: GW) { frames := 4, cells := 0, slots := 0, locals := 87 } D cI cJ cZ [.ref m0, .int a1] (wM cI cJ cZ m0 m1 m2 m3 m4 m5 m6 m7 m8 m9 m10 m11 m12 m13 M_posts M_roads M_size M_rows M_nextRows M_first M_second M_number_0 M_lists M_square M_fan_0 M_trial M_touching M_having M_most M_only M_can M_next) (fun r (_ : Unit) => r = out.1) (fun _ => (wM cI cJ cZ m0 m1 m2 m3 m4 m5 m6 m7 m8 m9 m10 m11 m12 m13 M_posts M_roads M_size M_rows M_nextRows M_first M_second out.2.1 M_lists M_square out.2.2 M_trial M_touching M_having M_most M_only M_can M_next)) := by
  intro sz
  refine Met.ofW (cc := cX8_mend) (maxL := 13) (ret := (some .int)) (by decide +kernel) rfl ?_
  intro p e s m args below meth c s₁ B hml hv
  obtain ⟨rfl, hsz, hP, hK, hD0⟩ := hv
  have hx := B.exec
  have hb := B.bytes
  have hr := B.returns
  have hlocks := B.notSynchronized
  have hg : ∀ w ∈ GW, w.before _ s = true := fun w h => atoms_spec (ws := Cond.code yX8_mend cX8_mend 13 (some .int) :: GW) B.pre w (List.mem_cons_of_mem _ h)
  have hown : s.vm.findClass RX8 = some m.cls := findClass_of_methodNamed B.named
  subst hsz
  obtain ⟨A, hAe⟩ : ∃ A, A = va_A (wM cI cJ cZ m0 m1 m2 m3 m4 m5 m6 m7 m8 m9 m10 m11 m12 m13 M_posts M_roads M_size M_rows M_nextRows M_first M_second M_number_0 M_lists M_square M_fan_0 M_trial M_touching M_having M_most M_only M_can M_next) s.heap.size := ⟨_, rfl⟩
  have hA : ∀ q : Nat, s.heap.size ≤ q → A q := fun q h => by rw [hAe]; exact Or.inr h
  have hI : WI D A s.heap (wM cI cJ cZ m0 m1 m2 m3 m4 m5 m6 m7 m8 m9 m10 m11 m12 m13 M_posts M_roads M_size M_rows M_nextRows M_first M_second M_number_0 M_lists M_square M_fan_0 M_trial M_touching M_having M_most M_only M_can M_next) s.heap [] := ⟨hP, by rw [hAe]; exact hD0.self, va_S.rf⟩
  have hl := lv_entry [.ref m0, .int a1] (n := 13) (Nat.le_of_ble_eq_true rfl)
  rw [lg_entry_eq]
  generalize (lg_sl [.ref m0, .int a1] ++ List.replicate (13 - (lg_sl [.ref m0, .int a1]).length) Slot.unset).toArray = ls at hl ⊢
  replace hl : lv_has ls 13 [(0, .ref m0), (1, .int a1)] := hl
  have J294 : ∀ (M_number : Nat → Int32) (M_fan : Nat → Int32) (l1 : Int32) (l4 : Int32) (s1 : Int32) (s2 : Int32) (x : Int32 × (Nat → Int32) × (Nat → Int32)), X8_mend_J294 M_roads M_first M_second M_number M_fan l1 l4 s1 s2 = some x → (fun z : Int32 × (Nat → Int32) × (Nat → Int32) => z = out) x → ∀ (H : Heap) (locs : List Loc) (ls : Array Slot), WI D A s.heap (wM cI cJ cZ m0 m1 m2 m3 m4 m5 m6 m7 m8 m9 m10 m11 m12 m13 M_posts M_roads M_size M_rows M_nextRows M_first M_second M_number M_lists M_square M_fan M_trial M_touching M_having M_most M_only M_can M_next) H locs → lv_has ls 13 [(0, .ref m0), (1, .int l1), (4, .int l4)] → GX8_mend p l e s m below meth c D cI cJ cZ m0 m1 m2 m3 m4 m5 m6 m7 m8 m9 m10 m11 m12 m13 M_posts M_roads M_size M_rows M_nextRows M_first M_second M_number_0 M_lists M_square M_fan_0 M_trial M_touching M_having M_most M_only M_can M_next a1 out H locs (F0 m 294 ls [.int s2, .int s1, .ref m0]) := by
    intro M_number M_fan l1 l4 s1 s2 x hf hM H locs ls hI hl
    refine lv_iload hx hb dX8_mend_294 (lv_at hl 2 rfl) ?_
    obtain ⟨o16, ho16, hf⟩ := bd_e hf
    refine w_Vv0 (wc := (wM cI cJ cZ m0 m1 m2 m3 m4 m5 m6 m7 m8 m9 m10 m11 m12 m13 M_posts M_roads M_size M_rows M_nextRows M_first M_second M_number M_lists M_square M_fan M_trial M_touching M_having M_most M_only M_can M_next)) (wr := []) (rest := []) hx hb hml hg hown hK hA hI (kX8_turned l D cI cJ cZ m0 m1 m2 m3 m4 m5 m6 m7 m8 m9 m10 m11 m12 m13 M_posts M_roads M_size M_rows M_nextRows M_first M_second M_number M_lists M_square M_fan M_trial M_touching M_having M_most M_only M_can M_next s1 s2 l4 o16 ho16) kvX8_turned wL_RX8_124 ⟨Nat.le_of_ble_eq_true rfl, Nat.le_of_ble_eq_true rfl⟩ rfl rfl [0, 1, 2, 3, 4, 5, 6, 7, 8, 9, 10, 11, 12, 13] [] rfl rfl rfl rfl (by decide) rfl rfl hl.1 (Nat.le_of_ble_eq_true rfl) dX8_mend_296 ⟨Nat.zero_le _, Nat.zero_le _⟩ ⟨rfl, rfl⟩ (fun  u H locs hp hI => ?_)
    replace hI : WI D A s.heap (wM cI cJ cZ m0 m1 m2 m3 m4 m5 m6 m7 m8 m9 m10 m11 m12 m13 M_posts M_roads M_size M_rows M_nextRows M_first M_second o16 M_lists M_square M_fan M_trial M_touching M_having M_most M_only M_can M_next) H locs := hI
    refine lv_aload_n hx hb dX8_mend_299 rfl (lv_at hl 0 rfl) ?_
    refine w_get hx hb hg hown hK hI iX8 0 rfl rfl 4 (by decide) wF_RX8_16 rfl dX8_mend_300 ?_
    refine lv_iload_n hx hb dX8_mend_303 rfl (lv_at hl 1 rfl) ?_
    obtain ⟨hin, hf⟩ := rd_e hf
    refine w_iald hx hb hK hI 3 rfl hin dX8_mend_304 (fun x17 ex17 => ?_)
    replace hf := hf x17 ex17
    replace hf := Option.some.inj hf
    subst hf
    replace hM : (x17, o16, M_fan) = out := hM
    subst hM
    exact rt_i (u := ()) hx hb hr hlocks rfl hI hAe rfl dX8_mend_305
  have J271 : ∀ (M_number : Nat → Int32) (M_fan : Nat → Int32) (l1 : Int32) (l2 : Int32) (l3 : Int32) (l4 : Int32) (l7 : Int32) (l9 : Int32) (l10 : Int32) (l11 : Int32) (x : Int32 × (Nat → Int32) × (Nat → Int32)), X8_mend_J271 M_roads M_first M_second M_number M_fan l1 l2 l3 l4 l7 l9 l10 l11 = some x → (fun z : Int32 × (Nat → Int32) × (Nat → Int32) => z = out) x → ∀ (H : Heap) (locs : List Loc) (ls : Array Slot), WI D A s.heap (wM cI cJ cZ m0 m1 m2 m3 m4 m5 m6 m7 m8 m9 m10 m11 m12 m13 M_posts M_roads M_size M_rows M_nextRows M_first M_second M_number M_lists M_square M_fan M_trial M_touching M_having M_most M_only M_can M_next) H locs → lv_has ls 13 [(0, .ref m0), (1, .int l1), (2, .int l2), (3, .int l3), (4, .int l4), (7, .int l7), (9, .int l9), (10, .int l10), (11, .int l11)] → GX8_mend p l e s m below meth c D cI cJ cZ m0 m1 m2 m3 m4 m5 m6 m7 m8 m9 m10 m11 m12 m13 M_posts M_roads M_size M_rows M_nextRows M_first M_second M_number_0 M_lists M_square M_fan_0 M_trial M_touching M_having M_most M_only M_can M_next a1 out H locs (F0 m 271 ls []) := by
    intro M_number M_fan l1 l2 l3 l4 l7 l9 l10 l11 x hf hM H locs ls hI hl
    refine lv_aload_n hx hb dX8_mend_271 rfl (lv_at hl 0 rfl) ?_
    refine lv_iload hx hb dX8_mend_272 (lv_at hl 7 rfl) ?_
    refine lv_iload hx hb dX8_mend_274 (lv_at hl 4 rfl) ?_
    refine lv_iload hx hb dX8_mend_276 (lv_at hl 6 rfl) ?_
    obtain ⟨o15, ho15, hf⟩ := bd_e hf
    refine w_Vv0 (wc := (wM cI cJ cZ m0 m1 m2 m3 m4 m5 m6 m7 m8 m9 m10 m11 m12 m13 M_posts M_roads M_size M_rows M_nextRows M_first M_second M_number M_lists M_square M_fan M_trial M_touching M_having M_most M_only M_can M_next)) (wr := []) (rest := []) hx hb hml hg hown hK hA hI (kX8_swapped l D cI cJ cZ m0 m1 m2 m3 m4 m5 m6 m7 m8 m9 m10 m11 m12 m13 M_posts M_roads M_size M_rows M_nextRows M_first M_second M_number M_lists M_square M_fan M_trial M_touching M_having M_most M_only M_can M_next l10 l4 l9 o15 ho15) kvX8_swapped wL_RX8_110 ⟨Nat.le_of_ble_eq_true rfl, Nat.le_of_ble_eq_true rfl⟩ rfl rfl [0, 1, 2, 3, 4, 5, 6, 7, 8, 9, 10, 11, 12, 13] [] rfl rfl rfl rfl (by decide) rfl rfl hl.1 (Nat.le_of_ble_eq_true rfl) dX8_mend_278 ⟨Nat.zero_le _, Nat.zero_le _⟩ ⟨rfl, rfl⟩ (fun  u H locs hp hI => ?_)
    replace hI : WI D A s.heap (wM cI cJ cZ m0 m1 m2 m3 m4 m5 m6 m7 m8 m9 m10 m11 m12 m13 M_posts M_roads M_size M_rows M_nextRows M_first M_second o15 M_lists M_square M_fan M_trial M_touching M_having M_most M_only M_can M_next) H locs := hI
    refine lv_aload_n hx hb dX8_mend_281 rfl (lv_at hl 0 rfl) ?_
    refine lv_iload_n hx hb dX8_mend_282 rfl (lv_at hl 2 rfl) ?_
    refine lv_iload hx hb dX8_mend_283 (lv_at hl 8 rfl) ?_
    refine lv_if_eq (tgt := 292) hx hb dX8_mend_285 (by decide) (fun hc => ?_) (fun hc => ?_)
    · replace hf := ite_t hc hf
      refine lv_iload hx hb dX8_mend_292 (lv_at hl 5 rfl) ?_
      exact J294 o15 M_fan l1 l4 l2 l7 _ hf hM _ _ _ hI (lv_sub hl [0, 1, 4] rfl)
    · replace hf := ite_f hc hf
      refine lv_iload_n hx hb dX8_mend_288 rfl (lv_at hl 3 rfl) ?_
      refine lv_goto (tgt := 294) hx hb dX8_mend_289 (by decide) ?_
      exact J294 o15 M_fan l1 l4 l2 l3 _ hf hM _ _ _ hI (lv_sub hl [0, 1, 4] rfl)
  have L222 : ∀ (M_number : Nat → Int32) (M_fan : Nat → Int32) (l1 : Int32) (l2 : Int32) (l3 : Int32) (l4 : Int32) (l7 : Int32) (l8 : Int32) (l9 : Int32) (l10 : Int32), ∀ (v : Int32 × Int32) (x : Int32 × (Nat → Int32) × (Nat → Int32)), loopO (X8_mend_L222 M_roads M_first M_second M_number M_fan l1 l2 l3 l4 l7 l8 l9 l10) v = some x → (fun z : Int32 × (Nat → Int32) × (Nat → Int32) => z = out) x → (fun (v : Int32 × Int32) => ∀ (H : Heap) (locs : List Loc) (ls : Array Slot), WI D A s.heap (wM cI cJ cZ m0 m1 m2 m3 m4 m5 m6 m7 m8 m9 m10 m11 m12 m13 M_posts M_roads M_size M_rows M_nextRows M_first M_second M_number M_lists M_square M_fan M_trial M_touching M_having M_most M_only M_can M_next) H locs → lv_has ls 13 [(0, .ref m0), (1, .int l1), (2, .int l2), (3, .int l3), (4, .int l4), (7, .int l7), (8, .int l8), (9, .int l9), (10, .int l10), (11, .int v.1), (12, .int v.2)] → GX8_mend p l e s m below meth c D cI cJ cZ m0 m1 m2 m3 m4 m5 m6 m7 m8 m9 m10 m11 m12 m13 M_posts M_roads M_size M_rows M_nextRows M_first M_second M_number_0 M_lists M_square M_fan_0 M_trial M_touching M_having M_most M_only M_can M_next a1 out H locs (F0 m 222 ls [])) v := by
    intro M_number M_fan l1 l2 l3 l4 l7 l8 l9 l10
    refine loopO_ind (fun (v : Int32 × Int32) => ∀ (H : Heap) (locs : List Loc) (ls : Array Slot), WI D A s.heap (wM cI cJ cZ m0 m1 m2 m3 m4 m5 m6 m7 m8 m9 m10 m11 m12 m13 M_posts M_roads M_size M_rows M_nextRows M_first M_second M_number M_lists M_square M_fan M_trial M_touching M_having M_most M_only M_can M_next) H locs → lv_has ls 13 [(0, .ref m0), (1, .int l1), (2, .int l2), (3, .int l3), (4, .int l4), (7, .int l7), (8, .int l8), (9, .int l9), (10, .int l10), (11, .int v.1), (12, .int v.2)] → GX8_mend p l e s m below meth c D cI cJ cZ m0 m1 m2 m3 m4 m5 m6 m7 m8 m9 m10 m11 m12 m13 M_posts M_roads M_size M_rows M_nextRows M_first M_second M_number_0 M_lists M_square M_fan_0 M_trial M_touching M_having M_most M_only M_can M_next a1 out H locs (F0 m 222 ls [])) (fun z : Int32 × (Nat → Int32) × (Nat → Int32) => z = out) ?_
    intro v x hf hM H locs ls hI hl
    refine lv_iload hx hb dX8_mend_222 (lv_at hl 10 rfl) ?_
    refine lv_aload_n hx hb dX8_mend_224 rfl (lv_at hl 0 rfl) ?_
    refine w_get hx hb hg hown hK hI iX8 0 rfl rfl 1 (by decide) wF_RX8_57 rfl dX8_mend_225 ?_
    refine lv_icmp_ge (tgt := 271) hx hb dX8_mend_228 (by decide) (fun hc => ?_) (fun hc => ?_)
    · replace hf := ite_t hc hf
      obtain ⟨z, hf2, ez⟩ := mp_e hf
      clear hf
      subst ez
      exact J271 M_number M_fan l1 l2 l3 l4 l7 l9 l10 v.1 _ hf2 hM _ _ _ hI (lv_sub hl [0, 1, 2, 3, 4, 5, 7, 8, 9] rfl)
    · replace hf := ite_f hc hf
      refine lv_iload hx hb dX8_mend_231 (lv_at hl 9 rfl) ?_
      refine lv_if_ne (tgt := 258) hx hb dX8_mend_233 (by decide) (fun hc => ?_) (fun hc => ?_)
      · replace hf := ite_f hc hf
        refine lv_iconst (v := 1) hx hb dX8_mend_258 (by decide) ?_
        refine lv_goto (tgt := 263) hx hb dX8_mend_259 (by decide) ?_
        refine lv_istore (lv' := [(11, .int (1 : Int32)), (0, .ref m0), (1, .int l1), (2, .int l2), (3, .int l3), (4, .int l4), (7, .int l7), (8, .int l8), (9, .int l9), (10, .int l10), (12, .int v.2)]) hx hb dX8_mend_263 hl (by decide) rfl (fun ls hl => ?_)
        obtain ⟨x18, ex18⟩ : ∃ y : Int32, y = (v.2 + (1 : Int32)) := ⟨_, rfl⟩
        replace hf := bnd_e hf x18 ex18
        refine lv_iinc (v := x18) (lv' := [(12, .int x18), (11, .int (1 : Int32)), (0, .ref m0), (1, .int l1), (2, .int l2), (3, .int l3), (4, .int l4), (7, .int l7), (8, .int l8), (9, .int l9), (10, .int l10)]) hx hb dX8_mend_265 hl (k := 10) rfl (by rw [ex18]; rfl) (by decide) rfl (fun ls hl => ?_)
        refine lv_goto (tgt := 222) hx hb dX8_mend_268 (by decide) ?_
        replace hf := Option.some.inj hf
        subst hf
        exact hM _ _ _ hI (lv_sub hl [2, 3, 4, 5, 6, 7, 8, 9, 10, 1, 0] rfl)
      · replace hf := ite_t hc hf
        refine lv_iload hx hb dX8_mend_236 (lv_at hl 8 rfl) ?_
        refine lv_iload hx hb dX8_mend_238 (lv_at hl 10 rfl) ?_
        refine lv_ishr hx hb dX8_mend_240 ?_
        refine lv_iconst (v := 1) hx hb dX8_mend_241 (by decide) ?_
        refine lv_iand hx hb dX8_mend_242 ?_
        refine lv_iconst (v := 1) hx hb dX8_mend_243 (by decide) ?_
        refine lv_icmp_ne (tgt := 262) hx hb dX8_mend_244 (by decide) (fun hc => ?_) (fun hc => ?_)
        · replace hf := ite_f hc hf
          refine lv_iconst (v := 0) hx hb dX8_mend_262 (by decide) ?_
          refine lv_istore (lv' := [(11, .int (0 : Int32)), (0, .ref m0), (1, .int l1), (2, .int l2), (3, .int l3), (4, .int l4), (7, .int l7), (8, .int l8), (9, .int l9), (10, .int l10), (12, .int v.2)]) hx hb dX8_mend_263 hl (by decide) rfl (fun ls hl => ?_)
          obtain ⟨x19, ex19⟩ : ∃ y : Int32, y = (v.2 + (1 : Int32)) := ⟨_, rfl⟩
          replace hf := bnd_e hf x19 ex19
          refine lv_iinc (v := x19) (lv' := [(12, .int x19), (11, .int (0 : Int32)), (0, .ref m0), (1, .int l1), (2, .int l2), (3, .int l3), (4, .int l4), (7, .int l7), (8, .int l8), (9, .int l9), (10, .int l10)]) hx hb dX8_mend_265 hl (k := 10) rfl (by rw [ex19]; rfl) (by decide) rfl (fun ls hl => ?_)
          refine lv_goto (tgt := 222) hx hb dX8_mend_268 (by decide) ?_
          replace hf := Option.some.inj hf
          subst hf
          exact hM _ _ _ hI (lv_sub hl [2, 3, 4, 5, 6, 7, 8, 9, 10, 1, 0] rfl)
        · replace hf := ite_t hc hf
          refine lv_aload_n hx hb dX8_mend_247 rfl (lv_at hl 0 rfl) ?_
          refine lv_iload hx hb dX8_mend_248 (lv_at hl 10 rfl) ?_
          refine lv_iload hx hb dX8_mend_250 (lv_at hl 6 rfl) ?_
          obtain ⟨o20, ho20, hf⟩ := bd_e hf
          refine w_Vi0 (wc := (wM cI cJ cZ m0 m1 m2 m3 m4 m5 m6 m7 m8 m9 m10 m11 m12 m13 M_posts M_roads M_size M_rows M_nextRows M_first M_second M_number M_lists M_square M_fan M_trial M_touching M_having M_most M_only M_can M_next)) (wr := []) (rest := []) hx hb hml hg hown hK hA hI (kX8_ends l D cI cJ cZ m0 m1 m2 m3 m4 m5 m6 m7 m8 m9 m10 m11 m12 m13 M_posts M_roads M_size M_rows M_nextRows M_first M_second M_number M_lists M_square M_fan M_trial M_touching M_having M_most M_only M_can M_next v.2 l8 o20 ho20) kvX8_ends wL_RX8_64 ⟨Nat.le_of_ble_eq_true rfl, Nat.le_of_ble_eq_true rfl⟩ rfl rfl [0, 1, 2, 3, 4, 5, 6, 7, 8, 9, 10, 11, 12, 13] [] rfl rfl rfl rfl (by decide) rfl rfl hl.1 (Nat.le_of_ble_eq_true rfl) dX8_mend_252 ⟨Nat.zero_le _, Nat.zero_le _⟩ ⟨rfl, rfl⟩ (fun r u H locs hp hI => ?_)
          replace hp : r = o20 := hp
          rw [hp]
          clear hp
          replace hI : WI D A s.heap (wM cI cJ cZ m0 m1 m2 m3 m4 m5 m6 m7 m8 m9 m10 m11 m12 m13 M_posts M_roads M_size M_rows M_nextRows M_first M_second M_number M_lists M_square M_fan M_trial M_touching M_having M_most M_only M_can M_next) H locs := hI
          refine lv_if_eq (tgt := 262) hx hb dX8_mend_255 (by decide) (fun hc => ?_) (fun hc => ?_)
          · replace hf := ite_t hc hf
            refine lv_iconst (v := 0) hx hb dX8_mend_262 (by decide) ?_
            refine lv_istore (lv' := [(11, .int (0 : Int32)), (0, .ref m0), (1, .int l1), (2, .int l2), (3, .int l3), (4, .int l4), (7, .int l7), (8, .int l8), (9, .int l9), (10, .int l10), (12, .int v.2)]) hx hb dX8_mend_263 hl (by decide) rfl (fun ls hl => ?_)
            obtain ⟨x21, ex21⟩ : ∃ y : Int32, y = (v.2 + (1 : Int32)) := ⟨_, rfl⟩
            replace hf := bnd_e hf x21 ex21
            refine lv_iinc (v := x21) (lv' := [(12, .int x21), (11, .int (0 : Int32)), (0, .ref m0), (1, .int l1), (2, .int l2), (3, .int l3), (4, .int l4), (7, .int l7), (8, .int l8), (9, .int l9), (10, .int l10)]) hx hb dX8_mend_265 hl (k := 10) rfl (by rw [ex21]; rfl) (by decide) rfl (fun ls hl => ?_)
            refine lv_goto (tgt := 222) hx hb dX8_mend_268 (by decide) ?_
            replace hf := Option.some.inj hf
            subst hf
            exact hM _ _ _ hI (lv_sub hl [2, 3, 4, 5, 6, 7, 8, 9, 10, 1, 0] rfl)
          · replace hf := ite_f hc hf
            refine lv_iconst (v := 1) hx hb dX8_mend_258 (by decide) ?_
            refine lv_goto (tgt := 263) hx hb dX8_mend_259 (by decide) ?_
            refine lv_istore (lv' := [(11, .int (1 : Int32)), (0, .ref m0), (1, .int l1), (2, .int l2), (3, .int l3), (4, .int l4), (7, .int l7), (8, .int l8), (9, .int l9), (10, .int l10), (12, .int v.2)]) hx hb dX8_mend_263 hl (by decide) rfl (fun ls hl => ?_)
            obtain ⟨x22, ex22⟩ : ∃ y : Int32, y = (v.2 + (1 : Int32)) := ⟨_, rfl⟩
            replace hf := bnd_e hf x22 ex22
            refine lv_iinc (v := x22) (lv' := [(12, .int x22), (11, .int (1 : Int32)), (0, .ref m0), (1, .int l1), (2, .int l2), (3, .int l3), (4, .int l4), (7, .int l7), (8, .int l8), (9, .int l9), (10, .int l10)]) hx hb dX8_mend_265 hl (k := 10) rfl (by rw [ex22]; rfl) (by decide) rfl (fun ls hl => ?_)
            refine lv_goto (tgt := 222) hx hb dX8_mend_268 (by decide) ?_
            replace hf := Option.some.inj hf
            subst hf
            exact hM _ _ _ hI (lv_sub hl [2, 3, 4, 5, 6, 7, 8, 9, 10, 1, 0] rfl)
  have J186 : ∀ (M_number : Nat → Int32) (M_fan : Nat → Int32) (l1 : Int32) (l2 : Int32) (l3 : Int32) (l4 : Int32) (l5 : Int32) (l7 : Int32) (x : Int32 × (Nat → Int32) × (Nat → Int32)), X8_mend_J186 M_roads M_first M_second M_number M_fan l1 l2 l3 l4 l5 l7 = some x → (fun z : Int32 × (Nat → Int32) × (Nat → Int32) => z = out) x → ∀ (H : Heap) (locs : List Loc) (ls : Array Slot), WI D A s.heap (wM cI cJ cZ m0 m1 m2 m3 m4 m5 m6 m7 m8 m9 m10 m11 m12 m13 M_posts M_roads M_size M_rows M_nextRows M_first M_second M_number M_lists M_square M_fan M_trial M_touching M_having M_most M_only M_can M_next) H locs → lv_has ls 13 [(0, .ref m0), (1, .int l1), (2, .int l2), (3, .int l3), (4, .int l4), (5, .int l5), (7, .int l7)] → GX8_mend p l e s m below meth c D cI cJ cZ m0 m1 m2 m3 m4 m5 m6 m7 m8 m9 m10 m11 m12 m13 M_posts M_roads M_size M_rows M_nextRows M_first M_second M_number_0 M_lists M_square M_fan_0 M_trial M_touching M_having M_most M_only M_can M_next a1 out H locs (F0 m 186 ls []) := by
    intro M_number M_fan l1 l2 l3 l4 l5 l7 x hf hM H locs ls hI hl
    refine lv_aload_n hx hb dX8_mend_186 rfl (lv_at hl 0 rfl) ?_
    refine w_get hx hb hg hown hK hI iX8 0 rfl rfl 10 (by decide) wF_RX8_32 rfl dX8_mend_187 ?_
    refine lv_iload hx hb dX8_mend_190 (lv_at hl 6 rfl) ?_
    refine lv_iconst (v := 1) hx hb dX8_mend_192 (by decide) ?_
    refine lv_isub hx hb dX8_mend_193 ?_
    obtain ⟨hin, hf⟩ := rd_e hf
    refine w_iald hx hb hK hI 6 rfl hin dX8_mend_194 (fun x12 ex12 => ?_)
    replace hf := hf x12 ex12
    refine lv_istore (lv' := [(8, .int x12), (0, .ref m0), (1, .int l1), (2, .int l2), (3, .int l3), (4, .int l4), (5, .int l5), (7, .int l7)]) hx hb dX8_mend_195 hl (by decide) rfl (fun ls hl => ?_)
    refine lv_aload_n hx hb dX8_mend_197 rfl (lv_at hl 1 rfl) ?_
    refine lv_iload_n hx hb dX8_mend_198 rfl (lv_at hl 3 rfl) ?_
    obtain ⟨o13, ho13, hf⟩ := bd_e hf
    refine w_Vi0 (wc := (wM cI cJ cZ m0 m1 m2 m3 m4 m5 m6 m7 m8 m9 m10 m11 m12 m13 M_posts M_roads M_size M_rows M_nextRows M_first M_second M_number M_lists M_square M_fan M_trial M_touching M_having M_most M_only M_can M_next)) (wr := []) (rest := []) hx hb hml hg hown hK hA hI (kX8_leastFree l D cI cJ cZ m0 m1 m2 m3 m4 m5 m6 m7 m8 m9 m10 m11 m12 m13 M_posts M_roads M_size M_rows M_nextRows M_first M_second M_number M_lists M_square M_fan M_trial M_touching M_having M_most M_only M_can M_next l2 o13 ho13) kvX8_leastFree wL_RX8_88 ⟨Nat.le_of_ble_eq_true rfl, Nat.le_of_ble_eq_true rfl⟩ rfl rfl [0, 1, 2, 3, 4, 5, 6, 7, 8, 9, 10, 11, 12, 13] [] rfl rfl rfl rfl (by decide) rfl rfl hl.1 (Nat.le_of_ble_eq_true rfl) dX8_mend_199 ⟨Nat.zero_le _, Nat.zero_le _⟩ ⟨rfl, rfl⟩ (fun r u H locs hp hI => ?_)
    replace hp : r = o13 := hp
    rw [hp]
    clear hp
    replace hI : WI D A s.heap (wM cI cJ cZ m0 m1 m2 m3 m4 m5 m6 m7 m8 m9 m10 m11 m12 m13 M_posts M_roads M_size M_rows M_nextRows M_first M_second M_number M_lists M_square M_fan M_trial M_touching M_having M_most M_only M_can M_next) H locs := hI
    refine lv_istore (lv' := [(9, .int o13), (8, .int x12), (0, .ref m0), (1, .int l1), (2, .int l2), (3, .int l3), (4, .int l4), (5, .int l5), (7, .int l7)]) hx hb dX8_mend_202 hl (by decide) rfl (fun ls hl => ?_)
    refine lv_aload_n hx hb dX8_mend_204 rfl (lv_at hl 2 rfl) ?_
    refine lv_iload hx hb dX8_mend_205 (lv_at hl 7 rfl) ?_
    refine lv_iload hx hb dX8_mend_207 (lv_at hl 6 rfl) ?_
    refine lv_iload hx hb dX8_mend_209 (lv_at hl 0 rfl) ?_
    obtain ⟨o14, ho14, hf⟩ := bd_e hf
    refine w_Vi0 (wc := (wM cI cJ cZ m0 m1 m2 m3 m4 m5 m6 m7 m8 m9 m10 m11 m12 m13 M_posts M_roads M_size M_rows M_nextRows M_first M_second M_number M_lists M_square M_fan M_trial M_touching M_having M_most M_only M_can M_next)) (wr := []) (rest := []) hx hb hml hg hown hK hA hI (kX8_chainOf l D cI cJ cZ m0 m1 m2 m3 m4 m5 m6 m7 m8 m9 m10 m11 m12 m13 M_posts M_roads M_size M_rows M_nextRows M_first M_second M_number M_lists M_square M_fan M_trial M_touching M_having M_most M_only M_can M_next l5 l4 o13 o14 ho14) kvX8_chainOf wL_RX8_103 ⟨Nat.le_of_ble_eq_true rfl, Nat.le_of_ble_eq_true rfl⟩ rfl rfl [0, 1, 2, 3, 4, 5, 6, 7, 8, 9, 10, 11, 12, 13] [] rfl rfl rfl rfl (by decide) rfl rfl hl.1 (Nat.le_of_ble_eq_true rfl) dX8_mend_211 ⟨Nat.zero_le _, Nat.zero_le _⟩ ⟨rfl, rfl⟩ (fun r u H locs hp hI => ?_)
    replace hp : r = o14 := hp
    rw [hp]
    clear hp
    replace hI : WI D A s.heap (wM cI cJ cZ m0 m1 m2 m3 m4 m5 m6 m7 m8 m9 m10 m11 m12 m13 M_posts M_roads M_size M_rows M_nextRows M_first M_second M_number M_lists M_square M_fan M_trial M_touching M_having M_most M_only M_can M_next) H locs := hI
    refine lv_istore (lv' := [(10, .int o14), (9, .int o13), (8, .int x12), (0, .ref m0), (1, .int l1), (2, .int l2), (3, .int l3), (4, .int l4), (5, .int l5), (7, .int l7)]) hx hb dX8_mend_214 hl (by decide) rfl (fun ls hl => ?_)
    refine lv_iconst (v := 0) hx hb dX8_mend_216 (by decide) ?_
    refine lv_istore (lv' := [(11, .int (0 : Int32)), (10, .int o14), (9, .int o13), (8, .int x12), (0, .ref m0), (1, .int l1), (2, .int l2), (3, .int l3), (4, .int l4), (5, .int l5), (7, .int l7)]) hx hb dX8_mend_217 hl (by decide) rfl (fun ls hl => ?_)
    refine lv_iconst (v := 0) hx hb dX8_mend_219 (by decide) ?_
    refine lv_istore (lv' := [(12, .int (0 : Int32)), (11, .int (0 : Int32)), (10, .int o14), (9, .int o13), (8, .int x12), (0, .ref m0), (1, .int l1), (2, .int l2), (3, .int l3), (4, .int l4), (5, .int l5), (7, .int l7)]) hx hb dX8_mend_220 hl (by decide) rfl (fun ls hl => ?_)
    exact L222 M_number M_fan l1 l2 l3 l4 l7 x12 o13 o14 ((0 : Int32), (0 : Int32)) _ hf hM _ _ _ hI (lv_sub hl [5, 6, 7, 8, 9, 11, 4, 3, 2, 1, 0] rfl)
  have J166 : ∀ (M_number : Nat → Int32) (M_fan : Nat → Int32) (l1 : Int32) (l2 : Int32) (l3 : Int32) (l4 : Int32) (l5 : Int32) (l6 : Int32) (l7 : Int32) (x : ((Nat → Int32) × Int32) ⊕ (Int32 × (Nat → Int32) × (Nat → Int32))), X8_mend_J166 M_roads M_first M_second M_number M_fan l1 l2 l3 l4 l5 l6 l7 = some x → (fun z => Sum.elim (fun (v1 : (Nat → Int32) × Int32) => ∀ (H : Heap) (locs : List Loc) (ls : Array Slot), WI D A s.heap (wM cI cJ cZ m0 m1 m2 m3 m4 m5 m6 m7 m8 m9 m10 m11 m12 m13 M_posts M_roads M_size M_rows M_nextRows M_first M_second M_number M_lists M_square v1.1 M_trial M_touching M_having M_most M_only M_can M_next) H locs → lv_has ls 13 [(0, .ref m0), (1, .int l1), (2, .int l2), (3, .int v1.2)] → GX8_mend p l e s m below meth c D cI cJ cZ m0 m1 m2 m3 m4 m5 m6 m7 m8 m9 m10 m11 m12 m13 M_posts M_roads M_size M_rows M_nextRows M_first M_second M_number_0 M_lists M_square M_fan_0 M_trial M_touching M_having M_most M_only M_can M_next a1 out H locs (F0 m 87 ls [])) (fun z : Int32 × (Nat → Int32) × (Nat → Int32) => z = out) z) x → ∀ (H : Heap) (locs : List Loc) (ls : Array Slot), WI D A s.heap (wM cI cJ cZ m0 m1 m2 m3 m4 m5 m6 m7 m8 m9 m10 m11 m12 m13 M_posts M_roads M_size M_rows M_nextRows M_first M_second M_number M_lists M_square M_fan M_trial M_touching M_having M_most M_only M_can M_next) H locs → lv_has ls 13 [(0, .ref m0), (1, .int l1), (2, .int l2), (3, .int l3), (4, .int l4), (5, .int l5), (6, .int l6), (7, .int l7)] → GX8_mend p l e s m below meth c D cI cJ cZ m0 m1 m2 m3 m4 m5 m6 m7 m8 m9 m10 m11 m12 m13 M_posts M_roads M_size M_rows M_nextRows M_first M_second M_number_0 M_lists M_square M_fan_0 M_trial M_touching M_having M_most M_only M_can M_next a1 out H locs (F0 m 166 ls []) := by
    intro M_number M_fan l1 l2 l3 l4 l5 l6 l7 x hf hM H locs ls hI hl
    refine lv_iload hx hb dX8_mend_166 (lv_at hl 7 rfl) ?_
    refine lv_iload_n hx hb dX8_mend_168 rfl (lv_at hl 3 rfl) ?_
    refine lv_icmp_ne (tgt := 186) hx hb dX8_mend_169 (by decide) (fun hc => ?_) (fun hc => ?_)
    · replace hf := ite_f hc hf
      obtain ⟨z, hf2, ez⟩ := mp_e hf
      clear hf
      subst ez
      exact J186 M_number M_fan l1 l2 l3 l4 l5 l7 _ hf2 hM _ _ _ hI (lv_sub hl [0, 1, 2, 3, 4, 5, 7] rfl)
    · replace hf := ite_t hc hf
      refine lv_aload_n hx hb dX8_mend_172 rfl (lv_at hl 0 rfl) ?_
      refine w_get hx hb hg hown hK hI iX8 0 rfl rfl 10 (by decide) wF_RX8_32 rfl dX8_mend_173 ?_
      refine lv_iload_n hx hb dX8_mend_176 rfl (lv_at hl 3 rfl) ?_
      refine lv_iload hx hb dX8_mend_177 (lv_at hl 6 rfl) ?_
      obtain ⟨hin, hf⟩ := wr_e hf
      obtain ⟨g23, eg23⟩ : ∃ g : Nat → Int32, g = upd M_fan (l3).toNatClampNeg l6 := ⟨_, rfl⟩
      replace hf := hf g23 eg23
      refine w_iast (g := g23) (W1 := (wM cI cJ cZ m0 m1 m2 m3 m4 m5 m6 m7 m8 m9 m10 m11 m12 m13 M_posts M_roads M_size M_rows M_nextRows M_first M_second M_number M_lists M_square g23 M_trial M_touching M_having M_most M_only M_can M_next)) hx hb hK hI 6 rfl hin eg23 dX8_mend_179 rfl (fun H locs hI => ?_)
      obtain ⟨x24, ex24⟩ : ∃ y : Int32, y = (l3 + (1 : Int32)) := ⟨_, rfl⟩
      replace hf := bnd_e hf x24 ex24
      refine lv_iinc (v := x24) (lv' := [(3, .int x24), (0, .ref m0), (1, .int l1), (2, .int l2), (4, .int l4), (5, .int l5), (6, .int l6), (7, .int l7)]) hx hb dX8_mend_180 hl (k := 3) rfl (by rw [ex24]; rfl) (by decide) rfl (fun ls hl => ?_)
      refine lv_goto (tgt := 87) hx hb dX8_mend_183 (by decide) ?_
      replace hf := Option.some.inj hf
      subst hf
      exact hM _ _ _ hI (lv_sub hl [1, 2, 3, 0] rfl)
  have L142 : ∀ (M_number : Nat → Int32) (M_fan : Nat → Int32) (l1 : Int32) (l2 : Int32) (l3 : Int32) (l4 : Int32) (l5 : Int32) (l6 : Int32), ∀ (v : Int32) (x : ((Nat → Int32) × Int32) ⊕ (Int32 × (Nat → Int32) × (Nat → Int32))), loopO (X8_mend_L142 M_roads M_first M_second M_number M_fan l1 l2 l3 l4 l5 l6) v = some x → (fun z => Sum.elim (fun (v1 : (Nat → Int32) × Int32) => ∀ (H : Heap) (locs : List Loc) (ls : Array Slot), WI D A s.heap (wM cI cJ cZ m0 m1 m2 m3 m4 m5 m6 m7 m8 m9 m10 m11 m12 m13 M_posts M_roads M_size M_rows M_nextRows M_first M_second M_number M_lists M_square v1.1 M_trial M_touching M_having M_most M_only M_can M_next) H locs → lv_has ls 13 [(0, .ref m0), (1, .int l1), (2, .int l2), (3, .int v1.2)] → GX8_mend p l e s m below meth c D cI cJ cZ m0 m1 m2 m3 m4 m5 m6 m7 m8 m9 m10 m11 m12 m13 M_posts M_roads M_size M_rows M_nextRows M_first M_second M_number_0 M_lists M_square M_fan_0 M_trial M_touching M_having M_most M_only M_can M_next a1 out H locs (F0 m 87 ls [])) (fun z : Int32 × (Nat → Int32) × (Nat → Int32) => z = out) z) x → (fun (v : Int32) => ∀ (H : Heap) (locs : List Loc) (ls : Array Slot), WI D A s.heap (wM cI cJ cZ m0 m1 m2 m3 m4 m5 m6 m7 m8 m9 m10 m11 m12 m13 M_posts M_roads M_size M_rows M_nextRows M_first M_second M_number M_lists M_square M_fan M_trial M_touching M_having M_most M_only M_can M_next) H locs → lv_has ls 13 [(0, .ref m0), (1, .int l1), (2, .int l2), (3, .int l3), (4, .int l4), (5, .int l5), (6, .int l6), (7, .int v)] → GX8_mend p l e s m below meth c D cI cJ cZ m0 m1 m2 m3 m4 m5 m6 m7 m8 m9 m10 m11 m12 m13 M_posts M_roads M_size M_rows M_nextRows M_first M_second M_number_0 M_lists M_square M_fan_0 M_trial M_touching M_having M_most M_only M_can M_next a1 out H locs (F0 m 142 ls [])) v := by
    intro M_number M_fan l1 l2 l3 l4 l5 l6
    refine loopO_ind (fun (v : Int32) => ∀ (H : Heap) (locs : List Loc) (ls : Array Slot), WI D A s.heap (wM cI cJ cZ m0 m1 m2 m3 m4 m5 m6 m7 m8 m9 m10 m11 m12 m13 M_posts M_roads M_size M_rows M_nextRows M_first M_second M_number M_lists M_square M_fan M_trial M_touching M_having M_most M_only M_can M_next) H locs → lv_has ls 13 [(0, .ref m0), (1, .int l1), (2, .int l2), (3, .int l3), (4, .int l4), (5, .int l5), (6, .int l6), (7, .int v)] → GX8_mend p l e s m below meth c D cI cJ cZ m0 m1 m2 m3 m4 m5 m6 m7 m8 m9 m10 m11 m12 m13 M_posts M_roads M_size M_rows M_nextRows M_first M_second M_number_0 M_lists M_square M_fan_0 M_trial M_touching M_having M_most M_only M_can M_next a1 out H locs (F0 m 142 ls [])) (fun z => Sum.elim (fun (v1 : (Nat → Int32) × Int32) => ∀ (H : Heap) (locs : List Loc) (ls : Array Slot), WI D A s.heap (wM cI cJ cZ m0 m1 m2 m3 m4 m5 m6 m7 m8 m9 m10 m11 m12 m13 M_posts M_roads M_size M_rows M_nextRows M_first M_second M_number M_lists M_square v1.1 M_trial M_touching M_having M_most M_only M_can M_next) H locs → lv_has ls 13 [(0, .ref m0), (1, .int l1), (2, .int l2), (3, .int v1.2)] → GX8_mend p l e s m below meth c D cI cJ cZ m0 m1 m2 m3 m4 m5 m6 m7 m8 m9 m10 m11 m12 m13 M_posts M_roads M_size M_rows M_nextRows M_first M_second M_number_0 M_lists M_square M_fan_0 M_trial M_touching M_having M_most M_only M_can M_next a1 out H locs (F0 m 87 ls [])) (fun z : Int32 × (Nat → Int32) × (Nat → Int32) => z = out) z) ?_
    intro v x hf hM H locs ls hI hl
    refine lv_iload hx hb dX8_mend_142 (lv_at hl 7 rfl) ?_
    refine lv_iload_n hx hb dX8_mend_144 rfl (lv_at hl 3 rfl) ?_
    refine lv_icmp_ge (tgt := 166) hx hb dX8_mend_145 (by decide) (fun hc => ?_) (fun hc => ?_)
    · replace hf := ite_t hc hf
      obtain ⟨z, hf2, ez⟩ := mp_e hf
      clear hf
      subst ez
      exact J166 M_number M_fan l1 l2 l3 l4 l5 l6 v _ hf2 hM _ _ _ hI (lv_sub hl [0, 1, 2, 3, 4, 5, 6, 7] rfl)
    · replace hf := ite_f hc hf
      refine lv_aload_n hx hb dX8_mend_148 rfl (lv_at hl 0 rfl) ?_
      refine w_get hx hb hg hown hK hI iX8 0 rfl rfl 10 (by decide) wF_RX8_32 rfl dX8_mend_149 ?_
      refine lv_iload hx hb dX8_mend_152 (lv_at hl 7 rfl) ?_
      obtain ⟨hin, hf⟩ := rd_e hf
      refine w_iald hx hb hK hI 6 rfl hin dX8_mend_154 (fun x25 ex25 => ?_)
      replace hf := hf x25 ex25
      refine lv_iload hx hb dX8_mend_155 (lv_at hl 6 rfl) ?_
      refine lv_icmp_eq (tgt := 166) hx hb dX8_mend_157 (by decide) (fun hc => ?_) (fun hc => ?_)
      · replace hf := ite_t hc hf
        obtain ⟨z, hf2, ez⟩ := mp_e hf
        clear hf
        subst ez
        exact J166 M_number M_fan l1 l2 l3 l4 l5 l6 v _ hf2 hM _ _ _ hI (lv_sub hl [0, 1, 2, 3, 4, 5, 6, 7] rfl)
      · replace hf := ite_f hc hf
        obtain ⟨x26, ex26⟩ : ∃ y : Int32, y = (v + (1 : Int32)) := ⟨_, rfl⟩
        replace hf := bnd_e hf x26 ex26
        refine lv_iinc (v := x26) (lv' := [(7, .int x26), (0, .ref m0), (1, .int l1), (2, .int l2), (3, .int l3), (4, .int l4), (5, .int l5), (6, .int l6)]) hx hb dX8_mend_160 hl (k := 7) rfl (by rw [ex26]; rfl) (by decide) rfl (fun ls hl => ?_)
        refine lv_goto (tgt := 142) hx hb dX8_mend_163 (by decide) ?_
        replace hf := Option.some.inj hf
        subst hf
        exact hM _ _ _ hI (lv_sub hl [1, 2, 3, 4, 5, 6, 7, 0] rfl)
  have J115 : ∀ (M_number : Nat → Int32) (M_fan : Nat → Int32) (l1 : Int32) (l2 : Int32) (l3 : Int32) (l4 : Int32) (x : Int32 × (Nat → Int32) × (Nat → Int32)), X8_mend_J115 M_roads M_first M_second M_number M_fan l1 l2 l3 l4 = some x → (fun z : Int32 × (Nat → Int32) × (Nat → Int32) => z = out) x → ∀ (H : Heap) (locs : List Loc) (ls : Array Slot), WI D A s.heap (wM cI cJ cZ m0 m1 m2 m3 m4 m5 m6 m7 m8 m9 m10 m11 m12 m13 M_posts M_roads M_size M_rows M_nextRows M_first M_second M_number M_lists M_square M_fan M_trial M_touching M_having M_most M_only M_can M_next) H locs → lv_has ls 13 [(0, .ref m0), (1, .int l1), (2, .int l2), (3, .int l3), (4, .int l4)] → GX8_mend p l e s m below meth c D cI cJ cZ m0 m1 m2 m3 m4 m5 m6 m7 m8 m9 m10 m11 m12 m13 M_posts M_roads M_size M_rows M_nextRows M_first M_second M_number_0 M_lists M_square M_fan_0 M_trial M_touching M_having M_most M_only M_can M_next a1 out H locs (F0 m 115 ls []) := by
    intro M_number M_fan l1 l2 l3 l4 x hf hM H locs ls hI hl
    refine lv_aload_n hx hb dX8_mend_115 rfl (lv_at hl 0 rfl) ?_
    refine lv_iload_n hx hb dX8_mend_116 rfl (lv_at hl 2 rfl) ?_
    refine lv_iload_n hx hb dX8_mend_117 rfl (lv_at hl 3 rfl) ?_
    refine lv_iload hx hb dX8_mend_118 (lv_at hl 4 rfl) ?_
    obtain ⟨o27, ho27, hf⟩ := bd_e hf
    refine w_Vv0 (wc := (wM cI cJ cZ m0 m1 m2 m3 m4 m5 m6 m7 m8 m9 m10 m11 m12 m13 M_posts M_roads M_size M_rows M_nextRows M_first M_second M_number M_lists M_square M_fan M_trial M_touching M_having M_most M_only M_can M_next)) (wr := []) (rest := []) hx hb hml hg hown hK hA hI (kX8_turned l D cI cJ cZ m0 m1 m2 m3 m4 m5 m6 m7 m8 m9 m10 m11 m12 m13 M_posts M_roads M_size M_rows M_nextRows M_first M_second M_number M_lists M_square M_fan M_trial M_touching M_having M_most M_only M_can M_next l2 l3 l4 o27 ho27) kvX8_turned wL_RX8_124 ⟨Nat.le_of_ble_eq_true rfl, Nat.le_of_ble_eq_true rfl⟩ rfl rfl [0, 1, 2, 3, 4, 5, 6, 7, 8, 9, 10, 11, 12, 13] [] rfl rfl rfl rfl (by decide) rfl rfl hl.1 (Nat.le_of_ble_eq_true rfl) dX8_mend_120 ⟨Nat.zero_le _, Nat.zero_le _⟩ ⟨rfl, rfl⟩ (fun  u H locs hp hI => ?_)
    replace hI : WI D A s.heap (wM cI cJ cZ m0 m1 m2 m3 m4 m5 m6 m7 m8 m9 m10 m11 m12 m13 M_posts M_roads M_size M_rows M_nextRows M_first M_second o27 M_lists M_square M_fan M_trial M_touching M_having M_most M_only M_can M_next) H locs := hI
    refine lv_aload_n hx hb dX8_mend_123 rfl (lv_at hl 0 rfl) ?_
    refine w_get hx hb hg hown hK hI iX8 0 rfl rfl 4 (by decide) wF_RX8_16 rfl dX8_mend_124 ?_
    refine lv_iload_n hx hb dX8_mend_127 rfl (lv_at hl 1 rfl) ?_
    obtain ⟨hin, hf⟩ := rd_e hf
    refine w_iald hx hb hK hI 3 rfl hin dX8_mend_128 (fun x28 ex28 => ?_)
    replace hf := hf x28 ex28
    replace hf := Option.some.inj hf
    subst hf
    replace hM : (x28, o27, M_fan) = out := hM
    subst hM
    exact rt_i (u := ()) hx hb hr hlocks rfl hI hAe rfl dX8_mend_129
  have L87 : ∀ (M_number : Nat → Int32) (l1 : Int32) (l2 : Int32), ∀ (v : (Nat → Int32) × Int32) (x : Int32 × (Nat → Int32) × (Nat → Int32)), loopO (X8_mend_L87 M_roads M_first M_second M_number l1 l2) v = some x → (fun z : Int32 × (Nat → Int32) × (Nat → Int32) => z = out) x → (fun (v : (Nat → Int32) × Int32) => ∀ (H : Heap) (locs : List Loc) (ls : Array Slot), WI D A s.heap (wM cI cJ cZ m0 m1 m2 m3 m4 m5 m6 m7 m8 m9 m10 m11 m12 m13 M_posts M_roads M_size M_rows M_nextRows M_first M_second M_number M_lists M_square v.1 M_trial M_touching M_having M_most M_only M_can M_next) H locs → lv_has ls 13 [(0, .ref m0), (1, .int l1), (2, .int l2), (3, .int v.2)] → GX8_mend p l e s m below meth c D cI cJ cZ m0 m1 m2 m3 m4 m5 m6 m7 m8 m9 m10 m11 m12 m13 M_posts M_roads M_size M_rows M_nextRows M_first M_second M_number_0 M_lists M_square M_fan_0 M_trial M_touching M_having M_most M_only M_can M_next a1 out H locs (F0 m 87 ls [])) v := by
    intro M_number l1 l2
    refine loopO_ind (fun (v : (Nat → Int32) × Int32) => ∀ (H : Heap) (locs : List Loc) (ls : Array Slot), WI D A s.heap (wM cI cJ cZ m0 m1 m2 m3 m4 m5 m6 m7 m8 m9 m10 m11 m12 m13 M_posts M_roads M_size M_rows M_nextRows M_first M_second M_number M_lists M_square v.1 M_trial M_touching M_having M_most M_only M_can M_next) H locs → lv_has ls 13 [(0, .ref m0), (1, .int l1), (2, .int l2), (3, .int v.2)] → GX8_mend p l e s m below meth c D cI cJ cZ m0 m1 m2 m3 m4 m5 m6 m7 m8 m9 m10 m11 m12 m13 M_posts M_roads M_size M_rows M_nextRows M_first M_second M_number_0 M_lists M_square M_fan_0 M_trial M_touching M_having M_most M_only M_can M_next a1 out H locs (F0 m 87 ls [])) (fun z : Int32 × (Nat → Int32) × (Nat → Int32) => z = out) ?_
    intro v x hf hM H locs ls hI hl
    refine lv_aload_n hx hb dX8_mend_87 rfl (lv_at hl 0 rfl) ?_
    refine lv_aload_n hx hb dX8_mend_88 rfl (lv_at hl 0 rfl) ?_
    refine w_get hx hb hg hown hK hI iX8 0 rfl rfl 10 (by decide) wF_RX8_32 rfl dX8_mend_89 ?_
    refine lv_iload_n hx hb dX8_mend_92 rfl (lv_at hl 3 rfl) ?_
    refine lv_iconst (v := 1) hx hb dX8_mend_93 (by decide) ?_
    refine lv_isub hx hb dX8_mend_94 ?_
    obtain ⟨hin, hf⟩ := rd_e hf
    refine w_iald hx hb hK hI 6 rfl hin dX8_mend_95 (fun x8 ex8 => ?_)
    replace hf := hf x8 ex8
    obtain ⟨o9, ho9, hf⟩ := bd_e hf
    refine w_Vi0 (wc := (wM cI cJ cZ m0 m1 m2 m3 m4 m5 m6 m7 m8 m9 m10 m11 m12 m13 M_posts M_roads M_size M_rows M_nextRows M_first M_second M_number M_lists M_square v.1 M_trial M_touching M_having M_most M_only M_can M_next)) (wr := []) (rest := []) hx hb hml hg hown hK hA hI (kX8_leastFree l D cI cJ cZ m0 m1 m2 m3 m4 m5 m6 m7 m8 m9 m10 m11 m12 m13 M_posts M_roads M_size M_rows M_nextRows M_first M_second M_number M_lists M_square v.1 M_trial M_touching M_having M_most M_only M_can M_next x8 o9 ho9) kvX8_leastFree wL_RX8_88 ⟨Nat.le_of_ble_eq_true rfl, Nat.le_of_ble_eq_true rfl⟩ rfl rfl [0, 1, 2, 3, 4, 5, 6, 7, 8, 9, 10, 11, 12, 13] [] rfl rfl rfl rfl (by decide) rfl rfl hl.1 (Nat.le_of_ble_eq_true rfl) dX8_mend_96 ⟨Nat.zero_le _, Nat.zero_le _⟩ ⟨rfl, rfl⟩ (fun r u H locs hp hI => ?_)
    replace hp : r = o9 := hp
    rw [hp]
    clear hp
    replace hI : WI D A s.heap (wM cI cJ cZ m0 m1 m2 m3 m4 m5 m6 m7 m8 m9 m10 m11 m12 m13 M_posts M_roads M_size M_rows M_nextRows M_first M_second M_number M_lists M_square v.1 M_trial M_touching M_having M_most M_only M_can M_next) H locs := hI
    refine lv_istore (lv' := [(4, .int o9), (0, .ref m0), (1, .int l1), (2, .int l2), (3, .int v.2)]) hx hb dX8_mend_99 hl (by decide) rfl (fun ls hl => ?_)
    refine lv_aload_n hx hb dX8_mend_101 rfl (lv_at hl 1 rfl) ?_
    refine lv_iload_n hx hb dX8_mend_102 rfl (lv_at hl 3 rfl) ?_
    refine lv_iload hx hb dX8_mend_103 (lv_at hl 0 rfl) ?_
    obtain ⟨o10, ho10, hf⟩ := bd_e hf
    refine w_Vi0 (wc := (wM cI cJ cZ m0 m1 m2 m3 m4 m5 m6 m7 m8 m9 m10 m11 m12 m13 M_posts M_roads M_size M_rows M_nextRows M_first M_second M_number M_lists M_square v.1 M_trial M_touching M_having M_most M_only M_can M_next)) (wr := []) (rest := []) hx hb hml hg hown hK hA hI (kX8_with l D cI cJ cZ m0 m1 m2 m3 m4 m5 m6 m7 m8 m9 m10 m11 m12 m13 M_posts M_roads M_size M_rows M_nextRows M_first M_second M_number M_lists M_square v.1 M_trial M_touching M_having M_most M_only M_can M_next l2 o9 o10 ho10) kvX8_with wL_RX8_84 ⟨Nat.le_of_ble_eq_true rfl, Nat.le_of_ble_eq_true rfl⟩ rfl rfl [0, 1, 2, 3, 4, 5, 6, 7, 8, 9, 10, 11, 12, 13] [] rfl rfl rfl rfl (by decide) rfl rfl hl.1 (Nat.le_of_ble_eq_true rfl) dX8_mend_105 ⟨Nat.zero_le _, Nat.zero_le _⟩ ⟨rfl, rfl⟩ (fun r u H locs hp hI => ?_)
    replace hp : r = o10 := hp
    rw [hp]
    clear hp
    replace hI : WI D A s.heap (wM cI cJ cZ m0 m1 m2 m3 m4 m5 m6 m7 m8 m9 m10 m11 m12 m13 M_posts M_roads M_size M_rows M_nextRows M_first M_second M_number M_lists M_square v.1 M_trial M_touching M_having M_most M_only M_can M_next) H locs := hI
    refine lv_istore (lv' := [(5, .int o10), (4, .int o9), (0, .ref m0), (1, .int l1), (2, .int l2), (3, .int v.2)]) hx hb dX8_mend_108 hl (by decide) rfl (fun ls hl => ?_)
    refine lv_iload hx hb dX8_mend_110 (lv_at hl 0 rfl) ?_
    refine lv_if_ge (tgt := 130) hx hb dX8_mend_112 (by decide) (fun hc => ?_) (fun hc => ?_)
    · replace hf := ite_t hc hf
      refine lv_aload_n hx hb dX8_mend_130 rfl (lv_at hl 2 rfl) ?_
      refine lv_iload hx hb dX8_mend_131 (lv_at hl 0 rfl) ?_
      refine lv_iload_n hx hb dX8_mend_133 rfl (lv_at hl 4 rfl) ?_
      obtain ⟨o11, ho11, hf⟩ := bd_e hf
      refine w_Vi0 (wc := (wM cI cJ cZ m0 m1 m2 m3 m4 m5 m6 m7 m8 m9 m10 m11 m12 m13 M_posts M_roads M_size M_rows M_nextRows M_first M_second M_number M_lists M_square v.1 M_trial M_touching M_having M_most M_only M_can M_next)) (wr := []) (rest := []) hx hb hml hg hown hK hA hI (kX8_other l D cI cJ cZ m0 m1 m2 m3 m4 m5 m6 m7 m8 m9 m10 m11 m12 m13 M_posts M_roads M_size M_rows M_nextRows M_first M_second M_number M_lists M_square v.1 M_trial M_touching M_having M_most M_only M_can M_next o10 l2 o11 ho11) kvX8_other wL_RX8_127 ⟨Nat.le_of_ble_eq_true rfl, Nat.le_of_ble_eq_true rfl⟩ rfl rfl [0, 1, 2, 3, 4, 5, 6, 7, 8, 9, 10, 11, 12, 13] [] rfl rfl rfl rfl (by decide) rfl rfl hl.1 (Nat.le_of_ble_eq_true rfl) dX8_mend_134 ⟨Nat.zero_le _, Nat.zero_le _⟩ ⟨rfl, rfl⟩ (fun r u H locs hp hI => ?_)
      replace hp : r = o11 := hp
      rw [hp]
      clear hp
      replace hI : WI D A s.heap (wM cI cJ cZ m0 m1 m2 m3 m4 m5 m6 m7 m8 m9 m10 m11 m12 m13 M_posts M_roads M_size M_rows M_nextRows M_first M_second M_number M_lists M_square v.1 M_trial M_touching M_having M_most M_only M_can M_next) H locs := hI
      refine lv_istore (lv' := [(6, .int o11), (5, .int o10), (4, .int o9), (0, .ref m0), (1, .int l1), (2, .int l2), (3, .int v.2)]) hx hb dX8_mend_137 hl (by decide) rfl (fun ls hl => ?_)
      refine lv_iconst (v := 0) hx hb dX8_mend_139 (by decide) ?_
      refine lv_istore (lv' := [(7, .int (0 : Int32)), (6, .int o11), (5, .int o10), (4, .int o9), (0, .ref m0), (1, .int l1), (2, .int l2), (3, .int v.2)]) hx hb dX8_mend_140 hl (by decide) rfl (fun ls hl => ?_)
      exact L142 M_number v.1 l1 l2 v.2 o9 o10 o11 (0 : Int32) _ hf hM _ _ _ hI (lv_sub hl [4, 5, 6, 7, 3, 2, 1, 0] rfl)
    · replace hf := ite_f hc hf
      obtain ⟨z, hf2, ez⟩ := mp_e hf
      clear hf
      subst ez
      exact J115 M_number v.1 l1 l2 v.2 o9 _ hf2 hM _ _ _ hI (lv_sub hl [2, 3, 4, 5, 1] rfl)
  have J66 : ∀ (M_number : Nat → Int32) (M_fan : Nat → Int32) (l1 : Int32) (x : Int32 × (Nat → Int32) × (Nat → Int32)), X8_mend_J66 M_roads M_first M_second M_number M_fan l1 = some x → (fun z : Int32 × (Nat → Int32) × (Nat → Int32) => z = out) x → ∀ (H : Heap) (locs : List Loc) (ls : Array Slot), WI D A s.heap (wM cI cJ cZ m0 m1 m2 m3 m4 m5 m6 m7 m8 m9 m10 m11 m12 m13 M_posts M_roads M_size M_rows M_nextRows M_first M_second M_number M_lists M_square M_fan M_trial M_touching M_having M_most M_only M_can M_next) H locs → lv_has ls 13 [(0, .ref m0), (1, .int l1)] → GX8_mend p l e s m below meth c D cI cJ cZ m0 m1 m2 m3 m4 m5 m6 m7 m8 m9 m10 m11 m12 m13 M_posts M_roads M_size M_rows M_nextRows M_first M_second M_number_0 M_lists M_square M_fan_0 M_trial M_touching M_having M_most M_only M_can M_next a1 out H locs (F0 m 66 ls []) := by
    intro M_number M_fan l1 x hf hM H locs ls hI hl
    refine lv_aload_n hx hb dX8_mend_66 rfl (lv_at hl 0 rfl) ?_
    refine w_get hx hb hg hown hK hI iX8 0 rfl rfl 2 (by decide) wF_RX8_7 rfl dX8_mend_67 ?_
    refine lv_iload_n hx hb dX8_mend_70 rfl (lv_at hl 1 rfl) ?_
    obtain ⟨hin, hf⟩ := rd_e hf
    refine w_iald hx hb hK hI 1 rfl hin dX8_mend_71 (fun x5 ex5 => ?_)
    replace hf := hf x5 ex5
    refine lv_istore_n (lv' := [(2, .int x5), (0, .ref m0), (1, .int l1)]) hx hb dX8_mend_72 rfl hl (by decide) rfl (fun ls hl => ?_)
    refine lv_iconst (v := 1) hx hb dX8_mend_73 (by decide) ?_
    refine lv_istore_n (lv' := [(3, .int (1 : Int32)), (2, .int x5), (0, .ref m0), (1, .int l1)]) hx hb dX8_mend_74 rfl hl (by decide) rfl (fun ls hl => ?_)
    refine lv_aload_n hx hb dX8_mend_75 rfl (lv_at hl 2 rfl) ?_
    refine w_get hx hb hg hown hK hI iX8 0 rfl rfl 10 (by decide) wF_RX8_32 rfl dX8_mend_76 ?_
    refine lv_iconst (v := 0) hx hb dX8_mend_79 (by decide) ?_
    refine lv_aload_n hx hb dX8_mend_80 rfl (lv_at hl 2 rfl) ?_
    refine w_get hx hb hg hown hK hI iX8 0 rfl rfl 3 (by decide) wF_RX8_13 rfl dX8_mend_81 ?_
    refine lv_iload_n hx hb dX8_mend_84 rfl (lv_at hl 3 rfl) ?_
    obtain ⟨hin, hf⟩ := rd_e hf
    refine w_iald hx hb hK hI 2 rfl hin dX8_mend_85 (fun x6 ex6 => ?_)
    replace hf := hf x6 ex6
    obtain ⟨hin, hf⟩ := wr_e hf
    obtain ⟨g7, eg7⟩ : ∃ g : Nat → Int32, g = upd M_fan ((0 : Int32)).toNatClampNeg x6 := ⟨_, rfl⟩
    replace hf := hf g7 eg7
    refine w_iast (g := g7) (W1 := (wM cI cJ cZ m0 m1 m2 m3 m4 m5 m6 m7 m8 m9 m10 m11 m12 m13 M_posts M_roads M_size M_rows M_nextRows M_first M_second M_number M_lists M_square g7 M_trial M_touching M_having M_most M_only M_can M_next)) hx hb hK hI 6 rfl hin eg7 dX8_mend_86 rfl (fun H locs hI => ?_)
    exact L87 M_number l1 x5 (g7, (1 : Int32)) _ hf hM _ _ _ hI (lv_sub hl [2, 3, 1, 0] rfl)
  have L36 : ∀ (M_number : Nat → Int32) (M_fan : Nat → Int32) (l1 : Int32), ∀ (v : Int32) (x : Int32 × (Nat → Int32) × (Nat → Int32)), loopO (X8_mend_L36 M_posts M_roads M_first M_second M_number M_fan l1) v = some x → (fun z : Int32 × (Nat → Int32) × (Nat → Int32) => z = out) x → (fun (v : Int32) => ∀ (H : Heap) (locs : List Loc) (ls : Array Slot), WI D A s.heap (wM cI cJ cZ m0 m1 m2 m3 m4 m5 m6 m7 m8 m9 m10 m11 m12 m13 M_posts M_roads M_size M_rows M_nextRows M_first M_second M_number M_lists M_square M_fan M_trial M_touching M_having M_most M_only M_can M_next) H locs → lv_has ls 13 [(0, .ref m0), (1, .int l1), (2, .int v)] → GX8_mend p l e s m below meth c D cI cJ cZ m0 m1 m2 m3 m4 m5 m6 m7 m8 m9 m10 m11 m12 m13 M_posts M_roads M_size M_rows M_nextRows M_first M_second M_number_0 M_lists M_square M_fan_0 M_trial M_touching M_having M_most M_only M_can M_next a1 out H locs (F0 m 36 ls [])) v := by
    intro M_number M_fan l1
    refine loopO_ind (fun (v : Int32) => ∀ (H : Heap) (locs : List Loc) (ls : Array Slot), WI D A s.heap (wM cI cJ cZ m0 m1 m2 m3 m4 m5 m6 m7 m8 m9 m10 m11 m12 m13 M_posts M_roads M_size M_rows M_nextRows M_first M_second M_number M_lists M_square M_fan M_trial M_touching M_having M_most M_only M_can M_next) H locs → lv_has ls 13 [(0, .ref m0), (1, .int l1), (2, .int v)] → GX8_mend p l e s m below meth c D cI cJ cZ m0 m1 m2 m3 m4 m5 m6 m7 m8 m9 m10 m11 m12 m13 M_posts M_roads M_size M_rows M_nextRows M_first M_second M_number_0 M_lists M_square M_fan_0 M_trial M_touching M_having M_most M_only M_can M_next a1 out H locs (F0 m 36 ls [])) (fun z : Int32 × (Nat → Int32) × (Nat → Int32) => z = out) ?_
    intro v x hf hM H locs ls hI hl
    refine lv_iload_n hx hb dX8_mend_36 rfl (lv_at hl 2 rfl) ?_
    refine lv_aload_n hx hb dX8_mend_37 rfl (lv_at hl 0 rfl) ?_
    refine w_get hx hb hg hown hK hI iX8 0 rfl rfl 1 (by decide) wF_RX8_57 rfl dX8_mend_38 ?_
    refine lv_icmp_ge (tgt := 66) hx hb dX8_mend_41 (by decide) (fun hc => ?_) (fun hc => ?_)
    · replace hf := ite_t hc hf
      obtain ⟨z, hf2, ez⟩ := mp_e hf
      clear hf
      subst ez
      exact J66 M_number M_fan l1 _ hf2 hM _ _ _ hI (lv_sub hl [0, 1] rfl)
    · replace hf := ite_f hc hf
      refine lv_aload_n hx hb dX8_mend_44 rfl (lv_at hl 0 rfl) ?_
      refine w_get hx hb hg hown hK hI iX8 0 rfl rfl 4 (by decide) wF_RX8_16 rfl dX8_mend_45 ?_
      refine lv_iload_n hx hb dX8_mend_48 rfl (lv_at hl 2 rfl) ?_
      obtain ⟨hin, hf⟩ := rd_e hf
      refine w_iald hx hb hK hI 3 rfl hin dX8_mend_49 (fun x29 ex29 => ?_)
      replace hf := hf x29 ex29
      refine lv_aload_n hx hb dX8_mend_50 rfl (lv_at hl 0 rfl) ?_
      obtain ⟨o30, ho30, hf⟩ := bd_e hf
      refine w_Vi0 (wc := (wM cI cJ cZ m0 m1 m2 m3 m4 m5 m6 m7 m8 m9 m10 m11 m12 m13 M_posts M_roads M_size M_rows M_nextRows M_first M_second M_number M_lists M_square M_fan M_trial M_touching M_having M_most M_only M_can M_next)) (wr := []) (rest := [.int x29]) hx hb hml hg hown hK hA hI (kX8_fullOf l D cI cJ cZ m0 m1 m2 m3 m4 m5 m6 m7 m8 m9 m10 m11 m12 m13 M_posts M_roads M_size M_rows M_nextRows M_first M_second M_number M_lists M_square M_fan M_trial M_touching M_having M_most M_only M_can M_next  o30 ho30) kvX8_fullOf wL_RX8_121 ⟨Nat.le_of_ble_eq_true rfl, Nat.le_of_ble_eq_true rfl⟩ rfl rfl [0, 1, 2, 3, 4, 5, 6, 7, 8, 9, 10, 11, 12, 13] [] rfl rfl rfl rfl (by decide) rfl rfl hl.1 (Nat.le_of_ble_eq_true rfl) dX8_mend_51 ⟨Nat.zero_le _, Nat.zero_le _⟩ ⟨rfl, rfl⟩ (fun r u H locs hp hI => ?_)
      replace hp : r = o30 := hp
      rw [hp]
      clear hp
      replace hI : WI D A s.heap (wM cI cJ cZ m0 m1 m2 m3 m4 m5 m6 m7 m8 m9 m10 m11 m12 m13 M_posts M_roads M_size M_rows M_nextRows M_first M_second M_number M_lists M_square M_fan M_trial M_touching M_having M_most M_only M_can M_next) H locs := hI
      refine lv_icmp_le (tgt := 60) hx hb dX8_mend_54 (by decide) (fun hc => ?_) (fun hc => ?_)
      · replace hf := ite_t hc hf
        obtain ⟨x31, ex31⟩ : ∃ y : Int32, y = (v + (1 : Int32)) := ⟨_, rfl⟩
        replace hf := bnd_e hf x31 ex31
        refine lv_iinc (v := x31) (lv' := [(2, .int x31), (0, .ref m0), (1, .int l1)]) hx hb dX8_mend_60 hl (k := 2) rfl (by rw [ex31]; rfl) (by decide) rfl (fun ls hl => ?_)
        refine lv_goto (tgt := 36) hx hb dX8_mend_63 (by decide) ?_
        replace hf := Option.some.inj hf
        subst hf
        exact hM _ _ _ hI (lv_sub hl [1, 2, 0] rfl)
      · replace hf := ite_f hc hf
        refine lv_bipush (v := -2) hx hb dX8_mend_57 (by decide) ?_
        replace hf := Option.some.inj hf
        subst hf
        replace hM : ((-2 : Int32), M_number, M_fan) = out := hM
        subst hM
        exact rt_i (u := ()) hx hb hr hlocks rfl hI hAe rfl dX8_mend_59
  obtain ⟨x, hf, hM⟩ : ∃ x, FX8_mend M_posts M_roads M_first M_second M_number_0 M_fan_0 a1 = some x ∧ x = out := ⟨out, hf, rfl⟩
  refine lv_aload_n hx hb dX8_mend_0 rfl (lv_at hl 0 rfl) ?_
  refine lv_iload_n hx hb dX8_mend_1 rfl (lv_at hl 1 rfl) ?_
  obtain ⟨o1, ho1, hf⟩ := bd_e hf
  refine w_Vi0 (wc := (wM cI cJ cZ m0 m1 m2 m3 m4 m5 m6 m7 m8 m9 m10 m11 m12 m13 M_posts M_roads M_size M_rows M_nextRows M_first M_second M_number_0 M_lists M_square M_fan_0 M_trial M_touching M_having M_most M_only M_can M_next)) (wr := []) (rest := []) hx hb hml hg hown hK hA hI (kX8_isRoad l D cI cJ cZ m0 m1 m2 m3 m4 m5 m6 m7 m8 m9 m10 m11 m12 m13 M_posts M_roads M_size M_rows M_nextRows M_first M_second M_number_0 M_lists M_square M_fan_0 M_trial M_touching M_having M_most M_only M_can M_next a1 o1 ho1) kvX8_isRoad wL_RX8_72 ⟨Nat.le_of_ble_eq_true rfl, Nat.le_of_ble_eq_true rfl⟩ rfl rfl [0, 1, 2, 3, 4, 5, 6, 7, 8, 9, 10, 11, 12, 13] [] rfl rfl rfl rfl (by decide) rfl rfl hl.1 (Nat.le_of_ble_eq_true rfl) dX8_mend_2 ⟨Nat.zero_le _, Nat.zero_le _⟩ ⟨rfl, rfl⟩ (fun r u H locs hp hI => ?_)
  replace hp : r = o1 := hp
  rw [hp]
  clear hp
  replace hI : WI D A s.heap (wM cI cJ cZ m0 m1 m2 m3 m4 m5 m6 m7 m8 m9 m10 m11 m12 m13 M_posts M_roads M_size M_rows M_nextRows M_first M_second M_number_0 M_lists M_square M_fan_0 M_trial M_touching M_having M_most M_only M_can M_next) H locs := hI
  refine lv_if_eq (tgt := 31) hx hb dX8_mend_5 (by decide) (fun hc => ?_) (fun hc => ?_)
  · replace hf := ite_t hc hf
    refine lv_bipush (v := -2) hx hb dX8_mend_31 (by decide) ?_
    replace hf := Option.some.inj hf
    subst hf
    replace hM : ((-2 : Int32), M_number_0, M_fan_0) = out := hM
    subst hM
    exact rt_i (u := ()) hx hb hr hlocks rfl hI hAe rfl dX8_mend_33
  · replace hf := ite_f hc hf
    refine lv_aload_n hx hb dX8_mend_8 rfl (lv_at hl 0 rfl) ?_
    refine w_get hx hb hg hown hK hI iX8 0 rfl rfl 4 (by decide) wF_RX8_16 rfl dX8_mend_9 ?_
    refine lv_iload_n hx hb dX8_mend_12 rfl (lv_at hl 1 rfl) ?_
    obtain ⟨hin, hf⟩ := rd_e hf
    refine w_iald hx hb hK hI 3 rfl hin dX8_mend_13 (fun x2 ex2 => ?_)
    replace hf := hf x2 ex2
    refine lv_if_ge (tgt := 31) hx hb dX8_mend_14 (by decide) (fun hc => ?_) (fun hc => ?_)
    · replace hf := ite_t hc hf
      refine lv_bipush (v := -2) hx hb dX8_mend_31 (by decide) ?_
      replace hf := Option.some.inj hf
      subst hf
      replace hM : ((-2 : Int32), M_number_0, M_fan_0) = out := hM
      subst hM
      exact rt_i (u := ()) hx hb hr hlocks rfl hI hAe rfl dX8_mend_33
    · replace hf := ite_f hc hf
      refine lv_aload_n hx hb dX8_mend_17 rfl (lv_at hl 0 rfl) ?_
      obtain ⟨o3, ho3, hf⟩ := bd_e hf
      refine w_Vi0 (wc := (wM cI cJ cZ m0 m1 m2 m3 m4 m5 m6 m7 m8 m9 m10 m11 m12 m13 M_posts M_roads M_size M_rows M_nextRows M_first M_second M_number_0 M_lists M_square M_fan_0 M_trial M_touching M_having M_most M_only M_can M_next)) (wr := []) (rest := []) hx hb hml hg hown hK hA hI (kX8_clashing l D cI cJ cZ m0 m1 m2 m3 m4 m5 m6 m7 m8 m9 m10 m11 m12 m13 M_posts M_roads M_size M_rows M_nextRows M_first M_second M_number_0 M_lists M_square M_fan_0 M_trial M_touching M_having M_most M_only M_can M_next  o3 ho3) kvX8_clashing wL_RX8_97 ⟨Nat.le_of_ble_eq_true rfl, Nat.le_of_ble_eq_true rfl⟩ rfl rfl [0, 1, 2, 3, 4, 5, 6, 7, 8, 9, 10, 11, 12, 13] [] rfl rfl rfl rfl (by decide) rfl rfl hl.1 (Nat.le_of_ble_eq_true rfl) dX8_mend_18 ⟨Nat.zero_le _, Nat.zero_le _⟩ ⟨rfl, rfl⟩ (fun r u H locs hp hI => ?_)
      replace hp : r = o3 := hp
      rw [hp]
      clear hp
      replace hI : WI D A s.heap (wM cI cJ cZ m0 m1 m2 m3 m4 m5 m6 m7 m8 m9 m10 m11 m12 m13 M_posts M_roads M_size M_rows M_nextRows M_first M_second M_number_0 M_lists M_square M_fan_0 M_trial M_touching M_having M_most M_only M_can M_next) H locs := hI
      refine lv_if_ge (tgt := 31) hx hb dX8_mend_21 (by decide) (fun hc => ?_) (fun hc => ?_)
      · replace hf := ite_t hc hf
        refine lv_bipush (v := -2) hx hb dX8_mend_31 (by decide) ?_
        replace hf := Option.some.inj hf
        subst hf
        replace hM : ((-2 : Int32), M_number_0, M_fan_0) = out := hM
        subst hM
        exact rt_i (u := ()) hx hb hr hlocks rfl hI hAe rfl dX8_mend_33
      · replace hf := ite_f hc hf
        refine lv_aload_n hx hb dX8_mend_24 rfl (lv_at hl 0 rfl) ?_
        obtain ⟨o4, ho4, hf⟩ := bd_e hf
        refine w_Vi0 (wc := (wM cI cJ cZ m0 m1 m2 m3 m4 m5 m6 m7 m8 m9 m10 m11 m12 m13 M_posts M_roads M_size M_rows M_nextRows M_first M_second M_number_0 M_lists M_square M_fan_0 M_trial M_touching M_having M_most M_only M_can M_next)) (wr := []) (rest := []) hx hb hml hg hown hK hA hI (kX8_isPlain l D cI cJ cZ m0 m1 m2 m3 m4 m5 m6 m7 m8 m9 m10 m11 m12 m13 M_posts M_roads M_size M_rows M_nextRows M_first M_second M_number_0 M_lists M_square M_fan_0 M_trial M_touching M_having M_most M_only M_can M_next  o4 ho4) kvX8_isPlain wL_RX8_117 ⟨Nat.le_of_ble_eq_true rfl, Nat.le_of_ble_eq_true rfl⟩ rfl rfl [0, 1, 2, 3, 4, 5, 6, 7, 8, 9, 10, 11, 12, 13] [] rfl rfl rfl rfl (by decide) rfl rfl hl.1 (Nat.le_of_ble_eq_true rfl) dX8_mend_25 ⟨Nat.zero_le _, Nat.zero_le _⟩ ⟨rfl, rfl⟩ (fun r u H locs hp hI => ?_)
        replace hp : r = o4 := hp
        rw [hp]
        clear hp
        replace hI : WI D A s.heap (wM cI cJ cZ m0 m1 m2 m3 m4 m5 m6 m7 m8 m9 m10 m11 m12 m13 M_posts M_roads M_size M_rows M_nextRows M_first M_second M_number_0 M_lists M_square M_fan_0 M_trial M_touching M_having M_most M_only M_can M_next) H locs := hI
        refine lv_if_ne (tgt := 34) hx hb dX8_mend_28 (by decide) (fun hc => ?_) (fun hc => ?_)
        · replace hf := ite_f hc hf
          refine lv_iconst (v := 0) hx hb dX8_mend_34 (by decide) ?_
          refine lv_istore_n (lv' := [(2, .int (0 : Int32)), (0, .ref m0), (1, .int a1)]) hx hb dX8_mend_35 rfl hl (by decide) rfl (fun ls hl => ?_)
          exact L36 M_number_0 M_fan_0 a1 (0 : Int32) _ hf hM _ _ _ hI (lv_sub hl [1, 2, 0] rfl)
        · replace hf := ite_t hc hf
          refine lv_bipush (v := -2) hx hb dX8_mend_31 (by decide) ?_
          replace hf := Option.some.inj hf
          subst hf
          replace hM : ((-2 : Int32), M_number_0, M_fan_0) = out := hM
          subst hM
          exact rt_i (u := ()) hx hb hr hlocks rfl hI hAe rfl dX8_mend_33
noncomputable def X8_isTwo_J75 (M_roads : Int32) : Option (Int32) :=
  if M_roads = (0 : Int32) then (some (1 : Int32)) else (some (0 : Int32))
noncomputable def X8_isTwo_J63 (M_posts : Int32) (M_roads : Int32) (M_first : Nat → Int32) (M_second : Nat → Int32) (l1 : Int32) (l2 : Int32) : Option ((Int32) ⊕ (Int32)) :=
  if l2 = (0 : Int32) then (bnd (l1 + (2 : Int32)) (fun x1 => some (.inl x1))) else (some (.inr (1 : Int32)))
noncomputable def X8_isTwo_L16 (M_posts : Int32) (M_roads : Int32) (M_first : Nat → Int32) (M_second : Nat → Int32) (l1 : Int32) (v : Int32 × Int32) : Option ((Int32 × Int32) ⊕ ((Int32) ⊕ (Int32))) :=
  if M_roads ≤ v.2 then ((X8_isTwo_J63 M_posts M_roads M_first M_second l1 v.1).map (fun z => (.inr z))) else (if v.1 = (0 : Int32) then ((X8_isTwo_J63 M_posts M_roads M_first M_second l1 v.1).map (fun z => (.inr z))) else (rd M_first 24 v.2 (fun x2 => rd M_second 24 v.2 (fun x3 => if ((l1 >>> (x2 &&& (31 : Int32))) &&& (1 : Int32)) = ((l1 >>> (x3 &&& (31 : Int32))) &&& (1 : Int32)) then (bnd (v.2 + (1 : Int32)) (fun x4 => some (.inl ((0 : Int32), x4)))) else (bnd (v.2 + (1 : Int32)) (fun x5 => some (.inl ((1 : Int32), x5))))))))
noncomputable def X8_isTwo_L2 (M_posts : Int32) (M_roads : Int32) (M_first : Nat → Int32) (M_second : Nat → Int32) (v : Int32) : Option ((Int32) ⊕ (Int32)) :=
  if ((1 : Int32) <<< (M_posts &&& (31 : Int32))) ≤ v then ((X8_isTwo_J75 M_roads).map (fun z => (.inr z))) else (loopO (X8_isTwo_L16 M_posts M_roads M_first M_second v) ((1 : Int32), (0 : Int32)))
noncomputable def FX8_isTwo (M_posts : Int32) (M_roads : Int32) (M_first : Nat → Int32) (M_second : Nat → Int32)  : Option (Int32) :=
  loopO (X8_isTwo_L2 M_posts M_roads M_first M_second) (0 : Int32)
abbrev GX8_isTwo (p : Program) (l : Launch) (e : Env) (s : State) (m : MethodId) (below : List Frame) (meth : Method) (c : Code) (D : va_G) (cI cJ cZ : ClassId) (m0 m1 m2 m3 m4 m5 m6 m7 m8 m9 m10 m11 m12 m13 : Nat) (M_posts : Int32) (M_roads : Int32) (M_size : Int32) (M_rows : Int32) (M_nextRows : Int32) (M_first : Nat → Int32) (M_second : Nat → Int32) (M_number : Nat → Int32) (M_lists : Nat → Int32) (M_square : Nat → Int32) (M_fan : Nat → Int32) (M_trial : Nat → Int32) (M_touching : Nat → Int32) (M_having : Nat → Int32) (M_most : Nat → Int32) (M_only : Nat → Int32) (M_can : Nat → Int32) (M_next : Nat → Int32)  (out : Int32) (H : Heap) (locs : List Loc) (g : JFrame) : Prop := W p l e (headSpec (Cond.code yX8_isTwo cX8_isTwo 4 (some .boolean) :: GW) { frames := 0, cells := 0, slots := 0, locals := 0 }).room s m ([.ref m0] : List Value).toArray below meth c H locs 0 0 (MQ below (va_Qi (fun r (_ : Unit) => r = out) (BW D (wM cI cJ cZ m0 m1 m2 m3 m4 m5 m6 m7 m8 m9 m10 m11 m12 m13 M_posts M_roads M_size M_rows M_nextRows M_first M_second M_number M_lists M_square M_fan M_trial M_touching M_having M_most M_only M_can M_next) s.heap.size (fun _ => (wM cI cJ cZ m0 m1 m2 m3 m4 m5 m6 m7 m8 m9 m10 m11 m12 m13 M_posts M_roads M_size M_rows M_nextRows M_first M_second M_number M_lists M_square M_fan M_trial M_touching M_having M_most M_only M_can M_next))) (va_A (wM cI cJ cZ m0 m1 m2 m3 m4 m5 m6 m7 m8 m9 m10 m11 m12 m13 M_posts M_roads M_size M_rows M_nextRows M_first M_second M_number M_lists M_square M_fan M_trial M_touching M_having M_most M_only M_can M_next) s.heap.size)) ([.ref m0] : List Value).toArray s 0 0 (va_A (wM cI cJ cZ m0 m1 m2 m3 m4 m5 m6 m7 m8 m9 m10 m11 m12 m13 M_posts M_roads M_size M_rows M_nextRows M_first M_second M_number M_lists M_square M_fan M_trial M_touching M_having M_most M_only M_can M_next) s.heap.size)) g
theorem kvX8_isTwo : CalV RX8 yX8_isTwo cX8_isTwo 4 (some .boolean) 0 := ⟨wC_yX8_isTwo, wM_yX8_isTwo, wS_yX8_isTwo, wI_RX8, by decide +kernel⟩
set_option maxHeartbeats 4000000 in
set_option maxRecDepth 100000 in
theorem kX8_isTwo (l : Launch) (D : va_G) (cI cJ cZ : ClassId) (m0 m1 m2 m3 m4 m5 m6 m7 m8 m9 m10 m11 m12 m13 : Nat) (M_posts : Int32) (M_roads : Int32) (M_size : Int32) (M_rows : Int32) (M_nextRows : Int32) (M_first : Nat → Int32) (M_second : Nat → Int32) (M_number : Nat → Int32) (M_lists : Nat → Int32) (M_square : Nat → Int32) (M_fan : Nat → Int32) (M_trial : Nat → Int32) (M_touching : Nat → Int32) (M_having : Nat → Int32) (M_most : Nat → Int32) (M_only : Nat → Int32) (M_can : Nat → Int32) (M_next : Nat → Int32)  (out : Int32) (hf : FX8_isTwo M_posts M_roads M_first M_second = some out) : MI l yX8_isTwo (Cond.code yX8_isTwo cX8_isTwo 4 (some .boolean) :: GW) { frames := 0, cells := 0, slots := 0, locals := 0 } D cI cJ cZ [.ref m0] (wM cI cJ cZ m0 m1 m2 m3 m4 m5 m6 m7 m8 m9 m10 m11 m12 m13 M_posts M_roads M_size M_rows M_nextRows M_first M_second M_number M_lists M_square M_fan M_trial M_touching M_having M_most M_only M_can M_next) (fun r (_ : Unit) => r = out) (fun _ => (wM cI cJ cZ m0 m1 m2 m3 m4 m5 m6 m7 m8 m9 m10 m11 m12 m13 M_posts M_roads M_size M_rows M_nextRows M_first M_second M_number M_lists M_square M_fan M_trial M_touching M_having M_most M_only M_can M_next)) := by
  intro sz
  refine Met.ofW (cc := cX8_isTwo) (maxL := 4) (ret := (some .boolean)) (by decide +kernel) rfl ?_
  intro p e s m args below meth c s₁ B hml hv
  obtain ⟨rfl, hsz, hP, hK, hD0⟩ := hv
  have hx := B.exec
  have hb := B.bytes
  have hr := B.returns
  have hlocks := B.notSynchronized
  have hg : ∀ w ∈ GW, w.before _ s = true := fun w h => atoms_spec (ws := Cond.code yX8_isTwo cX8_isTwo 4 (some .boolean) :: GW) B.pre w (List.mem_cons_of_mem _ h)
  have hown : s.vm.findClass RX8 = some m.cls := findClass_of_methodNamed B.named
  subst hsz
  obtain ⟨A, hAe⟩ : ∃ A, A = va_A (wM cI cJ cZ m0 m1 m2 m3 m4 m5 m6 m7 m8 m9 m10 m11 m12 m13 M_posts M_roads M_size M_rows M_nextRows M_first M_second M_number M_lists M_square M_fan M_trial M_touching M_having M_most M_only M_can M_next) s.heap.size := ⟨_, rfl⟩
  have hA : ∀ q : Nat, s.heap.size ≤ q → A q := fun q h => by rw [hAe]; exact Or.inr h
  have hI : WI D A s.heap (wM cI cJ cZ m0 m1 m2 m3 m4 m5 m6 m7 m8 m9 m10 m11 m12 m13 M_posts M_roads M_size M_rows M_nextRows M_first M_second M_number M_lists M_square M_fan M_trial M_touching M_having M_most M_only M_can M_next) s.heap [] := ⟨hP, by rw [hAe]; exact hD0.self, va_S.rf⟩
  have hl := lv_entry [.ref m0] (n := 4) (Nat.le_of_ble_eq_true rfl)
  rw [lg_entry_eq]
  generalize (lg_sl [.ref m0] ++ List.replicate (4 - (lg_sl [.ref m0]).length) Slot.unset).toArray = ls at hl ⊢
  replace hl : lv_has ls 4 [(0, .ref m0)] := hl
  have J75 : ∀  (x : Int32), X8_isTwo_J75 M_roads = some x → (fun z : Int32 => z = out) x → ∀ (H : Heap) (locs : List Loc) (ls : Array Slot), WI D A s.heap (wM cI cJ cZ m0 m1 m2 m3 m4 m5 m6 m7 m8 m9 m10 m11 m12 m13 M_posts M_roads M_size M_rows M_nextRows M_first M_second M_number M_lists M_square M_fan M_trial M_touching M_having M_most M_only M_can M_next) H locs → lv_has ls 4 [(0, .ref m0)] → GX8_isTwo p l e s m below meth c D cI cJ cZ m0 m1 m2 m3 m4 m5 m6 m7 m8 m9 m10 m11 m12 m13 M_posts M_roads M_size M_rows M_nextRows M_first M_second M_number M_lists M_square M_fan M_trial M_touching M_having M_most M_only M_can M_next  out H locs (F0 m 75 ls []) := by
    intro  x hf hM H locs ls hI hl
    refine lv_aload_n hx hb dX8_isTwo_75 rfl (lv_at hl 0 rfl) ?_
    refine w_get hx hb hg hown hK hI iX8 0 rfl rfl 1 (by decide) wF_RX8_57 rfl dX8_isTwo_76 ?_
    refine lv_if_ne (tgt := 86) hx hb dX8_isTwo_79 (by decide) (fun hc => ?_) (fun hc => ?_)
    · replace hf := ite_f hc hf
      refine lv_iconst (v := 0) hx hb dX8_isTwo_86 (by decide) ?_
      replace hf := Option.some.inj hf
      subst hf
      replace hM : (0 : Int32) = out := hM
      subst hM
      exact rt_i (u := ()) hx hb hr hlocks (by decide) hI hAe rfl dX8_isTwo_87
    · replace hf := ite_t hc hf
      refine lv_iconst (v := 1) hx hb dX8_isTwo_82 (by decide) ?_
      refine lv_goto (tgt := 87) hx hb dX8_isTwo_83 (by decide) ?_
      replace hf := Option.some.inj hf
      subst hf
      replace hM : (1 : Int32) = out := hM
      subst hM
      exact rt_i (u := ()) hx hb hr hlocks (by decide) hI hAe rfl dX8_isTwo_87
  have J63 : ∀ (l1 : Int32) (l2 : Int32) (x : (Int32) ⊕ (Int32)), X8_isTwo_J63 M_posts M_roads M_first M_second l1 l2 = some x → (fun z => Sum.elim (fun (v1 : Int32) => ∀ (H : Heap) (locs : List Loc) (ls : Array Slot), WI D A s.heap (wM cI cJ cZ m0 m1 m2 m3 m4 m5 m6 m7 m8 m9 m10 m11 m12 m13 M_posts M_roads M_size M_rows M_nextRows M_first M_second M_number M_lists M_square M_fan M_trial M_touching M_having M_most M_only M_can M_next) H locs → lv_has ls 4 [(0, .ref m0), (1, .int v1)] → GX8_isTwo p l e s m below meth c D cI cJ cZ m0 m1 m2 m3 m4 m5 m6 m7 m8 m9 m10 m11 m12 m13 M_posts M_roads M_size M_rows M_nextRows M_first M_second M_number M_lists M_square M_fan M_trial M_touching M_having M_most M_only M_can M_next  out H locs (F0 m 2 ls [])) (fun z : Int32 => z = out) z) x → ∀ (H : Heap) (locs : List Loc) (ls : Array Slot), WI D A s.heap (wM cI cJ cZ m0 m1 m2 m3 m4 m5 m6 m7 m8 m9 m10 m11 m12 m13 M_posts M_roads M_size M_rows M_nextRows M_first M_second M_number M_lists M_square M_fan M_trial M_touching M_having M_most M_only M_can M_next) H locs → lv_has ls 4 [(0, .ref m0), (1, .int l1), (2, .int l2)] → GX8_isTwo p l e s m below meth c D cI cJ cZ m0 m1 m2 m3 m4 m5 m6 m7 m8 m9 m10 m11 m12 m13 M_posts M_roads M_size M_rows M_nextRows M_first M_second M_number M_lists M_square M_fan M_trial M_touching M_having M_most M_only M_can M_next  out H locs (F0 m 63 ls []) := by
    intro l1 l2 x hf hM H locs ls hI hl
    refine lv_iload_n hx hb dX8_isTwo_63 rfl (lv_at hl 2 rfl) ?_
    refine lv_if_eq (tgt := 69) hx hb dX8_isTwo_64 (by decide) (fun hc => ?_) (fun hc => ?_)
    · replace hf := ite_t hc hf
      obtain ⟨x1, ex1⟩ : ∃ y : Int32, y = (l1 + (2 : Int32)) := ⟨_, rfl⟩
      replace hf := bnd_e hf x1 ex1
      refine lv_iinc (v := x1) (lv' := [(1, .int x1), (0, .ref m0), (2, .int l2)]) hx hb dX8_isTwo_69 hl (k := 1) rfl (by rw [ex1]; rfl) (by decide) rfl (fun ls hl => ?_)
      refine lv_goto (tgt := 2) hx hb dX8_isTwo_72 (by decide) ?_
      replace hf := Option.some.inj hf
      subst hf
      exact hM _ _ _ hI (lv_sub hl [1, 0] rfl)
    · replace hf := ite_f hc hf
      refine lv_iconst (v := 1) hx hb dX8_isTwo_67 (by decide) ?_
      replace hf := Option.some.inj hf
      subst hf
      replace hM : (1 : Int32) = out := hM
      subst hM
      exact rt_i (u := ()) hx hb hr hlocks (by decide) hI hAe rfl dX8_isTwo_68
  have L16 : ∀ (l1 : Int32), ∀ (v : Int32 × Int32) (x : (Int32) ⊕ (Int32)), loopO (X8_isTwo_L16 M_posts M_roads M_first M_second l1) v = some x → (fun z => Sum.elim (fun (v1 : Int32) => ∀ (H : Heap) (locs : List Loc) (ls : Array Slot), WI D A s.heap (wM cI cJ cZ m0 m1 m2 m3 m4 m5 m6 m7 m8 m9 m10 m11 m12 m13 M_posts M_roads M_size M_rows M_nextRows M_first M_second M_number M_lists M_square M_fan M_trial M_touching M_having M_most M_only M_can M_next) H locs → lv_has ls 4 [(0, .ref m0), (1, .int v1)] → GX8_isTwo p l e s m below meth c D cI cJ cZ m0 m1 m2 m3 m4 m5 m6 m7 m8 m9 m10 m11 m12 m13 M_posts M_roads M_size M_rows M_nextRows M_first M_second M_number M_lists M_square M_fan M_trial M_touching M_having M_most M_only M_can M_next  out H locs (F0 m 2 ls [])) (fun z : Int32 => z = out) z) x → (fun (v : Int32 × Int32) => ∀ (H : Heap) (locs : List Loc) (ls : Array Slot), WI D A s.heap (wM cI cJ cZ m0 m1 m2 m3 m4 m5 m6 m7 m8 m9 m10 m11 m12 m13 M_posts M_roads M_size M_rows M_nextRows M_first M_second M_number M_lists M_square M_fan M_trial M_touching M_having M_most M_only M_can M_next) H locs → lv_has ls 4 [(0, .ref m0), (1, .int l1), (2, .int v.1), (3, .int v.2)] → GX8_isTwo p l e s m below meth c D cI cJ cZ m0 m1 m2 m3 m4 m5 m6 m7 m8 m9 m10 m11 m12 m13 M_posts M_roads M_size M_rows M_nextRows M_first M_second M_number M_lists M_square M_fan M_trial M_touching M_having M_most M_only M_can M_next  out H locs (F0 m 16 ls [])) v := by
    intro l1
    refine loopO_ind (fun (v : Int32 × Int32) => ∀ (H : Heap) (locs : List Loc) (ls : Array Slot), WI D A s.heap (wM cI cJ cZ m0 m1 m2 m3 m4 m5 m6 m7 m8 m9 m10 m11 m12 m13 M_posts M_roads M_size M_rows M_nextRows M_first M_second M_number M_lists M_square M_fan M_trial M_touching M_having M_most M_only M_can M_next) H locs → lv_has ls 4 [(0, .ref m0), (1, .int l1), (2, .int v.1), (3, .int v.2)] → GX8_isTwo p l e s m below meth c D cI cJ cZ m0 m1 m2 m3 m4 m5 m6 m7 m8 m9 m10 m11 m12 m13 M_posts M_roads M_size M_rows M_nextRows M_first M_second M_number M_lists M_square M_fan M_trial M_touching M_having M_most M_only M_can M_next  out H locs (F0 m 16 ls [])) (fun z => Sum.elim (fun (v1 : Int32) => ∀ (H : Heap) (locs : List Loc) (ls : Array Slot), WI D A s.heap (wM cI cJ cZ m0 m1 m2 m3 m4 m5 m6 m7 m8 m9 m10 m11 m12 m13 M_posts M_roads M_size M_rows M_nextRows M_first M_second M_number M_lists M_square M_fan M_trial M_touching M_having M_most M_only M_can M_next) H locs → lv_has ls 4 [(0, .ref m0), (1, .int v1)] → GX8_isTwo p l e s m below meth c D cI cJ cZ m0 m1 m2 m3 m4 m5 m6 m7 m8 m9 m10 m11 m12 m13 M_posts M_roads M_size M_rows M_nextRows M_first M_second M_number M_lists M_square M_fan M_trial M_touching M_having M_most M_only M_can M_next  out H locs (F0 m 2 ls [])) (fun z : Int32 => z = out) z) ?_
    intro v x hf hM H locs ls hI hl
    refine lv_iload_n hx hb dX8_isTwo_16 rfl (lv_at hl 3 rfl) ?_
    refine lv_aload_n hx hb dX8_isTwo_17 rfl (lv_at hl 0 rfl) ?_
    refine w_get hx hb hg hown hK hI iX8 0 rfl rfl 1 (by decide) wF_RX8_57 rfl dX8_isTwo_18 ?_
    refine lv_icmp_ge (tgt := 63) hx hb dX8_isTwo_21 (by decide) (fun hc => ?_) (fun hc => ?_)
    · replace hf := ite_t hc hf
      obtain ⟨z, hf2, ez⟩ := mp_e hf
      clear hf
      subst ez
      exact J63 l1 v.1 _ hf2 hM _ _ _ hI (lv_sub hl [0, 1, 2] rfl)
    · replace hf := ite_f hc hf
      refine lv_iload_n hx hb dX8_isTwo_24 rfl (lv_at hl 2 rfl) ?_
      refine lv_if_eq (tgt := 63) hx hb dX8_isTwo_25 (by decide) (fun hc => ?_) (fun hc => ?_)
      · replace hf := ite_t hc hf
        obtain ⟨z, hf2, ez⟩ := mp_e hf
        clear hf
        subst ez
        exact J63 l1 v.1 _ hf2 hM _ _ _ hI (lv_sub hl [0, 1, 2] rfl)
      · replace hf := ite_f hc hf
        refine lv_iload_n hx hb dX8_isTwo_28 rfl (lv_at hl 1 rfl) ?_
        refine lv_aload_n hx hb dX8_isTwo_29 rfl (lv_at hl 0 rfl) ?_
        refine w_get hx hb hg hown hK hI iX8 0 rfl rfl 2 (by decide) wF_RX8_7 rfl dX8_isTwo_30 ?_
        refine lv_iload_n hx hb dX8_isTwo_33 rfl (lv_at hl 3 rfl) ?_
        obtain ⟨hin, hf⟩ := rd_e hf
        refine w_iald hx hb hK hI 1 rfl hin dX8_isTwo_34 (fun x2 ex2 => ?_)
        replace hf := hf x2 ex2
        refine lv_ishr hx hb dX8_isTwo_35 ?_
        refine lv_iconst (v := 1) hx hb dX8_isTwo_36 (by decide) ?_
        refine lv_iand hx hb dX8_isTwo_37 ?_
        refine lv_iload_n hx hb dX8_isTwo_38 rfl (lv_at hl 1 rfl) ?_
        refine lv_aload_n hx hb dX8_isTwo_39 rfl (lv_at hl 0 rfl) ?_
        refine w_get hx hb hg hown hK hI iX8 0 rfl rfl 3 (by decide) wF_RX8_13 rfl dX8_isTwo_40 ?_
        refine lv_iload_n hx hb dX8_isTwo_43 rfl (lv_at hl 3 rfl) ?_
        obtain ⟨hin, hf⟩ := rd_e hf
        refine w_iald hx hb hK hI 2 rfl hin dX8_isTwo_44 (fun x3 ex3 => ?_)
        replace hf := hf x3 ex3
        refine lv_ishr hx hb dX8_isTwo_45 ?_
        refine lv_iconst (v := 1) hx hb dX8_isTwo_46 (by decide) ?_
        refine lv_iand hx hb dX8_isTwo_47 ?_
        refine lv_icmp_eq (tgt := 55) hx hb dX8_isTwo_48 (by decide) (fun hc => ?_) (fun hc => ?_)
        · replace hf := ite_t hc hf
          refine lv_iconst (v := 0) hx hb dX8_isTwo_55 (by decide) ?_
          refine lv_istore_n (lv' := [(2, .int (0 : Int32)), (0, .ref m0), (1, .int l1), (3, .int v.2)]) hx hb dX8_isTwo_56 rfl hl (by decide) rfl (fun ls hl => ?_)
          obtain ⟨x4, ex4⟩ : ∃ y : Int32, y = (v.2 + (1 : Int32)) := ⟨_, rfl⟩
          replace hf := bnd_e hf x4 ex4
          refine lv_iinc (v := x4) (lv' := [(3, .int x4), (2, .int (0 : Int32)), (0, .ref m0), (1, .int l1)]) hx hb dX8_isTwo_57 hl (k := 3) rfl (by rw [ex4]; rfl) (by decide) rfl (fun ls hl => ?_)
          refine lv_goto (tgt := 16) hx hb dX8_isTwo_60 (by decide) ?_
          replace hf := Option.some.inj hf
          subst hf
          exact hM _ _ _ hI (lv_sub hl [2, 3, 1, 0] rfl)
        · replace hf := ite_f hc hf
          refine lv_iconst (v := 1) hx hb dX8_isTwo_51 (by decide) ?_
          refine lv_goto (tgt := 56) hx hb dX8_isTwo_52 (by decide) ?_
          refine lv_istore_n (lv' := [(2, .int (1 : Int32)), (0, .ref m0), (1, .int l1), (3, .int v.2)]) hx hb dX8_isTwo_56 rfl hl (by decide) rfl (fun ls hl => ?_)
          obtain ⟨x5, ex5⟩ : ∃ y : Int32, y = (v.2 + (1 : Int32)) := ⟨_, rfl⟩
          replace hf := bnd_e hf x5 ex5
          refine lv_iinc (v := x5) (lv' := [(3, .int x5), (2, .int (1 : Int32)), (0, .ref m0), (1, .int l1)]) hx hb dX8_isTwo_57 hl (k := 3) rfl (by rw [ex5]; rfl) (by decide) rfl (fun ls hl => ?_)
          refine lv_goto (tgt := 16) hx hb dX8_isTwo_60 (by decide) ?_
          replace hf := Option.some.inj hf
          subst hf
          exact hM _ _ _ hI (lv_sub hl [2, 3, 1, 0] rfl)
  have L2 : ∀ (v : Int32) (x : Int32), loopO (X8_isTwo_L2 M_posts M_roads M_first M_second) v = some x → (fun z : Int32 => z = out) x → (fun (v : Int32) => ∀ (H : Heap) (locs : List Loc) (ls : Array Slot), WI D A s.heap (wM cI cJ cZ m0 m1 m2 m3 m4 m5 m6 m7 m8 m9 m10 m11 m12 m13 M_posts M_roads M_size M_rows M_nextRows M_first M_second M_number M_lists M_square M_fan M_trial M_touching M_having M_most M_only M_can M_next) H locs → lv_has ls 4 [(0, .ref m0), (1, .int v)] → GX8_isTwo p l e s m below meth c D cI cJ cZ m0 m1 m2 m3 m4 m5 m6 m7 m8 m9 m10 m11 m12 m13 M_posts M_roads M_size M_rows M_nextRows M_first M_second M_number M_lists M_square M_fan M_trial M_touching M_having M_most M_only M_can M_next  out H locs (F0 m 2 ls [])) v := by
    refine loopO_ind (fun (v : Int32) => ∀ (H : Heap) (locs : List Loc) (ls : Array Slot), WI D A s.heap (wM cI cJ cZ m0 m1 m2 m3 m4 m5 m6 m7 m8 m9 m10 m11 m12 m13 M_posts M_roads M_size M_rows M_nextRows M_first M_second M_number M_lists M_square M_fan M_trial M_touching M_having M_most M_only M_can M_next) H locs → lv_has ls 4 [(0, .ref m0), (1, .int v)] → GX8_isTwo p l e s m below meth c D cI cJ cZ m0 m1 m2 m3 m4 m5 m6 m7 m8 m9 m10 m11 m12 m13 M_posts M_roads M_size M_rows M_nextRows M_first M_second M_number M_lists M_square M_fan M_trial M_touching M_having M_most M_only M_can M_next  out H locs (F0 m 2 ls [])) (fun z : Int32 => z = out) ?_
    intro v x hf hM H locs ls hI hl
    refine lv_iload_n hx hb dX8_isTwo_2 rfl (lv_at hl 1 rfl) ?_
    refine lv_iconst (v := 1) hx hb dX8_isTwo_3 (by decide) ?_
    refine lv_aload_n hx hb dX8_isTwo_4 rfl (lv_at hl 0 rfl) ?_
    refine w_get hx hb hg hown hK hI iX8 0 rfl rfl 0 (by decide) wF_RX8_68 rfl dX8_isTwo_5 ?_
    refine lv_ishl hx hb dX8_isTwo_8 ?_
    refine lv_icmp_ge (tgt := 75) hx hb dX8_isTwo_9 (by decide) (fun hc => ?_) (fun hc => ?_)
    · replace hf := ite_t hc hf
      obtain ⟨z, hf2, ez⟩ := mp_e hf
      clear hf
      subst ez
      exact J75  _ hf2 hM _ _ _ hI (lv_sub hl [0] rfl)
    · replace hf := ite_f hc hf
      refine lv_iconst (v := 1) hx hb dX8_isTwo_12 (by decide) ?_
      refine lv_istore_n (lv' := [(2, .int (1 : Int32)), (0, .ref m0), (1, .int v)]) hx hb dX8_isTwo_13 rfl hl (by decide) rfl (fun ls hl => ?_)
      refine lv_iconst (v := 0) hx hb dX8_isTwo_14 (by decide) ?_
      refine lv_istore_n (lv' := [(3, .int (0 : Int32)), (2, .int (1 : Int32)), (0, .ref m0), (1, .int v)]) hx hb dX8_isTwo_15 rfl hl (by decide) rfl (fun ls hl => ?_)
      exact L16 v ((1 : Int32), (0 : Int32)) _ hf hM _ _ _ hI (lv_sub hl [2, 3, 1, 0] rfl)
  obtain ⟨x, hf, hM⟩ : ∃ x, FX8_isTwo M_posts M_roads M_first M_second = some x ∧ x = out := ⟨out, hf, rfl⟩
  refine lv_iconst (v := 0) hx hb dX8_isTwo_0 (by decide) ?_
  refine lv_istore_n (lv' := [(1, .int (0 : Int32)), (0, .ref m0)]) hx hb dX8_isTwo_1 rfl hl (by decide) rfl (fun ls hl => ?_)
  exact L2  (0 : Int32) _ hf hM _ _ _ hI (lv_sub hl [1, 0] rfl)
noncomputable def FX8_heaps (M_posts : Int32) (M_roads : Int32) (M_first : Nat → Int32) (M_second : Nat → Int32)  : Option (Int32) :=
  (FX8_isTwo M_posts M_roads M_first M_second).bind (fun o1 => if o1 = (0 : Int32) then (some (0 : Int32)) else (some (1 : Int32)))
abbrev GX8_heaps (p : Program) (l : Launch) (e : Env) (s : State) (m : MethodId) (below : List Frame) (meth : Method) (c : Code) (D : va_G) (cI cJ cZ : ClassId) (m0 m1 m2 m3 m4 m5 m6 m7 m8 m9 m10 m11 m12 m13 : Nat) (M_posts : Int32) (M_roads : Int32) (M_size : Int32) (M_rows : Int32) (M_nextRows : Int32) (M_first : Nat → Int32) (M_second : Nat → Int32) (M_number : Nat → Int32) (M_lists : Nat → Int32) (M_square : Nat → Int32) (M_fan : Nat → Int32) (M_trial : Nat → Int32) (M_touching : Nat → Int32) (M_having : Nat → Int32) (M_most : Nat → Int32) (M_only : Nat → Int32) (M_can : Nat → Int32) (M_next : Nat → Int32)  (out : Int32) (H : Heap) (locs : List Loc) (g : JFrame) : Prop := W p l e (headSpec (Cond.code yX8_heaps cX8_heaps 1 (some .int) :: GW) { frames := 1, cells := 0, slots := 0, locals := 23 }).room s m ([.ref m0] : List Value).toArray below meth c H locs 0 0 (MQ below (va_Qi (fun r (_ : Unit) => r = out) (BW D (wM cI cJ cZ m0 m1 m2 m3 m4 m5 m6 m7 m8 m9 m10 m11 m12 m13 M_posts M_roads M_size M_rows M_nextRows M_first M_second M_number M_lists M_square M_fan M_trial M_touching M_having M_most M_only M_can M_next) s.heap.size (fun _ => (wM cI cJ cZ m0 m1 m2 m3 m4 m5 m6 m7 m8 m9 m10 m11 m12 m13 M_posts M_roads M_size M_rows M_nextRows M_first M_second M_number M_lists M_square M_fan M_trial M_touching M_having M_most M_only M_can M_next))) (va_A (wM cI cJ cZ m0 m1 m2 m3 m4 m5 m6 m7 m8 m9 m10 m11 m12 m13 M_posts M_roads M_size M_rows M_nextRows M_first M_second M_number M_lists M_square M_fan M_trial M_touching M_having M_most M_only M_can M_next) s.heap.size)) ([.ref m0] : List Value).toArray s 0 0 (va_A (wM cI cJ cZ m0 m1 m2 m3 m4 m5 m6 m7 m8 m9 m10 m11 m12 m13 M_posts M_roads M_size M_rows M_nextRows M_first M_second M_number M_lists M_square M_fan M_trial M_touching M_having M_most M_only M_can M_next) s.heap.size)) g
theorem kvX8_heaps : CalV RX8 yX8_heaps cX8_heaps 1 (some .int) 0 := ⟨wC_yX8_heaps, wM_yX8_heaps, wS_yX8_heaps, wI_RX8, by decide +kernel⟩
set_option maxHeartbeats 4000000 in
set_option maxRecDepth 100000 in
theorem kX8_heaps (l : Launch) (D : va_G) (cI cJ cZ : ClassId) (m0 m1 m2 m3 m4 m5 m6 m7 m8 m9 m10 m11 m12 m13 : Nat) (M_posts : Int32) (M_roads : Int32) (M_size : Int32) (M_rows : Int32) (M_nextRows : Int32) (M_first : Nat → Int32) (M_second : Nat → Int32) (M_number : Nat → Int32) (M_lists : Nat → Int32) (M_square : Nat → Int32) (M_fan : Nat → Int32) (M_trial : Nat → Int32) (M_touching : Nat → Int32) (M_having : Nat → Int32) (M_most : Nat → Int32) (M_only : Nat → Int32) (M_can : Nat → Int32) (M_next : Nat → Int32)  (out : Int32) (hf : FX8_heaps M_posts M_roads M_first M_second = some out) : MI l yX8_heaps (Cond.code yX8_heaps cX8_heaps 1 (some .int) :: GW) { frames := 1, cells := 0, slots := 0, locals := 23 } D cI cJ cZ [.ref m0] (wM cI cJ cZ m0 m1 m2 m3 m4 m5 m6 m7 m8 m9 m10 m11 m12 m13 M_posts M_roads M_size M_rows M_nextRows M_first M_second M_number M_lists M_square M_fan M_trial M_touching M_having M_most M_only M_can M_next) (fun r (_ : Unit) => r = out) (fun _ => (wM cI cJ cZ m0 m1 m2 m3 m4 m5 m6 m7 m8 m9 m10 m11 m12 m13 M_posts M_roads M_size M_rows M_nextRows M_first M_second M_number M_lists M_square M_fan M_trial M_touching M_having M_most M_only M_can M_next)) := by
  intro sz
  refine Met.ofW (cc := cX8_heaps) (maxL := 1) (ret := (some .int)) (by decide +kernel) rfl ?_
  intro p e s m args below meth c s₁ B hml hv
  obtain ⟨rfl, hsz, hP, hK, hD0⟩ := hv
  have hx := B.exec
  have hb := B.bytes
  have hr := B.returns
  have hlocks := B.notSynchronized
  have hg : ∀ w ∈ GW, w.before _ s = true := fun w h => atoms_spec (ws := Cond.code yX8_heaps cX8_heaps 1 (some .int) :: GW) B.pre w (List.mem_cons_of_mem _ h)
  have hown : s.vm.findClass RX8 = some m.cls := findClass_of_methodNamed B.named
  subst hsz
  obtain ⟨A, hAe⟩ : ∃ A, A = va_A (wM cI cJ cZ m0 m1 m2 m3 m4 m5 m6 m7 m8 m9 m10 m11 m12 m13 M_posts M_roads M_size M_rows M_nextRows M_first M_second M_number M_lists M_square M_fan M_trial M_touching M_having M_most M_only M_can M_next) s.heap.size := ⟨_, rfl⟩
  have hA : ∀ q : Nat, s.heap.size ≤ q → A q := fun q h => by rw [hAe]; exact Or.inr h
  have hI : WI D A s.heap (wM cI cJ cZ m0 m1 m2 m3 m4 m5 m6 m7 m8 m9 m10 m11 m12 m13 M_posts M_roads M_size M_rows M_nextRows M_first M_second M_number M_lists M_square M_fan M_trial M_touching M_having M_most M_only M_can M_next) s.heap [] := ⟨hP, by rw [hAe]; exact hD0.self, va_S.rf⟩
  have hl := lv_entry [.ref m0] (n := 1) (Nat.le_of_ble_eq_true rfl)
  rw [lg_entry_eq]
  generalize (lg_sl [.ref m0] ++ List.replicate (1 - (lg_sl [.ref m0]).length) Slot.unset).toArray = ls at hl ⊢
  replace hl : lv_has ls 1 [(0, .ref m0)] := hl
  obtain ⟨x, hf, hM⟩ : ∃ x, FX8_heaps M_posts M_roads M_first M_second = some x ∧ x = out := ⟨out, hf, rfl⟩
  refine lv_aload_n hx hb dX8_heaps_0 rfl (lv_at hl 0 rfl) ?_
  obtain ⟨o1, ho1, hf⟩ := bd_e hf
  refine w_Vi0 (wc := (wM cI cJ cZ m0 m1 m2 m3 m4 m5 m6 m7 m8 m9 m10 m11 m12 m13 M_posts M_roads M_size M_rows M_nextRows M_first M_second M_number M_lists M_square M_fan M_trial M_touching M_having M_most M_only M_can M_next)) (wr := []) (rest := []) hx hb hml hg hown hK hA hI (kX8_isTwo l D cI cJ cZ m0 m1 m2 m3 m4 m5 m6 m7 m8 m9 m10 m11 m12 m13 M_posts M_roads M_size M_rows M_nextRows M_first M_second M_number M_lists M_square M_fan M_trial M_touching M_having M_most M_only M_can M_next  o1 ho1) kvX8_isTwo wL_RX8_130 ⟨Nat.le_of_ble_eq_true rfl, Nat.le_of_ble_eq_true rfl⟩ rfl rfl [0, 1, 2, 3, 4, 5, 6, 7, 8, 9, 10, 11, 12, 13] [] rfl rfl rfl rfl (by decide) rfl rfl hl.1 (Nat.le_of_ble_eq_true rfl) dX8_heaps_1 ⟨Nat.zero_le _, Nat.zero_le _⟩ ⟨rfl, rfl⟩ (fun r u H locs hp hI => ?_)
  replace hp : r = o1 := hp
  rw [hp]
  clear hp
  replace hI : WI D A s.heap (wM cI cJ cZ m0 m1 m2 m3 m4 m5 m6 m7 m8 m9 m10 m11 m12 m13 M_posts M_roads M_size M_rows M_nextRows M_first M_second M_number M_lists M_square M_fan M_trial M_touching M_having M_most M_only M_can M_next) H locs := hI
  refine lv_if_eq (tgt := 11) hx hb dX8_heaps_4 (by decide) (fun hc => ?_) (fun hc => ?_)
  · replace hf := ite_t hc hf
    refine lv_iconst (v := 0) hx hb dX8_heaps_11 (by decide) ?_
    replace hf := Option.some.inj hf
    subst hf
    replace hM : (0 : Int32) = out := hM
    subst hM
    exact rt_i (u := ()) hx hb hr hlocks rfl hI hAe rfl dX8_heaps_12
  · replace hf := ite_f hc hf
    refine lv_iconst (v := 1) hx hb dX8_heaps_7 (by decide) ?_
    refine lv_goto (tgt := 12) hx hb dX8_heaps_8 (by decide) ?_
    replace hf := Option.some.inj hf
    subst hf
    replace hM : (1 : Int32) = out := hM
    subst hM
    exact rt_i (u := ()) hx hb hr hlocks rfl hI hAe rfl dX8_heaps_12
