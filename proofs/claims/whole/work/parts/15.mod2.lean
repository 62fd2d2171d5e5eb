noncomputable def X8_isClash_L2 (M_roads : Int32) (M_first : Nat → Int32) (M_second : Nat → Int32) (M_number : Nat → Int32) (l1 : Int32) (v : Int32) : Option ((Int32) ⊕ (Int32)) :=
  if M_roads ≤ v then (some (.inr (0 : Int32))) else (if v = l1 then (bnd (v + (1 : Int32)) (fun x1 => some (.inl x1))) else (rd M_number 24 l1 (fun x2 => if x2 < (0 : Int32) then (bnd (v + (1 : Int32)) (fun x3 => some (.inl x3))) else (rd M_number 24 v (fun x4 => rd M_number 24 l1 (fun x5 => if x4 = x5 then ((FX8_meet M_first M_second l1 v).bind (fun o7 => if o7 = (0 : Int32) then (bnd (v + (1 : Int32)) (fun x8 => some (.inl x8))) else (some (.inr (1 : Int32))))) else (bnd (v + (1 : Int32)) (fun x6 => some (.inl x6)))))))))
noncomputable def FX8_isClash (M_roads : Int32) (M_first : Nat → Int32) (M_second : Nat → Int32) (M_number : Nat → Int32) (a1 : Int32) : Option (Int32) :=
  loopO (X8_isClash_L2 M_roads M_first M_second M_number a1) (0 : Int32)
abbrev GX8_isClash (p : Program) (l : Launch) (e : Env) (s : State) (m : MethodId) (below : List Frame) (meth : Method) (c : Code) (D : va_G) (cI cJ cZ : ClassId) (m0 m1 m2 m3 m4 m5 m6 m7 m8 m9 m10 m11 m12 m13 : Nat) (M_posts : Int32) (M_roads : Int32) (M_size : Int32) (M_rows : Int32) (M_nextRows : Int32) (M_first : Nat → Int32) (M_second : Nat → Int32) (M_number : Nat → Int32) (M_lists : Nat → Int32) (M_square : Nat → Int32) (M_fan : Nat → Int32) (M_trial : Nat → Int32) (M_touching : Nat → Int32) (M_having : Nat → Int32) (M_most : Nat → Int32) (M_only : Nat → Int32) (M_can : Nat → Int32) (M_next : Nat → Int32) (a1 : Int32) (out : Int32) (H : Heap) (locs : List Loc) (g : JFrame) : Prop := W p l e (headSpec (Cond.code yX8_isClash cX8_isClash 3 (some .boolean) :: GW) { frames := 2, cells := 0, slots := 0, locals := 44 }).room s m ([.ref m0, .int a1] : List Value).toArray below meth c H locs 0 0 (MQ below (va_Qi (fun r (_ : Unit) => r = out) (BW D (wM cI cJ cZ m0 m1 m2 m3 m4 m5 m6 m7 m8 m9 m10 m11 m12 m13 M_posts M_roads M_size M_rows M_nextRows M_first M_second M_number M_lists M_square M_fan M_trial M_touching M_having M_most M_only M_can M_next) s.heap.size (fun _ => (wM cI cJ cZ m0 m1 m2 m3 m4 m5 m6 m7 m8 m9 m10 m11 m12 m13 M_posts M_roads M_size M_rows M_nextRows M_first M_second M_number M_lists M_square M_fan M_trial M_touching M_having M_most M_only M_can M_next))) (va_A (wM cI cJ cZ m0 m1 m2 m3 m4 m5 m6 m7 m8 m9 m10 m11 m12 m13 M_posts M_roads M_size M_rows M_nextRows M_first M_second M_number M_lists M_square M_fan M_trial M_touching M_having M_most M_only M_can M_next) s.heap.size)) ([.ref m0, .int a1] : List Value).toArray s 0 0 (va_A (wM cI cJ cZ m0 m1 m2 m3 m4 m5 m6 m7 m8 m9 m10 m11 m12 m13 M_posts M_roads M_size M_rows M_nextRows M_first M_second M_number M_lists M_square M_fan M_trial M_touching M_having M_most M_only M_can M_next) s.heap.size)) g
theorem kvX8_isClash : CalV RX8 yX8_isClash cX8_isClash 3 (some .boolean) 1 := ⟨wC_yX8_isClash, wM_yX8_isClash, wS_yX8_isClash, wI_RX8, by decide +kernel⟩
set_option maxHeartbeats 4000000 in
set_option maxRecDepth 100000 in
theorem kX8_isClash (l : Launch) (D : va_G) (cI cJ cZ : ClassId) (m0 m1 m2 m3 m4 m5 m6 m7 m8 m9 m10 m11 m12 m13 : Nat) (M_posts : Int32) (M_roads : Int32) (M_size : Int32) (M_rows : Int32) (M_nextRows : Int32) (M_first : Nat → Int32) (M_second : Nat → Int32) (M_number : Nat → Int32) (M_lists : Nat → Int32) (M_square : Nat → Int32) (M_fan : Nat → Int32) (M_trial : Nat → Int32) (M_touching : Nat → Int32) (M_having : Nat → Int32) (M_most : Nat → Int32) (M_only : Nat → Int32) (M_can : Nat → Int32) (M_next : Nat → Int32) (a1 : Int32) (out : Int32) (hf : FX8_isClash M_roads M_first M_second M_number a1 = some out) : MI l yX8_isClash (Cond.code yX8_isClash cX8_isClash 3 (some .boolean) :: GW) { frames := 2, cells := 0, slots := 0, locals := 44 } D cI cJ cZ [.ref m0, .int a1] (wM cI cJ cZ m0 m1 m2 m3 m4 m5 m6 m7 m8 m9 m10 m11 m12 m13 M_posts M_roads M_size M_rows M_nextRows M_first M_second M_number M_lists M_square M_fan M_trial M_touching M_having M_most M_only M_can M_next) (fun r (_ : Unit) => r = out) (fun _ => (wM cI cJ cZ m0 m1 m2 m3 m4 m5 m6 m7 m8 m9 m10 m11 m12 m13 M_posts M_roads M_size M_rows M_nextRows M_first M_second M_number M_lists M_square M_fan M_trial M_touching M_having M_most M_only M_can M_next)) := by
  intro sz
  refine Met.ofW (cc := cX8_isClash) (maxL := 3) (ret := (some .boolean)) (by decide +kernel) rfl ?_
  intro p e s m args below meth c s₁ B hml hv
  obtain ⟨rfl, hsz, hP, hK, hD0⟩ := hv
  have hx := B.exec
  have hb := B.bytes
  have hr := B.returns
  have hlocks := B.notSynchronized
  have hg : ∀ w ∈ GW, w.before _ s = true := fun w h => atoms_spec (ws := Cond.code yX8_isClash cX8_isClash 3 (some .boolean) :: GW) B.pre w (List.mem_cons_of_mem _ h)
  have hown : s.vm.findClass RX8 = some m.cls := findClass_of_methodNamed B.named
  subst hsz
  obtain ⟨A, hAe⟩ : ∃ A, A = va_A (wM cI cJ cZ m0 m1 m2 m3 m4 m5 m6 m7 m8 m9 m10 m11 m12 m13 M_posts M_roads M_size M_rows M_nextRows M_first M_second M_number M_lists M_square M_fan M_trial M_touching M_having M_most M_only M_can M_next) s.heap.size := ⟨_, rfl⟩
  have hA : ∀ q : Nat, s.heap.size ≤ q → A q := fun q h => by rw [hAe]; exact Or.inr h
  have hI : WI D A s.heap (wM cI cJ cZ m0 m1 m2 m3 m4 m5 m6 m7 m8 m9 m10 m11 m12 m13 M_posts M_roads M_size M_rows M_nextRows M_first M_second M_number M_lists M_square M_fan M_trial M_touching M_having M_most M_only M_can M_next) s.heap [] := ⟨hP, by rw [hAe]; exact hD0.self, va_S.rf⟩
  have hl := lv_entry [.ref m0, .int a1] (n := 3) (Nat.le_of_ble_eq_true rfl)
  rw [lg_entry_eq]
  generalize (lg_sl [.ref m0, .int a1] ++ List.replicate (3 - (lg_sl [.ref m0, .int a1]).length) Slot.unset).toArray = ls at hl ⊢
  replace hl : lv_has ls 3 [(0, .ref m0), (1, .int a1)] := hl
  have L2 : ∀ (l1 : Int32), ∀ (v : Int32) (x : Int32), loopO (X8_isClash_L2 M_roads M_first M_second M_number l1) v = some x → (fun z : Int32 => z = out) x → (fun (v : Int32) => ∀ (H : Heap) (locs : List Loc) (ls : Array Slot), WI D A s.heap (wM cI cJ cZ m0 m1 m2 m3 m4 m5 m6 m7 m8 m9 m10 m11 m12 m13 M_posts M_roads M_size M_rows M_nextRows M_first M_second M_number M_lists M_square M_fan M_trial M_touching M_having M_most M_only M_can M_next) H locs → lv_has ls 3 [(0, .ref m0), (1, .int l1), (2, .int v)] → GX8_isClash p l e s m below meth c D cI cJ cZ m0 m1 m2 m3 m4 m5 m6 m7 m8 m9 m10 m11 m12 m13 M_posts M_roads M_size M_rows M_nextRows M_first M_second M_number M_lists M_square M_fan M_trial M_touching M_having M_most M_only M_can M_next a1 out H locs (F0 m 2 ls [])) v := by
    intro l1
    refine loopO_ind (fun (v : Int32) => ∀ (H : Heap) (locs : List Loc) (ls : Array Slot), WI D A s.heap (wM cI cJ cZ m0 m1 m2 m3 m4 m5 m6 m7 m8 m9 m10 m11 m12 m13 M_posts M_roads M_size M_rows M_nextRows M_first M_second M_number M_lists M_square M_fan M_trial M_touching M_having M_most M_only M_can M_next) H locs → lv_has ls 3 [(0, .ref m0), (1, .int l1), (2, .int v)] → GX8_isClash p l e s m below meth c D cI cJ cZ m0 m1 m2 m3 m4 m5 m6 m7 m8 m9 m10 m11 m12 m13 M_posts M_roads M_size M_rows M_nextRows M_first M_second M_number M_lists M_square M_fan M_trial M_touching M_having M_most M_only M_can M_next a1 out H locs (F0 m 2 ls [])) (fun z : Int32 => z = out) ?_
    intro v x hf hM H locs ls hI hl
    refine lv_iload_n hx hb dX8_isClash_2 rfl (lv_at hl 2 rfl) ?_
    refine lv_aload_n hx hb dX8_isClash_3 rfl (lv_at hl 0 rfl) ?_
    refine w_get hx hb hg hown hK hI iX8 0 rfl rfl 1 (by decide) wF_RX8_57 rfl dX8_isClash_4 ?_
    refine lv_icmp_ge (tgt := 56) hx hb dX8_isClash_7 (by decide) (fun hc => ?_) (fun hc => ?_)
    · replace hf := ite_t hc hf
      refine lv_iconst (v := 0) hx hb dX8_isClash_56 (by decide) ?_
      replace hf := Option.some.inj hf
      subst hf
      replace hM : (0 : Int32) = out := hM
      subst hM
      exact rt_i (u := ()) hx hb hr hlocks (by decide) hI hAe rfl dX8_isClash_57
    · replace hf := ite_f hc hf
      refine lv_iload_n hx hb dX8_isClash_10 rfl (lv_at hl 2 rfl) ?_
      refine lv_iload_n hx hb dX8_isClash_11 rfl (lv_at hl 1 rfl) ?_
      refine lv_icmp_eq (tgt := 50) hx hb dX8_isClash_12 (by decide) (fun hc => ?_) (fun hc => ?_)
      · replace hf := ite_t hc hf
        obtain ⟨x1, ex1⟩ : ∃ y : Int32, y = (v + (1 : Int32)) := ⟨_, rfl⟩
        replace hf := bnd_e hf x1 ex1
        refine lv_iinc (v := x1) (lv' := [(2, .int x1), (0, .ref m0), (1, .int l1)]) hx hb dX8_isClash_50 hl (k := 2) rfl (by rw [ex1]; rfl) (by decide) rfl (fun ls hl => ?_)
        refine lv_goto (tgt := 2) hx hb dX8_isClash_53 (by decide) ?_
        replace hf := Option.some.inj hf
        subst hf
        exact hM _ _ _ hI (lv_sub hl [1, 2, 0] rfl)
      · replace hf := ite_f hc hf
        refine lv_aload_n hx hb dX8_isClash_15 rfl (lv_at hl 0 rfl) ?_
        refine w_get hx hb hg hown hK hI iX8 0 rfl rfl 4 (by decide) wF_RX8_16 rfl dX8_isClash_16 ?_
        refine lv_iload_n hx hb dX8_isClash_19 rfl (lv_at hl 1 rfl) ?_
        obtain ⟨hin, hf⟩ := rd_e hf
        refine w_iald hx hb hK hI 3 rfl hin dX8_isClash_20 (fun x2 ex2 => ?_)
        replace hf := hf x2 ex2
        refine lv_if_lt (tgt := 50) hx hb dX8_isClash_21 (by decide) (fun hc => ?_) (fun hc => ?_)
        · replace hf := ite_t hc hf
          obtain ⟨x3, ex3⟩ : ∃ y : Int32, y = (v + (1 : Int32)) := ⟨_, rfl⟩
          replace hf := bnd_e hf x3 ex3
          refine lv_iinc (v := x3) (lv' := [(2, .int x3), (0, .ref m0), (1, .int l1)]) hx hb dX8_isClash_50 hl (k := 2) rfl (by rw [ex3]; rfl) (by decide) rfl (fun ls hl => ?_)
          refine lv_goto (tgt := 2) hx hb dX8_isClash_53 (by decide) ?_
          replace hf := Option.some.inj hf
          subst hf
          exact hM _ _ _ hI (lv_sub hl [1, 2, 0] rfl)
        · replace hf := ite_f hc hf
          refine lv_aload_n hx hb dX8_isClash_24 rfl (lv_at hl 0 rfl) ?_
          refine w_get hx hb hg hown hK hI iX8 0 rfl rfl 4 (by decide) wF_RX8_16 rfl dX8_isClash_25 ?_
          refine lv_iload_n hx hb dX8_isClash_28 rfl (lv_at hl 2 rfl) ?_
          obtain ⟨hin, hf⟩ := rd_e hf
          refine w_iald hx hb hK hI 3 rfl hin dX8_isClash_29 (fun x4 ex4 => ?_)
          replace hf := hf x4 ex4
          refine lv_aload_n hx hb dX8_isClash_30 rfl (lv_at hl 0 rfl) ?_
          refine w_get hx hb hg hown hK hI iX8 0 rfl rfl 4 (by decide) wF_RX8_16 rfl dX8_isClash_31 ?_
          refine lv_iload_n hx hb dX8_isClash_34 rfl (lv_at hl 1 rfl) ?_
          obtain ⟨hin, hf⟩ := rd_e hf
          refine w_iald hx hb hK hI 3 rfl hin dX8_isClash_35 (fun x5 ex5 => ?_)
          replace hf := hf x5 ex5
          refine lv_icmp_ne (tgt := 50) hx hb dX8_isClash_36 (by decide) (fun hc => ?_) (fun hc => ?_)
          · replace hf := ite_f hc hf
            obtain ⟨x6, ex6⟩ : ∃ y : Int32, y = (v + (1 : Int32)) := ⟨_, rfl⟩
            replace hf := bnd_e hf x6 ex6
            refine lv_iinc (v := x6) (lv' := [(2, .int x6), (0, .ref m0), (1, .int l1)]) hx hb dX8_isClash_50 hl (k := 2) rfl (by rw [ex6]; rfl) (by decide) rfl (fun ls hl => ?_)
            refine lv_goto (tgt := 2) hx hb dX8_isClash_53 (by decide) ?_
            replace hf := Option.some.inj hf
            subst hf
            exact hM _ _ _ hI (lv_sub hl [1, 2, 0] rfl)
          · replace hf := ite_t hc hf
            refine lv_aload_n hx hb dX8_isClash_39 rfl (lv_at hl 0 rfl) ?_
            refine lv_iload_n hx hb dX8_isClash_40 rfl (lv_at hl 1 rfl) ?_
            refine lv_iload_n hx hb dX8_isClash_41 rfl (lv_at hl 2 rfl) ?_
            obtain ⟨o7, ho7, hf⟩ := bd_e hf
            refine w_Vi0 (wc := (wM cI cJ cZ m0 m1 m2 m3 m4 m5 m6 m7 m8 m9 m10 m11 m12 m13 M_posts M_roads M_size M_rows M_nextRows M_first M_second M_number M_lists M_square M_fan M_trial M_touching M_having M_most M_only M_can M_next)) (wr := []) (rest := []) hx hb hml hg hown hK hA hI (kX8_meet l D cI cJ cZ m0 m1 m2 m3 m4 m5 m6 m7 m8 m9 m10 m11 m12 m13 M_posts M_roads M_size M_rows M_nextRows M_first M_second M_number M_lists M_square M_fan M_trial M_touching M_having M_most M_only M_can M_next l1 v o7 ho7) kvX8_meet wL_RX8_91 ⟨Nat.le_of_ble_eq_true rfl, Nat.le_of_ble_eq_true rfl⟩ rfl rfl [0, 1, 2, 3, 4, 5, 6, 7, 8, 9, 10, 11, 12, 13] [] rfl rfl rfl rfl (by decide) rfl rfl hl.1 (Nat.le_of_ble_eq_true rfl) dX8_isClash_42 ⟨Nat.zero_le _, Nat.zero_le _⟩ ⟨rfl, rfl⟩ (fun r u H locs hp hI => ?_)
            replace hp : r = o7 := hp
            rw [hp]
            clear hp
            replace hI : WI D A s.heap (wM cI cJ cZ m0 m1 m2 m3 m4 m5 m6 m7 m8 m9 m10 m11 m12 m13 M_posts M_roads M_size M_rows M_nextRows M_first M_second M_number M_lists M_square M_fan M_trial M_touching M_having M_most M_only M_can M_next) H locs := hI
            refine lv_if_eq (tgt := 50) hx hb dX8_isClash_45 (by decide) (fun hc => ?_) (fun hc => ?_)
            · replace hf := ite_t hc hf
              obtain ⟨x8, ex8⟩ : ∃ y : Int32, y = (v + (1 : Int32)) := ⟨_, rfl⟩
              replace hf := bnd_e hf x8 ex8
              refine lv_iinc (v := x8) (lv' := [(2, .int x8), (0, .ref m0), (1, .int l1)]) hx hb dX8_isClash_50 hl (k := 2) rfl (by rw [ex8]; rfl) (by decide) rfl (fun ls hl => ?_)
              refine lv_goto (tgt := 2) hx hb dX8_isClash_53 (by decide) ?_
              replace hf := Option.some.inj hf
              subst hf
              exact hM _ _ _ hI (lv_sub hl [1, 2, 0] rfl)
            · replace hf := ite_f hc hf
              refine lv_iconst (v := 1) hx hb dX8_isClash_48 (by decide) ?_
              replace hf := Option.some.inj hf
              subst hf
              replace hM : (1 : Int32) = out := hM
              subst hM
              exact rt_i (u := ()) hx hb hr hlocks (by decide) hI hAe rfl dX8_isClash_49
  obtain ⟨x, hf, hM⟩ : ∃ x, FX8_isClash M_roads M_first M_second M_number a1 = some x ∧ x = out := ⟨out, hf, rfl⟩
  refine lv_iconst (v := 0) hx hb dX8_isClash_0 (by decide) ?_
  refine lv_istore_n (lv' := [(2, .int (0 : Int32)), (0, .ref m0), (1, .int a1)]) hx hb dX8_isClash_1 rfl hl (by decide) rfl (fun ls hl => ?_)
  exact L2 a1 (0 : Int32) _ hf hM _ _ _ hI (lv_sub hl [1, 2, 0] rfl)
noncomputable def X8_clashing_L2 (M_roads : Int32) (M_first : Nat → Int32) (M_second : Nat → Int32) (M_number : Nat → Int32) (v : Int32) : Option ((Int32) ⊕ (Int32)) :=
  if M_roads ≤ v then (some (.inr (-1 : Int32))) else ((FX8_isClash M_roads M_first M_second M_number v).bind (fun o1 => if o1 = (0 : Int32) then (bnd (v + (1 : Int32)) (fun x2 => some (.inl x2))) else (some (.inr v))))
noncomputable def FX8_clashing (M_roads : Int32) (M_first : Nat → Int32) (M_second : Nat → Int32) (M_number : Nat → Int32)  : Option (Int32) :=
  loopO (X8_clashing_L2 M_roads M_first M_second M_number) (0 : Int32)
abbrev GX8_clashing (p : Program) (l : Launch) (e : Env) (s : State) (m : MethodId) (below : List Frame) (meth : Method) (c : Code) (D : va_G) (cI cJ cZ : ClassId) (m0 m1 m2 m3 m4 m5 m6 m7 m8 m9 m10 m11 m12 m13 : Nat) (M_posts : Int32) (M_roads : Int32) (M_size : Int32) (M_rows : Int32) (M_nextRows : Int32) (M_first : Nat → Int32) (M_second : Nat → Int32) (M_number : Nat → Int32) (M_lists : Nat → Int32) (M_square : Nat → Int32) (M_fan : Nat → Int32) (M_trial : Nat → Int32) (M_touching : Nat → Int32) (M_having : Nat → Int32) (M_most : Nat → Int32) (M_only : Nat → Int32) (M_can : Nat → Int32) (M_next : Nat → Int32)  (out : Int32) (H : Heap) (locs : List Loc) (g : JFrame) : Prop := W p l e (headSpec (Cond.code yX8_clashing cX8_clashing 2 (some .int) :: GW) { frames := 3, cells := 0, slots := 0, locals := 66 }).room s m ([.ref m0] : List Value).toArray below meth c H locs 0 0 (MQ below (va_Qi (fun r (_ : Unit) => r = out) (BW D (wM cI cJ cZ m0 m1 m2 m3 m4 m5 m6 m7 m8 m9 m10 m11 m12 m13 M_posts M_roads M_size M_rows M_nextRows M_first M_second M_number M_lists M_square M_fan M_trial M_touching M_having M_most M_only M_can M_next) s.heap.size (fun _ => (wM cI cJ cZ m0 m1 m2 m3 m4 m5 m6 m7 m8 m9 m10 m11 m12 m13 M_posts M_roads M_size M_rows M_nextRows M_first M_second M_number M_lists M_square M_fan M_trial M_touching M_having M_most M_only M_can M_next))) (va_A (wM cI cJ cZ m0 m1 m2 m3 m4 m5 m6 m7 m8 m9 m10 m11 m12 m13 M_posts M_roads M_size M_rows M_nextRows M_first M_second M_number M_lists M_square M_fan M_trial M_touching M_having M_most M_only M_can M_next) s.heap.size)) ([.ref m0] : List Value).toArray s 0 0 (va_A (wM cI cJ cZ m0 m1 m2 m3 m4 m5 m6 m7 m8 m9 m10 m11 m12 m13 M_posts M_roads M_size M_rows M_nextRows M_first M_second M_number M_lists M_square M_fan M_trial M_touching M_having M_most M_only M_can M_next) s.heap.size)) g
theorem kvX8_clashing : CalV RX8 yX8_clashing cX8_clashing 2 (some .int) 0 := ⟨wC_yX8_clashing, wM_yX8_clashing, wS_yX8_clashing, wI_RX8, by decide +kernel⟩
set_option maxHeartbeats 4000000 in
set_option maxRecDepth 100000 in
theorem kX8_clashing (l : Launch) (D : va_G) (cI cJ cZ : ClassId) (m0 m1 m2 m3 m4 m5 m6 m7 m8 m9 m10 m11 m12 m13 : Nat) (M_posts : Int32) (M_roads : Int32) (M_size : Int32) (M_rows : Int32) (M_nextRows : Int32) (M_first : Nat → Int32) (M_second : Nat → Int32) (M_number : Nat → Int32) (M_lists : Nat → Int32) (M_square : Nat → Int32) (M_fan : Nat → Int32) (M_trial : Nat → Int32) (M_touching : Nat → Int32) (M_having : Nat → Int32) (M_most : Nat → Int32) (M_only : Nat → Int32) (M_can : Nat → Int32) (M_next : Nat → Int32)  (out : Int32) (hf : FX8_clashing M_roads M_first M_second M_number = some out) : MI l yX8_clashing (Cond.code yX8_clashing cX8_clashing 2 (some .int) :: GW) { frames := 3, cells := 0, slots := 0, locals := 66 } D cI cJ cZ [.ref m0] (wM cI cJ cZ m0 m1 m2 m3 m4 m5 m6 m7 m8 m9 m10 m11 m12 m13 M_posts M_roads M_size M_rows M_nextRows M_first M_second M_number M_lists M_square M_fan M_trial M_touching M_having M_most M_only M_can M_next) (fun r (_ : Unit) => r = out) (fun _ => (wM cI cJ cZ m0 m1 m2 m3 m4 m5 m6 m7 m8 m9 m10 m11 m12 m13 M_posts M_roads M_size M_rows M_nextRows M_first M_second M_number M_lists M_square M_fan M_trial M_touching M_having M_most M_only M_can M_next)) := by
  intro sz
  refine Met.ofW (cc := cX8_clashing) (maxL := 2) (ret := (some .int)) (by decide +kernel) rfl ?_
  intro p e s m args below meth c s₁ B hml hv
  obtain ⟨rfl, hsz, hP, hK, hD0⟩ := hv
  have hx := B.exec
  have hb := B.bytes
  have hr := B.returns
  have hlocks := B.notSynchronized
  have hg : ∀ w ∈ GW, w.before _ s = true := fun w h => atoms_spec (ws := Cond.code yX8_clashing cX8_clashing 2 (some .int) :: GW) B.pre w (List.mem_cons_of_mem _ h)
  have hown : s.vm.findClass RX8 = some m.cls := findClass_of_methodNamed B.named
  subst hsz
  obtain ⟨A, hAe⟩ : ∃ A, A = va_A (wM cI cJ cZ m0 m1 m2 m3 m4 m5 m6 m7 m8 m9 m10 m11 m12 m13 M_posts M_roads M_size M_rows M_nextRows M_first M_second M_number M_lists M_square M_fan M_trial M_touching M_having M_most M_only M_can M_next) s.heap.size := ⟨_, rfl⟩
  have hA : ∀ q : Nat, s.heap.size ≤ q → A q := fun q h => by rw [hAe]; exact Or.inr h
  have hI : WI D A s.heap (wM cI cJ cZ m0 m1 m2 m3 m4 m5 m6 m7 m8 m9 m10 m11 m12 m13 M_posts M_roads M_size M_rows M_nextRows M_first M_second M_number M_lists M_square M_fan M_trial M_touching M_having M_most M_only M_can M_next) s.heap [] := ⟨hP, by rw [hAe]; exact hD0.self, va_S.rf⟩
  have hl := lv_entry [.ref m0] (n := 2) (Nat.le_of_ble_eq_true rfl)
  rw [lg_entry_eq]
  generalize (lg_sl [.ref m0] ++ List.replicate (2 - (lg_sl [.ref m0]).length) Slot.unset).toArray = ls at hl ⊢
  replace hl : lv_has ls 2 [(0, .ref m0)] := hl
  have L2 : ∀ (v : Int32) (x : Int32), loopO (X8_clashing_L2 M_roads M_first M_second M_number) v = some x → (fun z : Int32 => z = out) x → (fun (v : Int32) => ∀ (H : Heap) (locs : List Loc) (ls : Array Slot), WI D A s.heap (wM cI cJ cZ m0 m1 m2 m3 m4 m5 m6 m7 m8 m9 m10 m11 m12 m13 M_posts M_roads M_size M_rows M_nextRows M_first M_second M_number M_lists M_square M_fan M_trial M_touching M_having M_most M_only M_can M_next) H locs → lv_has ls 2 [(0, .ref m0), (1, .int v)] → GX8_clashing p l e s m below meth c D cI cJ cZ m0 m1 m2 m3 m4 m5 m6 m7 m8 m9 m10 m11 m12 m13 M_posts M_roads M_size M_rows M_nextRows M_first M_second M_number M_lists M_square M_fan M_trial M_touching M_having M_most M_only M_can M_next  out H locs (F0 m 2 ls [])) v := by
    refine loopO_ind (fun (v : Int32) => ∀ (H : Heap) (locs : List Loc) (ls : Array Slot), WI D A s.heap (wM cI cJ cZ m0 m1 m2 m3 m4 m5 m6 m7 m8 m9 m10 m11 m12 m13 M_posts M_roads M_size M_rows M_nextRows M_first M_second M_number M_lists M_square M_fan M_trial M_touching M_having M_most M_only M_can M_next) H locs → lv_has ls 2 [(0, .ref m0), (1, .int v)] → GX8_clashing p l e s m below meth c D cI cJ cZ m0 m1 m2 m3 m4 m5 m6 m7 m8 m9 m10 m11 m12 m13 M_posts M_roads M_size M_rows M_nextRows M_first M_second M_number M_lists M_square M_fan M_trial M_touching M_having M_most M_only M_can M_next  out H locs (F0 m 2 ls [])) (fun z : Int32 => z = out) ?_
    intro v x hf hM H locs ls hI hl
    refine lv_iload_n hx hb dX8_clashing_2 rfl (lv_at hl 1 rfl) ?_
    refine lv_aload_n hx hb dX8_clashing_3 rfl (lv_at hl 0 rfl) ?_
    refine w_get hx hb hg hown hK hI iX8 0 rfl rfl 1 (by decide) wF_RX8_57 rfl dX8_clashing_4 ?_
    refine lv_icmp_ge (tgt := 26) hx hb dX8_clashing_7 (by decide) (fun hc => ?_) (fun hc => ?_)
    · replace hf := ite_t hc hf
      refine lv_iconst (v := -1) hx hb dX8_clashing_26 (by decide) ?_
      replace hf := Option.some.inj hf
      subst hf
      replace hM : (-1 : Int32) = out := hM
      subst hM
      exact rt_i (u := ()) hx hb hr hlocks rfl hI hAe rfl dX8_clashing_27
    · replace hf := ite_f hc hf
      refine lv_aload_n hx hb dX8_clashing_10 rfl (lv_at hl 0 rfl) ?_
      refine lv_iload_n hx hb dX8_clashing_11 rfl (lv_at hl 1 rfl) ?_
      obtain ⟨o1, ho1, hf⟩ := bd_e hf
      refine w_Vi0 (wc := (wM cI cJ cZ m0 m1 m2 m3 m4 m5 m6 m7 m8 m9 m10 m11 m12 m13 M_posts M_roads M_size M_rows M_nextRows M_first M_second M_number M_lists M_square M_fan M_trial M_touching M_having M_most M_only M_can M_next)) (wr := []) (rest := []) hx hb hml hg hown hK hA hI (kX8_isClash l D cI cJ cZ m0 m1 m2 m3 m4 m5 m6 m7 m8 m9 m10 m11 m12 m13 M_posts M_roads M_size M_rows M_nextRows M_first M_second M_number M_lists M_square M_fan M_trial M_touching M_having M_most M_only M_can M_next v o1 ho1) kvX8_isClash wL_RX8_94 ⟨Nat.le_of_ble_eq_true rfl, Nat.le_of_ble_eq_true rfl⟩ rfl rfl [0, 1, 2, 3, 4, 5, 6, 7, 8, 9, 10, 11, 12, 13] [] rfl rfl rfl rfl (by decide) rfl rfl hl.1 (Nat.le_of_ble_eq_true rfl) dX8_clashing_12 ⟨Nat.zero_le _, Nat.zero_le _⟩ ⟨rfl, rfl⟩ (fun r u H locs hp hI => ?_)
      replace hp : r = o1 := hp
      rw [hp]
      clear hp
      replace hI : WI D A s.heap (wM cI cJ cZ m0 m1 m2 m3 m4 m5 m6 m7 m8 m9 m10 m11 m12 m13 M_posts M_roads M_size M_rows M_nextRows M_first M_second M_number M_lists M_square M_fan M_trial M_touching M_having M_most M_only M_can M_next) H locs := hI
      refine lv_if_eq (tgt := 20) hx hb dX8_clashing_15 (by decide) (fun hc => ?_) (fun hc => ?_)
      · replace hf := ite_t hc hf
        obtain ⟨x2, ex2⟩ : ∃ y : Int32, y = (v + (1 : Int32)) := ⟨_, rfl⟩
        replace hf := bnd_e hf x2 ex2
        refine lv_iinc (v := x2) (lv' := [(1, .int x2), (0, .ref m0)]) hx hb dX8_clashing_20 hl (k := 1) rfl (by rw [ex2]; rfl) (by decide) rfl (fun ls hl => ?_)
        refine lv_goto (tgt := 2) hx hb dX8_clashing_23 (by decide) ?_
        replace hf := Option.some.inj hf
        subst hf
        exact hM _ _ _ hI (lv_sub hl [1, 0] rfl)
      · replace hf := ite_f hc hf
        refine lv_iload_n hx hb dX8_clashing_18 rfl (lv_at hl 1 rfl) ?_
        replace hf := Option.some.inj hf
        subst hf
        replace hM : v = out := hM
        subst hM
        exact rt_i (u := ()) hx hb hr hlocks rfl hI hAe rfl dX8_clashing_19
  obtain ⟨x, hf, hM⟩ : ∃ x, FX8_clashing M_roads M_first M_second M_number = some x ∧ x = out := ⟨out, hf, rfl⟩
  refine lv_iconst (v := 0) hx hb dX8_clashing_0 (by decide) ?_
  refine lv_istore_n (lv' := [(1, .int (0 : Int32)), (0, .ref m0)]) hx hb dX8_clashing_1 rfl hl (by decide) rfl (fun ls hl => ?_)
  exact L2  (0 : Int32) _ hf hM _ _ _ hI (lv_sub hl [1, 0] rfl)
noncomputable def FX8_clash (M_roads : Int32) (M_first : Nat → Int32) (M_second : Nat → Int32) (M_number : Nat → Int32)  : Option (Int32) :=
  (FX8_clashing M_roads M_first M_second M_number).bind (fun o1 => some o1)
abbrev GX8_clash (p : Program) (l : Launch) (e : Env) (s : State) (m : MethodId) (below : List Frame) (meth : Method) (c : Code) (D : va_G) (cI cJ cZ : ClassId) (m0 m1 m2 m3 m4 m5 m6 m7 m8 m9 m10 m11 m12 m13 : Nat) (M_posts : Int32) (M_roads : Int32) (M_size : Int32) (M_rows : Int32) (M_nextRows : Int32) (M_first : Nat → Int32) (M_second : Nat → Int32) (M_number : Nat → Int32) (M_lists : Nat → Int32) (M_square : Nat → Int32) (M_fan : Nat → Int32) (M_trial : Nat → Int32) (M_touching : Nat → Int32) (M_having : Nat → Int32) (M_most : Nat → Int32) (M_only : Nat → Int32) (M_can : Nat → Int32) (M_next : Nat → Int32)  (out : Int32) (H : Heap) (locs : List Loc) (g : JFrame) : Prop := W p l e (headSpec (Cond.code yX8_clash cX8_clash 1 (some .int) :: GW) { frames := 4, cells := 0, slots := 0, locals := 87 }).room s m ([.ref m0] : List Value).toArray below meth c H locs 0 0 (MQ below (va_Qi (fun r (_ : Unit) => r = out) (BW D (wM cI cJ cZ m0 m1 m2 m3 m4 m5 m6 m7 m8 m9 m10 m11 m12 m13 M_posts M_roads M_size M_rows M_nextRows M_first M_second M_number M_lists M_square M_fan M_trial M_touching M_having M_most M_only M_can M_next) s.heap.size (fun _ => (wM cI cJ cZ m0 m1 m2 m3 m4 m5 m6 m7 m8 m9 m10 m11 m12 m13 M_posts M_roads M_size M_rows M_nextRows M_first M_second M_number M_lists M_square M_fan M_trial M_touching M_having M_most M_only M_can M_next))) (va_A (wM cI cJ cZ m0 m1 m2 m3 m4 m5 m6 m7 m8 m9 m10 m11 m12 m13 M_posts M_roads M_size M_rows M_nextRows M_first M_second M_number M_lists M_square M_fan M_trial M_touching M_having M_most M_only M_can M_next) s.heap.size)) ([.ref m0] : List Value).toArray s 0 0 (va_A (wM cI cJ cZ m0 m1 m2 m3 m4 m5 m6 m7 m8 m9 m10 m11 m12 m13 M_posts M_roads M_size M_rows M_nextRows M_first M_second M_number M_lists M_square M_fan M_trial M_touching M_having M_most M_only M_can M_next) s.heap.size)) g
theorem kvX8_clash : CalV RX8 yX8_clash cX8_clash 1 (some .int) 0 := ⟨wC_yX8_clash, wM_yX8_clash, wS_yX8_clash, wI_RX8, by decide +kernel⟩
set_option maxHeartbeats 4000000 in
set_option maxRecDepth 100000 in
theorem kX8_clash (l : Launch) (D : va_G) (cI cJ cZ : ClassId) (m0 m1 m2 m3 m4 m5 m6 m7 m8 m9 m10 m11 m12 m13 : Nat) (M_posts : Int32) (M_roads : Int32) (M_size : Int32) (M_rows : Int32) (M_nextRows : Int32) (M_first : Nat → Int32) (M_second : Nat → Int32) (M_number : Nat → Int32) (M_lists : Nat → Int32) (M_square : Nat → Int32) (M_fan : Nat → Int32) (M_trial : Nat → Int32) (M_touching : Nat → Int32) (M_having : Nat → Int32) (M_most : Nat → Int32) (M_only : Nat → Int32) (M_can : Nat → Int32) (M_next : Nat → Int32)  (out : Int32) (hf : FX8_clash M_roads M_first M_second M_number = some out) : MI l yX8_clash (Cond.code yX8_clash cX8_clash 1 (some .int) :: GW) { frames := 4, cells := 0, slots := 0, locals := 87 } D cI cJ cZ [.ref m0] (wM cI cJ cZ m0 m1 m2 m3 m4 m5 m6 m7 m8 m9 m10 m11 m12 m13 M_posts M_roads M_size M_rows M_nextRows M_first M_second M_number M_lists M_square M_fan M_trial M_touching M_having M_most M_only M_can M_next) (fun r (_ : Unit) => r = out) (fun _ => (wM cI cJ cZ m0 m1 m2 m3 m4 m5 m6 m7 m8 m9 m10 m11 m12 m13 M_posts M_roads M_size M_rows M_nextRows M_first M_second M_number M_lists M_square M_fan M_trial M_touching M_having M_most M_only M_can M_next)) := by
  intro sz
  refine Met.ofW (cc := cX8_clash) (maxL := 1) (ret := (some .int)) (by decide +kernel) rfl ?_
  intro p e s m args below meth c s₁ B hml hv
  obtain ⟨rfl, hsz, hP, hK, hD0⟩ := hv
  have hx := B.exec
  have hb := B.bytes
  have hr := B.returns
  have hlocks := B.notSynchronized
  have hg : ∀ w ∈ GW, w.before _ s = true := fun w h => atoms_spec (ws := Cond.code yX8_clash cX8_clash 1 (some .int) :: GW) B.pre w (List.mem_cons_of_mem _ h)
  have hown : s.vm.findClass RX8 = some m.cls := findClass_of_methodNamed B.named
  subst hsz
  obtain ⟨A, hAe⟩ : ∃ A, A = va_A (wM cI cJ cZ m0 m1 m2 m3 m4 m5 m6 m7 m8 m9 m10 m11 m12 m13 M_posts M_roads M_size M_rows M_nextRows M_first M_second M_number M_lists M_square M_fan M_trial M_touching M_having M_most M_only M_can M_next) s.heap.size := ⟨_, rfl⟩
  have hA : ∀ q : Nat, s.heap.size ≤ q → A q := fun q h => by rw [hAe]; exact Or.inr h
  have hI : WI D A s.heap (wM cI cJ cZ m0 m1 m2 m3 m4 m5 m6 m7 m8 m9 m10 m11 m12 m13 M_posts M_roads M_size M_rows M_nextRows M_first M_second M_number M_lists M_square M_fan M_trial M_touching M_having M_most M_only M_can M_next) s.heap [] := ⟨hP, by rw [hAe]; exact hD0.self, va_S.rf⟩
  have hl := lv_entry [.ref m0] (n := 1) (Nat.le_of_ble_eq_true rfl)
  rw [lg_entry_eq]
  generalize (lg_sl [.ref m0] ++ List.replicate (1 - (lg_sl [.ref m0]).length) Slot.unset).toArray = ls at hl ⊢
  replace hl : lv_has ls 1 [(0, .ref m0)] := hl
  obtain ⟨x, hf, hM⟩ : ∃ x, FX8_clash M_roads M_first M_second M_number = some x ∧ x = out := ⟨out, hf, rfl⟩
  refine lv_aload_n hx hb dX8_clash_0 rfl (lv_at hl 0 rfl) ?_
  obtain ⟨o1, ho1, hf⟩ := bd_e hf
  refine w_Vi0 (wc := (wM cI cJ cZ m0 m1 m2 m3 m4 m5 m6 m7 m8 m9 m10 m11 m12 m13 M_posts M_roads M_size M_rows M_nextRows M_first M_second M_number M_lists M_square M_fan M_trial M_touching M_having M_most M_only M_can M_next)) (wr := []) (rest := []) hx hb hml hg hown hK hA hI (kX8_clashing l D cI cJ cZ m0 m1 m2 m3 m4 m5 m6 m7 m8 m9 m10 m11 m12 m13 M_posts M_roads M_size M_rows M_nextRows M_first M_second M_number M_lists M_square M_fan M_trial M_touching M_having M_most M_only M_can M_next  o1 ho1) kvX8_clashing wL_RX8_97 ⟨Nat.le_of_ble_eq_true rfl, Nat.le_of_ble_eq_true rfl⟩ rfl rfl [0, 1, 2, 3, 4, 5, 6, 7, 8, 9, 10, 11, 12, 13] [] rfl rfl rfl rfl (by decide) rfl rfl hl.1 (Nat.le_of_ble_eq_true rfl) dX8_clash_1 ⟨Nat.zero_le _, Nat.zero_le _⟩ ⟨rfl, rfl⟩ (fun r u H locs hp hI => ?_)
  replace hp : r = o1 := hp
  rw [hp]
  clear hp
  replace hI : WI D A s.heap (wM cI cJ cZ m0 m1 m2 m3 m4 m5 m6 m7 m8 m9 m10 m11 m12 m13 M_posts M_roads M_size M_rows M_nextRows M_first M_second M_number M_lists M_square M_fan M_trial M_touching M_having M_most M_only M_can M_next) H locs := hI
  replace hf := Option.some.inj hf
  subst hf
  replace hM : o1 = out := hM
  subst hM
  exact rt_i (u := ()) hx hb hr hlocks rfl hI hAe rfl dX8_clash_4
noncomputable def X8_chainOf_J119 (M_roads : Int32) (M_first : Nat → Int32) (M_second : Nat → Int32) (M_number : Nat → Int32) (l2 : Int32) (l3 : Int32) (l4 : Int32) (l5 : Int32) (l6 : Int32) (l7 : Int32) : Option ((Int32 × Int32 × Int32) ⊕ ((Int32 × Int32) ⊕ (Int32))) :=
  if l7 = (0 : Int32) then (bnd (l6 + (1 : Int32)) (fun x6 => some (.inl (l4, l5, x6)))) else (bnd (l4 ||| ((1 : Int32) <<< (l6 &&& (31 : Int32)))) (fun x4 => bnd (l6 + (1 : Int32)) (fun x5 => some (.inl (x4, (1 : Int32), x5)))))
noncomputable def X8_chainOf_L70 (M_roads : Int32) (M_first : Nat → Int32) (M_second : Nat → Int32) (M_number : Nat → Int32) (l2 : Int32) (l3 : Int32) (l4 : Int32) (l5 : Int32) (l6 : Int32) (v : Int32 × Int32) : Option ((Int32 × Int32) ⊕ ((Int32 × Int32 × Int32) ⊕ ((Int32 × Int32) ⊕ (Int32)))) :=
  if M_roads ≤ v.2 then ((X8_chainOf_J119 M_roads M_first M_second M_number l2 l3 l4 l5 l6 v.1).map (fun z => (.inr z))) else (if v.1 = (0 : Int32) then (if ((l4 >>> (v.2 &&& (31 : Int32))) &&& (1 : Int32)) = (1 : Int32) then ((FX8_meet M_first M_second l6 v.2).bind (fun o9 => if o9 = (0 : Int32) then (bnd (v.2 + (1 : Int32)) (fun x10 => some (.inl ((0 : Int32), x10)))) else (bnd (v.2 + (1 : Int32)) (fun x11 => some (.inl ((1 : Int32), x11)))))) else (bnd (v.2 + (1 : Int32)) (fun x8 => some (.inl ((0 : Int32), x8))))) else (bnd (v.2 + (1 : Int32)) (fun x7 => some (.inl ((1 : Int32), x7)))))
noncomputable def X8_chainOf_L19 (M_roads : Int32) (M_first : Nat → Int32) (M_second : Nat → Int32) (M_number : Nat → Int32) (l2 : Int32) (l3 : Int32) (v : Int32 × Int32 × Int32) : Option ((Int32 × Int32 × Int32) ⊕ ((Int32 × Int32) ⊕ (Int32))) :=
  if M_roads ≤ v.2.2 then (some (.inr (.inl (v.1, v.2.1)))) else (if ((v.1 >>> (v.2.2 &&& (31 : Int32))) &&& (1 : Int32)) = (1 : Int32) then (bnd (v.2.2 + (1 : Int32)) (fun x2 => some (.inl (v.1, v.2.1, x2)))) else (rd M_number 24 v.2.2 (fun x3 => if x3 = l2 then (loopO (X8_chainOf_L70 M_roads M_first M_second M_number l2 l3 v.1 v.2.1 v.2.2) ((0 : Int32), (0 : Int32))) else (rd M_number 24 v.2.2 (fun x12 => if x12 = l3 then (loopO (X8_chainOf_L70 M_roads M_first M_second M_number l2 l3 v.1 v.2.1 v.2.2) ((0 : Int32), (0 : Int32))) else (bnd (v.2.2 + (1 : Int32)) (fun x13 => some (.inl (v.1, v.2.1, x13)))))))))
noncomputable def X8_chainOf_L8 (M_roads : Int32) (M_first : Nat → Int32) (M_second : Nat → Int32) (M_number : Nat → Int32) (l2 : Int32) (l3 : Int32) (v : Int32 × Int32) : Option ((Int32 × Int32) ⊕ (Int32)) :=
  if v.2 = (0 : Int32) then (some (.inr v.1)) else (loopO (X8_chainOf_L19 M_roads M_first M_second M_number l2 l3) (v.1, (0 : Int32), (0 : Int32)))
noncomputable def FX8_chainOf (M_roads : Int32) (M_first : Nat → Int32) (M_second : Nat → Int32) (M_number : Nat → Int32) (a1 : Int32) (a2 : Int32) (a3 : Int32) : Option (Int32) :=
  bnd ((1 : Int32) <<< (a1 &&& (31 : Int32))) (fun x1 => loopO (X8_chainOf_L8 M_roads M_first M_second M_number a2 a3) (x1, (1 : Int32)))
abbrev GX8_chainOf (p : Program) (l : Launch) (e : Env) (s : State) (m : MethodId) (below : List Frame) (meth : Method) (c : Code) (D : va_G) (cI cJ cZ : ClassId) (m0 m1 m2 m3 m4 m5 m6 m7 m8 m9 m10 m11 m12 m13 : Nat) (M_posts : Int32) (M_roads : Int32) (M_size : Int32) (M_rows : Int32) (M_nextRows : Int32) (M_first : Nat → Int32) (M_second : Nat → Int32) (M_number : Nat → Int32) (M_lists : Nat → Int32) (M_square : Nat → Int32) (M_fan : Nat → Int32) (M_trial : Nat → Int32) (M_touching : Nat → Int32) (M_having : Nat → Int32) (M_most : Nat → Int32) (M_only : Nat → Int32) (M_can : Nat → Int32) (M_next : Nat → Int32) (a1 : Int32) (a2 : Int32) (a3 : Int32) (out : Int32) (H : Heap) (locs : List Loc) (g : JFrame) : Prop := W p l e (headSpec (Cond.code yX8_chainOf cX8_chainOf 9 (some .int) :: GW) { frames := 2, cells := 0, slots := 0, locals := 44 }).room s m ([.ref m0, .int a1, .int a2, .int a3] : List Value).toArray below meth c H locs 0 0 (MQ below (va_Qi (fun r (_ : Unit) => r = out) (BW D (wM cI cJ cZ m0 m1 m2 m3 m4 m5 m6 m7 m8 m9 m10 m11 m12 m13 M_posts M_roads M_size M_rows M_nextRows M_first M_second M_number M_lists M_square M_fan M_trial M_touching M_having M_most M_only M_can M_next) s.heap.size (fun _ => (wM cI cJ cZ m0 m1 m2 m3 m4 m5 m6 m7 m8 m9 m10 m11 m12 m13 M_posts M_roads M_size M_rows M_nextRows M_first M_second M_number M_lists M_square M_fan M_trial M_touching M_having M_most M_only M_can M_next))) (va_A (wM cI cJ cZ m0 m1 m2 m3 m4 m5 m6 m7 m8 m9 m10 m11 m12 m13 M_posts M_roads M_size M_rows M_nextRows M_first M_second M_number M_lists M_square M_fan M_trial M_touching M_having M_most M_only M_can M_next) s.heap.size)) ([.ref m0, .int a1, .int a2, .int a3] : List Value).toArray s 0 0 (va_A (wM cI cJ cZ m0 m1 m2 m3 m4 m5 m6 m7 m8 m9 m10 m11 m12 m13 M_posts M_roads M_size M_rows M_nextRows M_first M_second M_number M_lists M_square M_fan M_trial M_touching M_having M_most M_only M_can M_next) s.heap.size)) g
theorem kvX8_chainOf : CalV RX8 yX8_chainOf cX8_chainOf 9 (some .int) 3 := ⟨wC_yX8_chainOf, wM_yX8_chainOf, wS_yX8_chainOf, wI_RX8, by decide +kernel⟩
set_option maxHeartbeats 4000000 in
set_option maxRecDepth 100000 in
theorem kX8_chainOf (l : Launch) (D : va_G) (cI cJ cZ : ClassId) (m0 m1 m2 m3 m4 m5 m6 m7 m8 m9 m10 m11 m12 m13 : Nat) (M_posts : Int32) (M_roads : Int32) (M_size : Int32) (M_rows : Int32) (M_nextRows : Int32) (M_first : Nat → Int32) (M_second : Nat → Int32) (M_number : Nat → Int32) (M_lists : Nat → Int32) (M_square : Nat → Int32) (M_fan : Nat → Int32) (M_trial : Nat → Int32) (M_touching : Nat → Int32) (M_having : Nat → Int32) (M_most : Nat → Int32) (M_only : Nat → Int32) (M_can : Nat → Int32) (M_next : Nat → Int32) (a1 : Int32) (a2 : Int32) (a3 : Int32) (out : Int32) (hf : FX8_chainOf M_roads M_first M_second M_number a1 a2 a3 = some out) : MI l yX8_chainOf (Cond.code yX8_chainOf cX8_chainOf 9 (some .int) :: GW) { frames := 2, cells := 0, slots := 0, locals := 44 } D cI cJ cZ [.ref m0, .int a1, .int a2, .int a3] (wM cI cJ cZ m0 m1 m2 m3 m4 m5 m6 m7 m8 m9 m10 m11 m12 m13 M_posts M_roads M_size M_rows M_nextRows M_first M_second M_number M_lists M_square M_fan M_trial M_touching M_having M_most M_only M_can M_next) (fun r (_ : Unit) => r = out) (fun _ => (wM cI cJ cZ m0 m1 m2 m3 m4 m5 m6 m7 m8 m9 m10 m11 m12 m13 M_posts M_roads M_size M_rows M_nextRows M_first M_second M_number M_lists M_square M_fan M_trial M_touching M_having M_most M_only M_can M_next)) := by
  intro sz
  refine Met.ofW (cc := cX8_chainOf) (maxL := 9) (ret := (some .int)) (by decide +kernel) rfl ?_
  intro p e s m args below meth c s₁ B hml hv
  obtain ⟨rfl, hsz, hP, hK, hD0⟩ := hv
  have hx := B.exec
  have hb := B.bytes
  have hr := B.returns
  have hlocks := B.notSynchronized
  have hg : ∀ w ∈ GW, w.before _ s = true := fun w h => atoms_spec (ws := Cond.code yX8_chainOf cX8_chainOf 9 (some .int) :: GW) B.pre w (List.mem_cons_of_mem _ h)
  have hown : s.vm.findClass RX8 = some m.cls := findClass_of_methodNamed B.named
  subst hsz
  obtain ⟨A, hAe⟩ : ∃ A, A = va_A (wM cI cJ cZ m0 m1 m2 m3 m4 m5 m6 m7 m8 m9 m10 m11 m12 m13 M_posts M_roads M_size M_rows M_nextRows M_first M_second M_number M_lists M_square M_fan M_trial M_touching M_having M_most M_only M_can M_next) s.heap.size := ⟨_, rfl⟩
  have hA : ∀ q : Nat, s.heap.size ≤ q → A q := fun q h => by rw [hAe]; exact Or.inr h
  have hI : WI D A s.heap (wM cI cJ cZ m0 m1 m2 m3 m4 m5 m6 m7 m8 m9 m10 m11 m12 m13 M_posts M_roads M_size M_rows M_nextRows M_first M_second M_number M_lists M_square M_fan M_trial M_touching M_having M_most M_only M_can M_next) s.heap [] := ⟨hP, by rw [hAe]; exact hD0.self, va_S.rf⟩
  have hl := lv_entry [.ref m0, .int a1, .int a2, .int a3] (n := 9) (Nat.le_of_ble_eq_true rfl)
  rw [lg_entry_eq]
  generalize (lg_sl [.ref m0, .int a1, .int a2, .int a3] ++ List.replicate (9 - (lg_sl [.ref m0, .int a1, .int a2, .int a3]).length) Slot.unset).toArray = ls at hl ⊢
  replace hl : lv_has ls 9 [(0, .ref m0), (1, .int a1), (2, .int a2), (3, .int a3)] := hl
  have J119 : ∀ (l2 : Int32) (l3 : Int32) (l4 : Int32) (l5 : Int32) (l6 : Int32) (l7 : Int32) (x : (Int32 × Int32 × Int32) ⊕ ((Int32 × Int32) ⊕ (Int32))), X8_chainOf_J119 M_roads M_first M_second M_number l2 l3 l4 l5 l6 l7 = some x → (fun z => Sum.elim (fun (v2 : Int32 × Int32 × Int32) => ∀ (H : Heap) (locs : List Loc) (ls : Array Slot), WI D A s.heap (wM cI cJ cZ m0 m1 m2 m3 m4 m5 m6 m7 m8 m9 m10 m11 m12 m13 M_posts M_roads M_size M_rows M_nextRows M_first M_second M_number M_lists M_square M_fan M_trial M_touching M_having M_most M_only M_can M_next) H locs → lv_has ls 9 [(0, .ref m0), (2, .int l2), (3, .int l3), (4, .int v2.1), (5, .int v2.2.1), (6, .int v2.2.2)] → GX8_chainOf p l e s m below meth c D cI cJ cZ m0 m1 m2 m3 m4 m5 m6 m7 m8 m9 m10 m11 m12 m13 M_posts M_roads M_size M_rows M_nextRows M_first M_second M_number M_lists M_square M_fan M_trial M_touching M_having M_most M_only M_can M_next a1 a2 a3 out H locs (F0 m 19 ls [])) (fun z => Sum.elim (fun (v1 : Int32 × Int32) => ∀ (H : Heap) (locs : List Loc) (ls : Array Slot), WI D A s.heap (wM cI cJ cZ m0 m1 m2 m3 m4 m5 m6 m7 m8 m9 m10 m11 m12 m13 M_posts M_roads M_size M_rows M_nextRows M_first M_second M_number M_lists M_square M_fan M_trial M_touching M_having M_most M_only M_can M_next) H locs → lv_has ls 9 [(0, .ref m0), (2, .int l2), (3, .int l3), (4, .int v1.1), (5, .int v1.2)] → GX8_chainOf p l e s m below meth c D cI cJ cZ m0 m1 m2 m3 m4 m5 m6 m7 m8 m9 m10 m11 m12 m13 M_posts M_roads M_size M_rows M_nextRows M_first M_second M_number M_lists M_square M_fan M_trial M_touching M_having M_most M_only M_can M_next a1 a2 a3 out H locs (F0 m 8 ls [])) (fun z : Int32 => z = out) z) z) x → ∀ (H : Heap) (locs : List Loc) (ls : Array Slot), WI D A s.heap (wM cI cJ cZ m0 m1 m2 m3 m4 m5 m6 m7 m8 m9 m10 m11 m12 m13 M_posts M_roads M_size M_rows M_nextRows M_first M_second M_number M_lists M_square M_fan M_trial M_touching M_having M_most M_only M_can M_next) H locs → lv_has ls 9 [(0, .ref m0), (2, .int l2), (3, .int l3), (4, .int l4), (5, .int l5), (6, .int l6), (7, .int l7)] → GX8_chainOf p l e s m below meth c D cI cJ cZ m0 m1 m2 m3 m4 m5 m6 m7 m8 m9 m10 m11 m12 m13 M_posts M_roads M_size M_rows M_nextRows M_first M_second M_number M_lists M_square M_fan M_trial M_touching M_having M_most M_only M_can M_next a1 a2 a3 out H locs (F0 m 119 ls []) := by
    intro l2 l3 l4 l5 l6 l7 x hf hM H locs ls hI hl
    refine lv_iload hx hb dX8_chainOf_119 (lv_at hl 6 rfl) ?_
    refine lv_if_ne (tgt := 127) hx hb dX8_chainOf_121 (by decide) (fun hc => ?_) (fun hc => ?_)
    · replace hf := ite_f hc hf
      refine lv_iload hx hb dX8_chainOf_127 (lv_at hl 3 rfl) ?_
      refine lv_iconst (v := 1) hx hb dX8_chainOf_129 (by decide) ?_
      refine lv_iload hx hb dX8_chainOf_130 (lv_at hl 5 rfl) ?_
      refine lv_ishl hx hb dX8_chainOf_132 ?_
      refine lv_ior hx hb dX8_chainOf_133 ?_
      refine lv_topi (fun x4 ex4 => ?_)
      replace hf := bnd_e hf x4 ex4
      refine lv_istore (lv' := [(4, .int x4), (0, .ref m0), (2, .int l2), (3, .int l3), (5, .int l5), (6, .int l6), (7, .int l7)]) hx hb dX8_chainOf_134 hl (by decide) rfl (fun ls hl => ?_)
      refine lv_iconst (v := 1) hx hb dX8_chainOf_136 (by decide) ?_
      refine lv_istore (lv' := [(5, .int (1 : Int32)), (4, .int x4), (0, .ref m0), (2, .int l2), (3, .int l3), (6, .int l6), (7, .int l7)]) hx hb dX8_chainOf_137 hl (by decide) rfl (fun ls hl => ?_)
      obtain ⟨x5, ex5⟩ : ∃ y : Int32, y = (l6 + (1 : Int32)) := ⟨_, rfl⟩
      replace hf := bnd_e hf x5 ex5
      refine lv_iinc (v := x5) (lv' := [(6, .int x5), (5, .int (1 : Int32)), (4, .int x4), (0, .ref m0), (2, .int l2), (3, .int l3), (7, .int l7)]) hx hb dX8_chainOf_139 hl (k := 5) rfl (by rw [ex5]; rfl) (by decide) rfl (fun ls hl => ?_)
      refine lv_goto (tgt := 19) hx hb dX8_chainOf_142 (by decide) ?_
      replace hf := Option.some.inj hf
      subst hf
      exact hM _ _ _ hI (lv_sub hl [3, 4, 5, 2, 1, 0] rfl)
    · replace hf := ite_t hc hf
      refine lv_goto (tgt := 139) hx hb dX8_chainOf_124 (by decide) ?_
      obtain ⟨x6, ex6⟩ : ∃ y : Int32, y = (l6 + (1 : Int32)) := ⟨_, rfl⟩
      replace hf := bnd_e hf x6 ex6
      refine lv_iinc (v := x6) (lv' := [(6, .int x6), (0, .ref m0), (2, .int l2), (3, .int l3), (4, .int l4), (5, .int l5), (7, .int l7)]) hx hb dX8_chainOf_139 hl (k := 5) rfl (by rw [ex6]; rfl) (by decide) rfl (fun ls hl => ?_)
      refine lv_goto (tgt := 19) hx hb dX8_chainOf_142 (by decide) ?_
      replace hf := Option.some.inj hf
      subst hf
      exact hM _ _ _ hI (lv_sub hl [1, 2, 3, 4, 5, 0] rfl)
  have L70 : ∀ (l2 : Int32) (l3 : Int32) (l4 : Int32) (l5 : Int32) (l6 : Int32), ∀ (v : Int32 × Int32) (x : (Int32 × Int32 × Int32) ⊕ ((Int32 × Int32) ⊕ (Int32))), loopO (X8_chainOf_L70 M_roads M_first M_second M_number l2 l3 l4 l5 l6) v = some x → (fun z => Sum.elim (fun (v2 : Int32 × Int32 × Int32) => ∀ (H : Heap) (locs : List Loc) (ls : Array Slot), WI D A s.heap (wM cI cJ cZ m0 m1 m2 m3 m4 m5 m6 m7 m8 m9 m10 m11 m12 m13 M_posts M_roads M_size M_rows M_nextRows M_first M_second M_number M_lists M_square M_fan M_trial M_touching M_having M_most M_only M_can M_next) H locs → lv_has ls 9 [(0, .ref m0), (2, .int l2), (3, .int l3), (4, .int v2.1), (5, .int v2.2.1), (6, .int v2.2.2)] → GX8_chainOf p l e s m below meth c D cI cJ cZ m0 m1 m2 m3 m4 m5 m6 m7 m8 m9 m10 m11 m12 m13 M_posts M_roads M_size M_rows M_nextRows M_first M_second M_number M_lists M_square M_fan M_trial M_touching M_having M_most M_only M_can M_next a1 a2 a3 out H locs (F0 m 19 ls [])) (fun z => Sum.elim (fun (v1 : Int32 × Int32) => ∀ (H : Heap) (locs : List Loc) (ls : Array Slot), WI D A s.heap (wM cI cJ cZ m0 m1 m2 m3 m4 m5 m6 m7 m8 m9 m10 m11 m12 m13 M_posts M_roads M_size M_rows M_nextRows M_first M_second M_number M_lists M_square M_fan M_trial M_touching M_having M_most M_only M_can M_next) H locs → lv_has ls 9 [(0, .ref m0), (2, .int l2), (3, .int l3), (4, .int v1.1), (5, .int v1.2)] → GX8_chainOf p l e s m below meth c D cI cJ cZ m0 m1 m2 m3 m4 m5 m6 m7 m8 m9 m10 m11 m12 m13 M_posts M_roads M_size M_rows M_nextRows M_first M_second M_number M_lists M_square M_fan M_trial M_touching M_having M_most M_only M_can M_next a1 a2 a3 out H locs (F0 m 8 ls [])) (fun z : Int32 => z = out) z) z) x → (fun (v : Int32 × Int32) => ∀ (H : Heap) (locs : List Loc) (ls : Array Slot), WI D A s.heap (wM cI cJ cZ m0 m1 m2 m3 m4 m5 m6 m7 m8 m9 m10 m11 m12 m13 M_posts M_roads M_size M_rows M_nextRows M_first M_second M_number M_lists M_square M_fan M_trial M_touching M_having M_most M_only M_can M_next) H locs → lv_has ls 9 [(0, .ref m0), (2, .int l2), (3, .int l3), (4, .int l4), (5, .int l5), (6, .int l6), (7, .int v.1), (8, .int v.2)] → GX8_chainOf p l e s m below meth c D cI cJ cZ m0 m1 m2 m3 m4 m5 m6 m7 m8 m9 m10 m11 m12 m13 M_posts M_roads M_size M_rows M_nextRows M_first M_second M_number M_lists M_square M_fan M_trial M_touching M_having M_most M_only M_can M_next a1 a2 a3 out H locs (F0 m 70 ls [])) v := by
    intro l2 l3 l4 l5 l6
    refine loopO_ind (fun (v : Int32 × Int32) => ∀ (H : Heap) (locs : List Loc) (ls : Array Slot), WI D A s.heap (wM cI cJ cZ m0 m1 m2 m3 m4 m5 m6 m7 m8 m9 m10 m11 m12 m13 M_posts M_roads M_size M_rows M_nextRows M_first M_second M_number M_lists M_square M_fan M_trial M_touching M_having M_most M_only M_can M_next) H locs → lv_has ls 9 [(0, .ref m0), (2, .int l2), (3, .int l3), (4, .int l4), (5, .int l5), (6, .int l6), (7, .int v.1), (8, .int v.2)] → GX8_chainOf p l e s m below meth c D cI cJ cZ m0 m1 m2 m3 m4 m5 m6 m7 m8 m9 m10 m11 m12 m13 M_posts M_roads M_size M_rows M_nextRows M_first M_second M_number M_lists M_square M_fan M_trial M_touching M_having M_most M_only M_can M_next a1 a2 a3 out H locs (F0 m 70 ls [])) (fun z => Sum.elim (fun (v2 : Int32 × Int32 × Int32) => ∀ (H : Heap) (locs : List Loc) (ls : Array Slot), WI D A s.heap (wM cI cJ cZ m0 m1 m2 m3 m4 m5 m6 m7 m8 m9 m10 m11 m12 m13 M_posts M_roads M_size M_rows M_nextRows M_first M_second M_number M_lists M_square M_fan M_trial M_touching M_having M_most M_only M_can M_next) H locs → lv_has ls 9 [(0, .ref m0), (2, .int l2), (3, .int l3), (4, .int v2.1), (5, .int v2.2.1), (6, .int v2.2.2)] → GX8_chainOf p l e s m below meth c D cI cJ cZ m0 m1 m2 m3 m4 m5 m6 m7 m8 m9 m10 m11 m12 m13 M_posts M_roads M_size M_rows M_nextRows M_first M_second M_number M_lists M_square M_fan M_trial M_touching M_having M_most M_only M_can M_next a1 a2 a3 out H locs (F0 m 19 ls [])) (fun z => Sum.elim (fun (v1 : Int32 × Int32) => ∀ (H : Heap) (locs : List Loc) (ls : Array Slot), WI D A s.heap (wM cI cJ cZ m0 m1 m2 m3 m4 m5 m6 m7 m8 m9 m10 m11 m12 m13 M_posts M_roads M_size M_rows M_nextRows M_first M_second M_number M_lists M_square M_fan M_trial M_touching M_having M_most M_only M_can M_next) H locs → lv_has ls 9 [(0, .ref m0), (2, .int l2), (3, .int l3), (4, .int v1.1), (5, .int v1.2)] → GX8_chainOf p l e s m below meth c D cI cJ cZ m0 m1 m2 m3 m4 m5 m6 m7 m8 m9 m10 m11 m12 m13 M_posts M_roads M_size M_rows M_nextRows M_first M_second M_number M_lists M_square M_fan M_trial M_touching M_having M_most M_only M_can M_next a1 a2 a3 out H locs (F0 m 8 ls [])) (fun z : Int32 => z = out) z) z) ?_
    intro v x hf hM H locs ls hI hl
    refine lv_iload hx hb dX8_chainOf_70 (lv_at hl 7 rfl) ?_
    refine lv_aload_n hx hb dX8_chainOf_72 rfl (lv_at hl 0 rfl) ?_
    refine w_get hx hb hg hown hK hI iX8 0 rfl rfl 1 (by decide) wF_RX8_57 rfl dX8_chainOf_73 ?_
    refine lv_icmp_ge (tgt := 119) hx hb dX8_chainOf_76 (by decide) (fun hc => ?_) (fun hc => ?_)
    · replace hf := ite_t hc hf
      obtain ⟨z, hf2, ez⟩ := mp_e hf
      clear hf
      subst ez
      exact J119 l2 l3 l4 l5 l6 v.1 _ hf2 hM _ _ _ hI (lv_sub hl [0, 1, 2, 3, 4, 5, 6] rfl)
    · replace hf := ite_f hc hf
      refine lv_iload hx hb dX8_chainOf_79 (lv_at hl 6 rfl) ?_
      refine lv_if_ne (tgt := 106) hx hb dX8_chainOf_81 (by decide) (fun hc => ?_) (fun hc => ?_)
      · replace hf := ite_f hc hf
        refine lv_iconst (v := 1) hx hb dX8_chainOf_106 (by decide) ?_
        refine lv_goto (tgt := 111) hx hb dX8_chainOf_107 (by decide) ?_
        refine lv_istore (lv' := [(7, .int (1 : Int32)), (0, .ref m0), (2, .int l2), (3, .int l3), (4, .int l4), (5, .int l5), (6, .int l6), (8, .int v.2)]) hx hb dX8_chainOf_111 hl (by decide) rfl (fun ls hl => ?_)
        obtain ⟨x7, ex7⟩ : ∃ y : Int32, y = (v.2 + (1 : Int32)) := ⟨_, rfl⟩
        replace hf := bnd_e hf x7 ex7
        refine lv_iinc (v := x7) (lv' := [(8, .int x7), (7, .int (1 : Int32)), (0, .ref m0), (2, .int l2), (3, .int l3), (4, .int l4), (5, .int l5), (6, .int l6)]) hx hb dX8_chainOf_113 hl (k := 7) rfl (by rw [ex7]; rfl) (by decide) rfl (fun ls hl => ?_)
        refine lv_goto (tgt := 70) hx hb dX8_chainOf_116 (by decide) ?_
        replace hf := Option.some.inj hf
        subst hf
        exact hM _ _ _ hI (lv_sub hl [2, 3, 4, 5, 6, 7, 1, 0] rfl)
      · replace hf := ite_t hc hf
        refine lv_iload hx hb dX8_chainOf_84 (lv_at hl 3 rfl) ?_
        refine lv_iload hx hb dX8_chainOf_86 (lv_at hl 7 rfl) ?_
        refine lv_ishr hx hb dX8_chainOf_88 ?_
        refine lv_iconst (v := 1) hx hb dX8_chainOf_89 (by decide) ?_
        refine lv_iand hx hb dX8_chainOf_90 ?_
        refine lv_iconst (v := 1) hx hb dX8_chainOf_91 (by decide) ?_
        refine lv_icmp_ne (tgt := 110) hx hb dX8_chainOf_92 (by decide) (fun hc => ?_) (fun hc => ?_)
        · replace hf := ite_f hc hf
          refine lv_iconst (v := 0) hx hb dX8_chainOf_110 (by decide) ?_
          refine lv_istore (lv' := [(7, .int (0 : Int32)), (0, .ref m0), (2, .int l2), (3, .int l3), (4, .int l4), (5, .int l5), (6, .int l6), (8, .int v.2)]) hx hb dX8_chainOf_111 hl (by decide) rfl (fun ls hl => ?_)
          obtain ⟨x8, ex8⟩ : ∃ y : Int32, y = (v.2 + (1 : Int32)) := ⟨_, rfl⟩
          replace hf := bnd_e hf x8 ex8
          refine lv_iinc (v := x8) (lv' := [(8, .int x8), (7, .int (0 : Int32)), (0, .ref m0), (2, .int l2), (3, .int l3), (4, .int l4), (5, .int l5), (6, .int l6)]) hx hb dX8_chainOf_113 hl (k := 7) rfl (by rw [ex8]; rfl) (by decide) rfl (fun ls hl => ?_)
          refine lv_goto (tgt := 70) hx hb dX8_chainOf_116 (by decide) ?_
          replace hf := Option.some.inj hf
          subst hf
          exact hM _ _ _ hI (lv_sub hl [2, 3, 4, 5, 6, 7, 1, 0] rfl)
        · replace hf := ite_t hc hf
          refine lv_aload_n hx hb dX8_chainOf_95 rfl (lv_at hl 0 rfl) ?_
          refine lv_iload hx hb dX8_chainOf_96 (lv_at hl 5 rfl) ?_
          refine lv_iload hx hb dX8_chainOf_98 (lv_at hl 7 rfl) ?_
          obtain ⟨o9, ho9, hf⟩ := bd_e hf
          refine w_Vi0 (wc := (wM cI cJ cZ m0 m1 m2 m3 m4 m5 m6 m7 m8 m9 m10 m11 m12 m13 M_posts M_roads M_size M_rows M_nextRows M_first M_second M_number M_lists M_square M_fan M_trial M_touching M_having M_most M_only M_can M_next)) (wr := []) (rest := []) hx hb hml hg hown hK hA hI (kX8_meet l D cI cJ cZ m0 m1 m2 m3 m4 m5 m6 m7 m8 m9 m10 m11 m12 m13 M_posts M_roads M_size M_rows M_nextRows M_first M_second M_number M_lists M_square M_fan M_trial M_touching M_having M_most M_only M_can M_next l6 v.2 o9 ho9) kvX8_meet wL_RX8_91 ⟨Nat.le_of_ble_eq_true rfl, Nat.le_of_ble_eq_true rfl⟩ rfl rfl [0, 1, 2, 3, 4, 5, 6, 7, 8, 9, 10, 11, 12, 13] [] rfl rfl rfl rfl (by decide) rfl rfl hl.1 (Nat.le_of_ble_eq_true rfl) dX8_chainOf_100 ⟨Nat.zero_le _, Nat.zero_le _⟩ ⟨rfl, rfl⟩ (fun r u H locs hp hI => ?_)
          replace hp : r = o9 := hp
          rw [hp]
          clear hp
          replace hI : WI D A s.heap (wM cI cJ cZ m0 m1 m2 m3 m4 m5 m6 m7 m8 m9 m10 m11 m12 m13 M_posts M_roads M_size M_rows M_nextRows M_first M_second M_number M_lists M_square M_fan M_trial M_touching M_having M_most M_only M_can M_next) H locs := hI
          refine lv_if_eq (tgt := 110) hx hb dX8_chainOf_103 (by decide) (fun hc => ?_) (fun hc => ?_)
          · replace hf := ite_t hc hf
            refine lv_iconst (v := 0) hx hb dX8_chainOf_110 (by decide) ?_
            refine lv_istore (lv' := [(7, .int (0 : Int32)), (0, .ref m0), (2, .int l2), (3, .int l3), (4, .int l4), (5, .int l5), (6, .int l6), (8, .int v.2)]) hx hb dX8_chainOf_111 hl (by decide) rfl (fun ls hl => ?_)
            obtain ⟨x10, ex10⟩ : ∃ y : Int32, y = (v.2 + (1 : Int32)) := ⟨_, rfl⟩
            replace hf := bnd_e hf x10 ex10
            refine lv_iinc (v := x10) (lv' := [(8, .int x10), (7, .int (0 : Int32)), (0, .ref m0), (2, .int l2), (3, .int l3), (4, .int l4), (5, .int l5), (6, .int l6)]) hx hb dX8_chainOf_113 hl (k := 7) rfl (by rw [ex10]; rfl) (by decide) rfl (fun ls hl => ?_)
            refine lv_goto (tgt := 70) hx hb dX8_chainOf_116 (by decide) ?_
            replace hf := Option.some.inj hf
            subst hf
            exact hM _ _ _ hI (lv_sub hl [2, 3, 4, 5, 6, 7, 1, 0] rfl)
          · replace hf := ite_f hc hf
            refine lv_iconst (v := 1) hx hb dX8_chainOf_106 (by decide) ?_
            refine lv_goto (tgt := 111) hx hb dX8_chainOf_107 (by decide) ?_
            refine lv_istore (lv' := [(7, .int (1 : Int32)), (0, .ref m0), (2, .int l2), (3, .int l3), (4, .int l4), (5, .int l5), (6, .int l6), (8, .int v.2)]) hx hb dX8_chainOf_111 hl (by decide) rfl (fun ls hl => ?_)
            obtain ⟨x11, ex11⟩ : ∃ y : Int32, y = (v.2 + (1 : Int32)) := ⟨_, rfl⟩
            replace hf := bnd_e hf x11 ex11
            refine lv_iinc (v := x11) (lv' := [(8, .int x11), (7, .int (1 : Int32)), (0, .ref m0), (2, .int l2), (3, .int l3), (4, .int l4), (5, .int l5), (6, .int l6)]) hx hb dX8_chainOf_113 hl (k := 7) rfl (by rw [ex11]; rfl) (by decide) rfl (fun ls hl => ?_)
            refine lv_goto (tgt := 70) hx hb dX8_chainOf_116 (by decide) ?_
            replace hf := Option.some.inj hf
            subst hf
            exact hM _ _ _ hI (lv_sub hl [2, 3, 4, 5, 6, 7, 1, 0] rfl)
  have L19 : ∀ (l2 : Int32) (l3 : Int32), ∀ (v : Int32 × Int32 × Int32) (x : (Int32 × Int32) ⊕ (Int32)), loopO (X8_chainOf_L19 M_roads M_first M_second M_number l2 l3) v = some x → (fun z => Sum.elim (fun (v1 : Int32 × Int32) => ∀ (H : Heap) (locs : List Loc) (ls : Array Slot), WI D A s.heap (wM cI cJ cZ m0 m1 m2 m3 m4 m5 m6 m7 m8 m9 m10 m11 m12 m13 M_posts M_roads M_size M_rows M_nextRows M_first M_second M_number M_lists M_square M_fan M_trial M_touching M_having M_most M_only M_can M_next) H locs → lv_has ls 9 [(0, .ref m0), (2, .int l2), (3, .int l3), (4, .int v1.1), (5, .int v1.2)] → GX8_chainOf p l e s m below meth c D cI cJ cZ m0 m1 m2 m3 m4 m5 m6 m7 m8 m9 m10 m11 m12 m13 M_posts M_roads M_size M_rows M_nextRows M_first M_second M_number M_lists M_square M_fan M_trial M_touching M_having M_most M_only M_can M_next a1 a2 a3 out H locs (F0 m 8 ls [])) (fun z : Int32 => z = out) z) x → (fun (v : Int32 × Int32 × Int32) => ∀ (H : Heap) (locs : List Loc) (ls : Array Slot), WI D A s.heap (wM cI cJ cZ m0 m1 m2 m3 m4 m5 m6 m7 m8 m9 m10 m11 m12 m13 M_posts M_roads M_size M_rows M_nextRows M_first M_second M_number M_lists M_square M_fan M_trial M_touching M_having M_most M_only M_can M_next) H locs → lv_has ls 9 [(0, .ref m0), (2, .int l2), (3, .int l3), (4, .int v.1), (5, .int v.2.1), (6, .int v.2.2)] → GX8_chainOf p l e s m below meth c D cI cJ cZ m0 m1 m2 m3 m4 m5 m6 m7 m8 m9 m10 m11 m12 m13 M_posts M_roads M_size M_rows M_nextRows M_first M_second M_number M_lists M_square M_fan M_trial M_touching M_having M_most M_only M_can M_next a1 a2 a3 out H locs (F0 m 19 ls [])) v := by
    intro l2 l3
    refine loopO_ind (fun (v : Int32 × Int32 × Int32) => ∀ (H : Heap) (locs : List Loc) (ls : Array Slot), WI D A s.heap (wM cI cJ cZ m0 m1 m2 m3 m4 m5 m6 m7 m8 m9 m10 m11 m12 m13 M_posts M_roads M_size M_rows M_nextRows M_first M_second M_number M_lists M_square M_fan M_trial M_touching M_having M_most M_only M_can M_next) H locs → lv_has ls 9 [(0, .ref m0), (2, .int l2), (3, .int l3), (4, .int v.1), (5, .int v.2.1), (6, .int v.2.2)] → GX8_chainOf p l e s m below meth c D cI cJ cZ m0 m1 m2 m3 m4 m5 m6 m7 m8 m9 m10 m11 m12 m13 M_posts M_roads M_size M_rows M_nextRows M_first M_second M_number M_lists M_square M_fan M_trial M_touching M_having M_most M_only M_can M_next a1 a2 a3 out H locs (F0 m 19 ls [])) (fun z => Sum.elim (fun (v1 : Int32 × Int32) => ∀ (H : Heap) (locs : List Loc) (ls : Array Slot), WI D A s.heap (wM cI cJ cZ m0 m1 m2 m3 m4 m5 m6 m7 m8 m9 m10 m11 m12 m13 M_posts M_roads M_size M_rows M_nextRows M_first M_second M_number M_lists M_square M_fan M_trial M_touching M_having M_most M_only M_can M_next) H locs → lv_has ls 9 [(0, .ref m0), (2, .int l2), (3, .int l3), (4, .int v1.1), (5, .int v1.2)] → GX8_chainOf p l e s m below meth c D cI cJ cZ m0 m1 m2 m3 m4 m5 m6 m7 m8 m9 m10 m11 m12 m13 M_posts M_roads M_size M_rows M_nextRows M_first M_second M_number M_lists M_square M_fan M_trial M_touching M_having M_most M_only M_can M_next a1 a2 a3 out H locs (F0 m 8 ls [])) (fun z : Int32 => z = out) z) ?_
    intro v x hf hM H locs ls hI hl
    refine lv_iload hx hb dX8_chainOf_19 (lv_at hl 5 rfl) ?_
    refine lv_aload_n hx hb dX8_chainOf_21 rfl (lv_at hl 0 rfl) ?_
    refine w_get hx hb hg hown hK hI iX8 0 rfl rfl 1 (by decide) wF_RX8_57 rfl dX8_chainOf_22 ?_
    refine lv_icmp_ge (tgt := 145) hx hb dX8_chainOf_25 (by decide) (fun hc => ?_) (fun hc => ?_)
    · replace hf := ite_t hc hf
      refine lv_goto (tgt := 8) hx hb dX8_chainOf_145 (by decide) ?_
      replace hf := Option.some.inj hf
      subst hf
      exact hM _ _ _ hI (lv_sub hl [0, 1, 2, 3, 4] rfl)
    · replace hf := ite_f hc hf
      refine lv_iload hx hb dX8_chainOf_28 (lv_at hl 3 rfl) ?_
      refine lv_iload hx hb dX8_chainOf_30 (lv_at hl 5 rfl) ?_
      refine lv_ishr hx hb dX8_chainOf_32 ?_
      refine lv_iconst (v := 1) hx hb dX8_chainOf_33 (by decide) ?_
      refine lv_iand hx hb dX8_chainOf_34 ?_
      refine lv_iconst (v := 1) hx hb dX8_chainOf_35 (by decide) ?_
      refine lv_icmp_eq (tgt := 139) hx hb dX8_chainOf_36 (by decide) (fun hc => ?_) (fun hc => ?_)
      · replace hf := ite_t hc hf
        obtain ⟨x2, ex2⟩ : ∃ y : Int32, y = (v.2.2 + (1 : Int32)) := ⟨_, rfl⟩
        replace hf := bnd_e hf x2 ex2
        refine lv_iinc (v := x2) (lv' := [(6, .int x2), (0, .ref m0), (2, .int l2), (3, .int l3), (4, .int v.1), (5, .int v.2.1)]) hx hb dX8_chainOf_139 hl (k := 5) rfl (by rw [ex2]; rfl) (by decide) rfl (fun ls hl => ?_)
        refine lv_goto (tgt := 19) hx hb dX8_chainOf_142 (by decide) ?_
        replace hf := Option.some.inj hf
        subst hf
        exact hM _ _ _ hI (lv_sub hl [1, 2, 3, 4, 5, 0] rfl)
      · replace hf := ite_f hc hf
        refine lv_aload_n hx hb dX8_chainOf_39 rfl (lv_at hl 0 rfl) ?_
        refine w_get hx hb hg hown hK hI iX8 0 rfl rfl 4 (by decide) wF_RX8_16 rfl dX8_chainOf_40 ?_
        refine lv_iload hx hb dX8_chainOf_43 (lv_at hl 5 rfl) ?_
        obtain ⟨hin, hf⟩ := rd_e hf
        refine w_iald hx hb hK hI 3 rfl hin dX8_chainOf_45 (fun x3 ex3 => ?_)
        replace hf := hf x3 ex3
        refine lv_iload_n hx hb dX8_chainOf_46 rfl (lv_at hl 1 rfl) ?_
        refine lv_icmp_eq (tgt := 64) hx hb dX8_chainOf_47 (by decide) (fun hc => ?_) (fun hc => ?_)
        · replace hf := ite_t hc hf
          refine lv_iconst (v := 0) hx hb dX8_chainOf_64 (by decide) ?_
          refine lv_istore (lv' := [(7, .int (0 : Int32)), (0, .ref m0), (2, .int l2), (3, .int l3), (4, .int v.1), (5, .int v.2.1), (6, .int v.2.2)]) hx hb dX8_chainOf_65 hl (by decide) rfl (fun ls hl => ?_)
          refine lv_iconst (v := 0) hx hb dX8_chainOf_67 (by decide) ?_
          refine lv_istore (lv' := [(8, .int (0 : Int32)), (7, .int (0 : Int32)), (0, .ref m0), (2, .int l2), (3, .int l3), (4, .int v.1), (5, .int v.2.1), (6, .int v.2.2)]) hx hb dX8_chainOf_68 hl (by decide) rfl (fun ls hl => ?_)
          exact L70 l2 l3 v.1 v.2.1 v.2.2 ((0 : Int32), (0 : Int32)) _ hf hM _ _ _ hI (lv_sub hl [2, 3, 4, 5, 6, 7, 1, 0] rfl)
        · replace hf := ite_f hc hf
          refine lv_aload_n hx hb dX8_chainOf_50 rfl (lv_at hl 0 rfl) ?_
          refine w_get hx hb hg hown hK hI iX8 0 rfl rfl 4 (by decide) wF_RX8_16 rfl dX8_chainOf_51 ?_
          refine lv_iload hx hb dX8_chainOf_54 (lv_at hl 5 rfl) ?_
          obtain ⟨hin, hf⟩ := rd_e hf
          refine w_iald hx hb hK hI 3 rfl hin dX8_chainOf_56 (fun x12 ex12 => ?_)
          replace hf := hf x12 ex12
          refine lv_iload_n hx hb dX8_chainOf_57 rfl (lv_at hl 2 rfl) ?_
          refine lv_icmp_eq (tgt := 64) hx hb dX8_chainOf_58 (by decide) (fun hc => ?_) (fun hc => ?_)
          · replace hf := ite_t hc hf
            refine lv_iconst (v := 0) hx hb dX8_chainOf_64 (by decide) ?_
            refine lv_istore (lv' := [(7, .int (0 : Int32)), (0, .ref m0), (2, .int l2), (3, .int l3), (4, .int v.1), (5, .int v.2.1), (6, .int v.2.2)]) hx hb dX8_chainOf_65 hl (by decide) rfl (fun ls hl => ?_)
            refine lv_iconst (v := 0) hx hb dX8_chainOf_67 (by decide) ?_
            refine lv_istore (lv' := [(8, .int (0 : Int32)), (7, .int (0 : Int32)), (0, .ref m0), (2, .int l2), (3, .int l3), (4, .int v.1), (5, .int v.2.1), (6, .int v.2.2)]) hx hb dX8_chainOf_68 hl (by decide) rfl (fun ls hl => ?_)
            exact L70 l2 l3 v.1 v.2.1 v.2.2 ((0 : Int32), (0 : Int32)) _ hf hM _ _ _ hI (lv_sub hl [2, 3, 4, 5, 6, 7, 1, 0] rfl)
          · replace hf := ite_f hc hf
            refine lv_goto (tgt := 139) hx hb dX8_chainOf_61 (by decide) ?_
            obtain ⟨x13, ex13⟩ : ∃ y : Int32, y = (v.2.2 + (1 : Int32)) := ⟨_, rfl⟩
            replace hf := bnd_e hf x13 ex13
            refine lv_iinc (v := x13) (lv' := [(6, .int x13), (0, .ref m0), (2, .int l2), (3, .int l3), (4, .int v.1), (5, .int v.2.1)]) hx hb dX8_chainOf_139 hl (k := 5) rfl (by rw [ex13]; rfl) (by decide) rfl (fun ls hl => ?_)
            refine lv_goto (tgt := 19) hx hb dX8_chainOf_142 (by decide) ?_
            replace hf := Option.some.inj hf
            subst hf
            exact hM _ _ _ hI (lv_sub hl [1, 2, 3, 4, 5, 0] rfl)
  have L8 : ∀ (l2 : Int32) (l3 : Int32), ∀ (v : Int32 × Int32) (x : Int32), loopO (X8_chainOf_L8 M_roads M_first M_second M_number l2 l3) v = some x → (fun z : Int32 => z = out) x → (fun (v : Int32 × Int32) => ∀ (H : Heap) (locs : List Loc) (ls : Array Slot), WI D A s.heap (wM cI cJ cZ m0 m1 m2 m3 m4 m5 m6 m7 m8 m9 m10 m11 m12 m13 M_posts M_roads M_size M_rows M_nextRows M_first M_second M_number M_lists M_square M_fan M_trial M_touching M_having M_most M_only M_can M_next) H locs → lv_has ls 9 [(0, .ref m0), (2, .int l2), (3, .int l3), (4, .int v.1), (5, .int v.2)] → GX8_chainOf p l e s m below meth c D cI cJ cZ m0 m1 m2 m3 m4 m5 m6 m7 m8 m9 m10 m11 m12 m13 M_posts M_roads M_size M_rows M_nextRows M_first M_second M_number M_lists M_square M_fan M_trial M_touching M_having M_most M_only M_can M_next a1 a2 a3 out H locs (F0 m 8 ls [])) v := by
    intro l2 l3
    refine loopO_ind (fun (v : Int32 × Int32) => ∀ (H : Heap) (locs : List Loc) (ls : Array Slot), WI D A s.heap (wM cI cJ cZ m0 m1 m2 m3 m4 m5 m6 m7 m8 m9 m10 m11 m12 m13 M_posts M_roads M_size M_rows M_nextRows M_first M_second M_number M_lists M_square M_fan M_trial M_touching M_having M_most M_only M_can M_next) H locs → lv_has ls 9 [(0, .ref m0), (2, .int l2), (3, .int l3), (4, .int v.1), (5, .int v.2)] → GX8_chainOf p l e s m below meth c D cI cJ cZ m0 m1 m2 m3 m4 m5 m6 m7 m8 m9 m10 m11 m12 m13 M_posts M_roads M_size M_rows M_nextRows M_first M_second M_number M_lists M_square M_fan M_trial M_touching M_having M_most M_only M_can M_next a1 a2 a3 out H locs (F0 m 8 ls [])) (fun z : Int32 => z = out) ?_
    intro v x hf hM H locs ls hI hl
    refine lv_iload hx hb dX8_chainOf_8 (lv_at hl 4 rfl) ?_
    refine lv_if_eq (tgt := 148) hx hb dX8_chainOf_10 (by decide) (fun hc => ?_) (fun hc => ?_)
    · replace hf := ite_t hc hf
      refine lv_iload hx hb dX8_chainOf_148 (lv_at hl 3 rfl) ?_
      replace hf := Option.some.inj hf
      subst hf
      replace hM : v.1 = out := hM
      subst hM
      exact rt_i (u := ()) hx hb hr hlocks rfl hI hAe rfl dX8_chainOf_150
    · replace hf := ite_f hc hf
      refine lv_iconst (v := 0) hx hb dX8_chainOf_13 (by decide) ?_
      refine lv_istore (lv' := [(5, .int (0 : Int32)), (0, .ref m0), (2, .int l2), (3, .int l3), (4, .int v.1)]) hx hb dX8_chainOf_14 hl (by decide) rfl (fun ls hl => ?_)
      refine lv_iconst (v := 0) hx hb dX8_chainOf_16 (by decide) ?_
      refine lv_istore (lv' := [(6, .int (0 : Int32)), (5, .int (0 : Int32)), (0, .ref m0), (2, .int l2), (3, .int l3), (4, .int v.1)]) hx hb dX8_chainOf_17 hl (by decide) rfl (fun ls hl => ?_)
      exact L19 l2 l3 (v.1, (0 : Int32), (0 : Int32)) _ hf hM _ _ _ hI (lv_sub hl [2, 3, 4, 5, 1, 0] rfl)
  obtain ⟨x, hf, hM⟩ : ∃ x, FX8_chainOf M_roads M_first M_second M_number a1 a2 a3 = some x ∧ x = out := ⟨out, hf, rfl⟩
  refine lv_iconst (v := 1) hx hb dX8_chainOf_0 (by decide) ?_
  refine lv_iload_n hx hb dX8_chainOf_1 rfl (lv_at hl 1 rfl) ?_
  refine lv_ishl hx hb dX8_chainOf_2 ?_
  refine lv_topi (fun x1 ex1 => ?_)
  replace hf := bnd_e hf x1 ex1
  refine lv_istore (lv' := [(4, .int x1), (0, .ref m0), (1, .int a1), (2, .int a2), (3, .int a3)]) hx hb dX8_chainOf_3 hl (by decide) rfl (fun ls hl => ?_)
  refine lv_iconst (v := 1) hx hb dX8_chainOf_5 (by decide) ?_
  refine lv_istore (lv' := [(5, .int (1 : Int32)), (4, .int x1), (0, .ref m0), (1, .int a1), (2, .int a2), (3, .int a3)]) hx hb dX8_chainOf_6 hl (by decide) rfl (fun ls hl => ?_)
  exact L8 a2 a3 (x1, (1 : Int32)) _ hf hM _ _ _ hI (lv_sub hl [2, 4, 5, 1, 0] rfl)
noncomputable def X8_swapped_J44 (M_roads : Int32) (M_number : Nat → Int32) (l1 : Int32) (l2 : Int32) (l3 : Int32) (l4 : Int32) (s1 : Int32) (s2 : Int32) : Option (((Nat → Int32) × Int32) ⊕ ((Nat → Int32))) :=
  wr M_number 24 s1 s2 (fun g3 => bnd (l4 + (1 : Int32)) (fun x4 => some (.inl (g3, x4))))
noncomputable def X8_swapped_L3 (M_roads : Int32) (l1 : Int32) (l2 : Int32) (l3 : Int32) (v : (Nat → Int32) × Int32) : Option (((Nat → Int32) × Int32) ⊕ ((Nat → Int32))) :=
  if M_roads ≤ v.2 then (some (.inr v.1)) else (if ((l1 >>> (v.2 &&& (31 : Int32))) &&& (1 : Int32)) = (1 : Int32) then (rd v.1 24 v.2 (fun x2 => if x2 = l2 then (X8_swapped_J44 M_roads v.1 l1 l2 l3 v.2 v.2 l3) else (X8_swapped_J44 M_roads v.1 l1 l2 l3 v.2 v.2 l2))) else (bnd (v.2 + (1 : Int32)) (fun x1 => some (.inl (v.1, x1)))))
noncomputable def FX8_swapped (M_roads : Int32) (M_number_0 : Nat → Int32) (a1 : Int32) (a2 : Int32) (a3 : Int32) : Option ((Nat → Int32)) :=
  loopO (X8_swapped_L3 M_roads a1 a2 a3) (M_number_0, (0 : Int32))
abbrev GX8_swapped (p : Program) (l : Launch) (e : Env) (s : State) (m : MethodId) (below : List Frame) (meth : Method) (c : Code) (D : va_G) (cI cJ cZ : ClassId) (m0 m1 m2 m3 m4 m5 m6 m7 m8 m9 m10 m11 m12 m13 : Nat) (M_posts : Int32) (M_roads : Int32) (M_size : Int32) (M_rows : Int32) (M_nextRows : Int32) (M_first : Nat → Int32) (M_second : Nat → Int32) (M_number_0 : Nat → Int32) (M_lists : Nat → Int32) (M_square : Nat → Int32) (M_fan : Nat → Int32) (M_trial : Nat → Int32) (M_touching : Nat → Int32) (M_having : Nat → Int32) (M_most : Nat → Int32) (M_only : Nat → Int32) (M_can : Nat → Int32) (M_next : Nat → Int32) (a1 : Int32) (a2 : Int32) (a3 : Int32) (out : (Nat → Int32)) (H : Heap) (locs : List Loc) (g : JFrame) : Prop := W p l e (headSpec (Cond.code yX8_swapped cX8_swapped 5 none :: GW) { frames := 0, cells := 0, slots := 0, locals := 0 }).room s m ([.ref m0, .int a1, .int a2, .int a3] : List Value).toArray below meth c H locs 0 0 (MQ below (va_Qv (fun (_ : Unit) => True) (BW D (wM cI cJ cZ m0 m1 m2 m3 m4 m5 m6 m7 m8 m9 m10 m11 m12 m13 M_posts M_roads M_size M_rows M_nextRows M_first M_second M_number_0 M_lists M_square M_fan M_trial M_touching M_having M_most M_only M_can M_next) s.heap.size (fun _ => (wM cI cJ cZ m0 m1 m2 m3 m4 m5 m6 m7 m8 m9 m10 m11 m12 m13 M_posts M_roads M_size M_rows M_nextRows M_first M_second out M_lists M_square M_fan M_trial M_touching M_having M_most M_only M_can M_next))) (va_A (wM cI cJ cZ m0 m1 m2 m3 m4 m5 m6 m7 m8 m9 m10 m11 m12 m13 M_posts M_roads M_size M_rows M_nextRows M_first M_second M_number_0 M_lists M_square M_fan M_trial M_touching M_having M_most M_only M_can M_next) s.heap.size)) ([.ref m0, .int a1, .int a2, .int a3] : List Value).toArray s 0 0 (va_A (wM cI cJ cZ m0 m1 m2 m3 m4 m5 m6 m7 m8 m9 m10 m11 m12 m13 M_posts M_roads M_size M_rows M_nextRows M_first M_second M_number_0 M_lists M_square M_fan M_trial M_touching M_having M_most M_only M_can M_next) s.heap.size)) g
theorem kvX8_swapped : CalV RX8 yX8_swapped cX8_swapped 5 none 3 := ⟨wC_yX8_swapped, wM_yX8_swapped, wS_yX8_swapped, wI_RX8, by decide +kernel⟩
set_option maxHeartbeats 4000000 in
set_option maxRecDepth 100000 in
theorem kX8_swapped (l : Launch) (D : va_G) (cI cJ cZ : ClassId) (m0 m1 m2 m3 m4 m5 m6 m7 m8 m9 m10 m11 m12 m13 : Nat) (M_posts : Int32) (M_roads : Int32) (M_size : Int32) (M_rows : Int32) (M_nextRows : Int32) (M_first : Nat → Int32) (M_second : Nat → Int32) (M_number_0 : Nat → Int32) (M_lists : Nat → Int32) (M_square : Nat → Int32) (M_fan : Nat → Int32) (M_trial : Nat → Int32) (M_touching : Nat → Int32) (M_having : Nat → Int32) (M_most : Nat → Int32) (M_only : Nat → Int32) (M_can : Nat → Int32) (M_next : Nat → Int32) (a1 : Int32) (a2 : Int32) (a3 : Int32) (out : (Nat → Int32)) (hf : FX8_swapped M_roads M_number_0 a1 a2 a3 = some out) : MV l yX8_swapped (Cond.code yX8_swapped cX8_swapped 5 none :: GW) { frames := 0, cells := 0, slots := 0, locals := 0 } D cI cJ cZ [.ref m0, .int a1, .int a2, .int a3] (wM cI cJ cZ m0 m1 m2 m3 m4 m5 m6 m7 m8 m9 m10 m11 m12 m13 M_posts M_roads M_size M_rows M_nextRows M_first M_second M_number_0 M_lists M_square M_fan M_trial M_touching M_having M_most M_only M_can M_next) (fun (_ : Unit) => True) (fun _ => (wM cI cJ cZ m0 m1 m2 m3 m4 m5 m6 m7 m8 m9 m10 m11 m12 m13 M_posts M_roads M_size M_rows M_nextRows M_first M_second out M_lists M_square M_fan M_trial M_touching M_having M_most M_only M_can M_next)) := by
  intro sz
  refine Met.ofW (cc := cX8_swapped) (maxL := 5) (ret := none) (by decide +kernel) rfl ?_
  intro p e s m args below meth c s₁ B hml hv
  obtain ⟨rfl, hsz, hP, hK, hD0⟩ := hv
  have hx := B.exec
  have hb := B.bytes
  have hr := B.returns
  have hlocks := B.notSynchronized
  have hg : ∀ w ∈ GW, w.before _ s = true := fun w h => atoms_spec (ws := Cond.code yX8_swapped cX8_swapped 5 none :: GW) B.pre w (List.mem_cons_of_mem _ h)
  have hown : s.vm.findClass RX8 = some m.cls := findClass_of_methodNamed B.named
  subst hsz
  obtain ⟨A, hAe⟩ : ∃ A, A = va_A (wM cI cJ cZ m0 m1 m2 m3 m4 m5 m6 m7 m8 m9 m10 m11 m12 m13 M_posts M_roads M_size M_rows M_nextRows M_first M_second M_number_0 M_lists M_square M_fan M_trial M_touching M_having M_most M_only M_can M_next) s.heap.size := ⟨_, rfl⟩
  have hA : ∀ q : Nat, s.heap.size ≤ q → A q := fun q h => by rw [hAe]; exact Or.inr h
  have hI : WI D A s.heap (wM cI cJ cZ m0 m1 m2 m3 m4 m5 m6 m7 m8 m9 m10 m11 m12 m13 M_posts M_roads M_size M_rows M_nextRows M_first M_second M_number_0 M_lists M_square M_fan M_trial M_touching M_having M_most M_only M_can M_next) s.heap [] := ⟨hP, by rw [hAe]; exact hD0.self, va_S.rf⟩
  have hl := lv_entry [.ref m0, .int a1, .int a2, .int a3] (n := 5) (Nat.le_of_ble_eq_true rfl)
  rw [lg_entry_eq]
  generalize (lg_sl [.ref m0, .int a1, .int a2, .int a3] ++ List.replicate (5 - (lg_sl [.ref m0, .int a1, .int a2, .int a3]).length) Slot.unset).toArray = ls at hl ⊢
  replace hl : lv_has ls 5 [(0, .ref m0), (1, .int a1), (2, .int a2), (3, .int a3)] := hl
  have J44 : ∀ (M_number : Nat → Int32) (l1 : Int32) (l2 : Int32) (l3 : Int32) (l4 : Int32) (s1 : Int32) (s2 : Int32) (x : ((Nat → Int32) × Int32) ⊕ ((Nat → Int32))), X8_swapped_J44 M_roads M_number l1 l2 l3 l4 s1 s2 = some x → (fun z => Sum.elim (fun (v1 : (Nat → Int32) × Int32) => ∀ (H : Heap) (locs : List Loc) (ls : Array Slot), WI D A s.heap (wM cI cJ cZ m0 m1 m2 m3 m4 m5 m6 m7 m8 m9 m10 m11 m12 m13 M_posts M_roads M_size M_rows M_nextRows M_first M_second v1.1 M_lists M_square M_fan M_trial M_touching M_having M_most M_only M_can M_next) H locs → lv_has ls 5 [(0, .ref m0), (1, .int l1), (2, .int l2), (3, .int l3), (4, .int v1.2)] → GX8_swapped p l e s m below meth c D cI cJ cZ m0 m1 m2 m3 m4 m5 m6 m7 m8 m9 m10 m11 m12 m13 M_posts M_roads M_size M_rows M_nextRows M_first M_second M_number_0 M_lists M_square M_fan M_trial M_touching M_having M_most M_only M_can M_next a1 a2 a3 out H locs (F0 m 3 ls [])) (fun z : (Nat → Int32) => z = out) z) x → ∀ (H : Heap) (locs : List Loc) (ls : Array Slot), WI D A s.heap (wM cI cJ cZ m0 m1 m2 m3 m4 m5 m6 m7 m8 m9 m10 m11 m12 m13 M_posts M_roads M_size M_rows M_nextRows M_first M_second M_number M_lists M_square M_fan M_trial M_touching M_having M_most M_only M_can M_next) H locs → lv_has ls 5 [(0, .ref m0), (1, .int l1), (2, .int l2), (3, .int l3), (4, .int l4)] → GX8_swapped p l e s m below meth c D cI cJ cZ m0 m1 m2 m3 m4 m5 m6 m7 m8 m9 m10 m11 m12 m13 M_posts M_roads M_size M_rows M_nextRows M_first M_second M_number_0 M_lists M_square M_fan M_trial M_touching M_having M_most M_only M_can M_next a1 a2 a3 out H locs (F0 m 44 ls [.int s2, .int s1, .ref m3]) := by
    intro M_number l1 l2 l3 l4 s1 s2 x hf hM H locs ls hI hl
    obtain ⟨hin, hf⟩ := wr_e hf
    obtain ⟨g3, eg3⟩ : ∃ g : Nat → Int32, g = upd M_number (s1).toNatClampNeg s2 := ⟨_, rfl⟩
    replace hf := hf g3 eg3
    refine w_iast (g := g3) (W1 := (wM cI cJ cZ m0 m1 m2 m3 m4 m5 m6 m7 m8 m9 m10 m11 m12 m13 M_posts M_roads M_size M_rows M_nextRows M_first M_second g3 M_lists M_square M_fan M_trial M_touching M_having M_most M_only M_can M_next)) hx hb hK hI 3 rfl hin eg3 dX8_swapped_44 rfl (fun H locs hI => ?_)
    obtain ⟨x4, ex4⟩ : ∃ y : Int32, y = (l4 + (1 : Int32)) := ⟨_, rfl⟩
    replace hf := bnd_e hf x4 ex4
    refine lv_iinc (v := x4) (lv' := [(4, .int x4), (0, .ref m0), (1, .int l1), (2, .int l2), (3, .int l3)]) hx hb dX8_swapped_45 hl (k := 4) rfl (by rw [ex4]; rfl) (by decide) rfl (fun ls hl => ?_)
    refine lv_goto (tgt := 3) hx hb dX8_swapped_48 (by decide) ?_
    replace hf := Option.some.inj hf
    subst hf
    exact hM _ _ _ hI (lv_sub hl [1, 2, 3, 4, 0] rfl)
  have L3 : ∀ (l1 : Int32) (l2 : Int32) (l3 : Int32), ∀ (v : (Nat → Int32) × Int32) (x : (Nat → Int32)), loopO (X8_swapped_L3 M_roads l1 l2 l3) v = some x → (fun z : (Nat → Int32) => z = out) x → (fun (v : (Nat → Int32) × Int32) => ∀ (H : Heap) (locs : List Loc) (ls : Array Slot), WI D A s.heap (wM cI cJ cZ m0 m1 m2 m3 m4 m5 m6 m7 m8 m9 m10 m11 m12 m13 M_posts M_roads M_size M_rows M_nextRows M_first M_second v.1 M_lists M_square M_fan M_trial M_touching M_having M_most M_only M_can M_next) H locs → lv_has ls 5 [(0, .ref m0), (1, .int l1), (2, .int l2), (3, .int l3), (4, .int v.2)] → GX8_swapped p l e s m below meth c D cI cJ cZ m0 m1 m2 m3 m4 m5 m6 m7 m8 m9 m10 m11 m12 m13 M_posts M_roads M_size M_rows M_nextRows M_first M_second M_number_0 M_lists M_square M_fan M_trial M_touching M_having M_most M_only M_can M_next a1 a2 a3 out H locs (F0 m 3 ls [])) v := by
    intro l1 l2 l3
    refine loopO_ind (fun (v : (Nat → Int32) × Int32) => ∀ (H : Heap) (locs : List Loc) (ls : Array Slot), WI D A s.heap (wM cI cJ cZ m0 m1 m2 m3 m4 m5 m6 m7 m8 m9 m10 m11 m12 m13 M_posts M_roads M_size M_rows M_nextRows M_first M_second v.1 M_lists M_square M_fan M_trial M_touching M_having M_most M_only M_can M_next) H locs → lv_has ls 5 [(0, .ref m0), (1, .int l1), (2, .int l2), (3, .int l3), (4, .int v.2)] → GX8_swapped p l e s m below meth c D cI cJ cZ m0 m1 m2 m3 m4 m5 m6 m7 m8 m9 m10 m11 m12 m13 M_posts M_roads M_size M_rows M_nextRows M_first M_second M_number_0 M_lists M_square M_fan M_trial M_touching M_having M_most M_only M_can M_next a1 a2 a3 out H locs (F0 m 3 ls [])) (fun z : (Nat → Int32) => z = out) ?_
    intro v x hf hM H locs ls hI hl
    refine lv_iload hx hb dX8_swapped_3 (lv_at hl 4 rfl) ?_
    refine lv_aload_n hx hb dX8_swapped_5 rfl (lv_at hl 0 rfl) ?_
    refine w_get hx hb hg hown hK hI iX8 0 rfl rfl 1 (by decide) wF_RX8_57 rfl dX8_swapped_6 ?_
    refine lv_icmp_ge (tgt := 51) hx hb dX8_swapped_9 (by decide) (fun hc => ?_) (fun hc => ?_)
    · replace hf := ite_t hc hf
      replace hf := Option.some.inj hf
      subst hf
      replace hM : v.1 = out := hM
      subst hM
      exact rt_v (u := ()) hx hb hr hlocks hI hAe trivial dX8_swapped_51
    · replace hf := ite_f hc hf
      refine lv_iload_n hx hb dX8_swapped_12 rfl (lv_at hl 1 rfl) ?_
      refine lv_iload hx hb dX8_swapped_13 (lv_at hl 4 rfl) ?_
      refine lv_ishr hx hb dX8_swapped_15 ?_
      refine lv_iconst (v := 1) hx hb dX8_swapped_16 (by decide) ?_
      refine lv_iand hx hb dX8_swapped_17 ?_
      refine lv_iconst (v := 1) hx hb dX8_swapped_18 (by decide) ?_
      refine lv_icmp_ne (tgt := 45) hx hb dX8_swapped_19 (by decide) (fun hc => ?_) (fun hc => ?_)
      · replace hf := ite_f hc hf
        obtain ⟨x1, ex1⟩ : ∃ y : Int32, y = (v.2 + (1 : Int32)) := ⟨_, rfl⟩
        replace hf := bnd_e hf x1 ex1
        refine lv_iinc (v := x1) (lv' := [(4, .int x1), (0, .ref m0), (1, .int l1), (2, .int l2), (3, .int l3)]) hx hb dX8_swapped_45 hl (k := 4) rfl (by rw [ex1]; rfl) (by decide) rfl (fun ls hl => ?_)
        refine lv_goto (tgt := 3) hx hb dX8_swapped_48 (by decide) ?_
        replace hf := Option.some.inj hf
        subst hf
        exact hM _ _ _ hI (lv_sub hl [1, 2, 3, 4, 0] rfl)
      · replace hf := ite_t hc hf
        refine lv_aload_n hx hb dX8_swapped_22 rfl (lv_at hl 0 rfl) ?_
        refine w_get hx hb hg hown hK hI iX8 0 rfl rfl 4 (by decide) wF_RX8_16 rfl dX8_swapped_23 ?_
        refine lv_iload hx hb dX8_swapped_26 (lv_at hl 4 rfl) ?_
        refine lv_aload_n hx hb dX8_swapped_28 rfl (lv_at hl 0 rfl) ?_
        refine w_get hx hb hg hown hK hI iX8 0 rfl rfl 4 (by decide) wF_RX8_16 rfl dX8_swapped_29 ?_
        refine lv_iload hx hb dX8_swapped_32 (lv_at hl 4 rfl) ?_
        obtain ⟨hin, hf⟩ := rd_e hf
        refine w_iald hx hb hK hI 3 rfl hin dX8_swapped_34 (fun x2 ex2 => ?_)
        replace hf := hf x2 ex2
        refine lv_iload_n hx hb dX8_swapped_35 rfl (lv_at hl 2 rfl) ?_
        refine lv_icmp_ne (tgt := 43) hx hb dX8_swapped_36 (by decide) (fun hc => ?_) (fun hc => ?_)
        · replace hf := ite_f hc hf
          refine lv_iload_n hx hb dX8_swapped_43 rfl (lv_at hl 2 rfl) ?_
          exact J44 v.1 l1 l2 l3 v.2 v.2 l2 _ hf hM _ _ _ hI (lv_sub hl [0, 1, 2, 3, 4] rfl)
        · replace hf := ite_t hc hf
          refine lv_iload_n hx hb dX8_swapped_39 rfl (lv_at hl 3 rfl) ?_
          refine lv_goto (tgt := 44) hx hb dX8_swapped_40 (by decide) ?_
          exact J44 v.1 l1 l2 l3 v.2 v.2 l3 _ hf hM _ _ _ hI (lv_sub hl [0, 1, 2, 3, 4] rfl)
  obtain ⟨x, hf, hM⟩ : ∃ x, FX8_swapped M_roads M_number_0 a1 a2 a3 = some x ∧ x = out := ⟨out, hf, rfl⟩
  refine lv_iconst (v := 0) hx hb dX8_swapped_0 (by decide) ?_
  refine lv_istore (lv' := [(4, .int (0 : Int32)), (0, .ref m0), (1, .int a1), (2, .int a2), (3, .int a3)]) hx hb dX8_swapped_1 hl (by decide) rfl (fun ls hl => ?_)
  exact L3 a1 a2 a3 (M_number_0, (0 : Int32)) _ hf hM _ _ _ hI (lv_sub hl [1, 2, 3, 4, 0] rfl)
noncomputable def X8_ones_L4 (l0 : Int32) (v : Int32 × Int32) : Option ((Int32 × Int32) ⊕ (Int32)) :=
  if (24 : Int32) ≤ v.2 then (some (.inr v.1)) else (bnd (v.1 + ((l0 >>> (v.2 &&& (31 : Int32))) &&& (1 : Int32))) (fun x1 => bnd (v.2 + (1 : Int32)) (fun x2 => some (.inl (x1, x2)))))
noncomputable def FX8_ones  (a0 : Int32) : Option (Int32) :=
  loopO (X8_ones_L4 a0) ((0 : Int32), (0 : Int32))
abbrev GX8_ones (p : Program) (l : Launch) (e : Env) (s : State) (m : MethodId) (below : List Frame) (meth : Method) (c : Code) (a0 : Int32) (out : Int32) (H : Heap) (locs : List Loc) (g : JFrame) : Prop := W p l e (headSpec (Cond.code yX8_ones cX8_ones 3 (some .int) :: GW) { frames := 0, cells := 0, slots := 0, locals := 0 }).room s m ([.int a0] : List Value).toArray below meth c H locs 0 0 (MQ below (vp_Si (fun r => r = out)) ([.int a0] : List Value).toArray s 0 0 (fun _ => False)) g
theorem ksX8_ones : CalS yX8_ones cX8_ones 3 (some .int) 1 := ⟨wC_yX8_ones, wT_yX8_ones, wI_RX8, by decide +kernel⟩
set_option maxHeartbeats 4000000 in
set_option maxRecDepth 100000 in
theorem kX8_ones (l : Launch) (D : va_G) (cI cJ cZ : ClassId) (a0 : Int32) (out : Int32) (hf : FX8_ones a0 = some out) : MSi l yX8_ones (Cond.code yX8_ones cX8_ones 3 (some .int) :: GW) { frames := 0, cells := 0, slots := 0, locals := 0 } D cI cJ cZ [.int a0] out := by
  refine Met.ofW (cc := cX8_ones) (maxL := 3) (ret := (some .int)) (by decide +kernel) rfl ?_
  intro p e s m args below meth c s₁ B hml hv
  obtain ⟨rfl, hK⟩ := hv
  have hx := B.exec
  have hb := B.bytes
  have hr := B.returns
  have hlocks := B.notSynchronized
  have hg : ∀ w ∈ GW, w.before _ s = true := fun w h => atoms_spec (ws := Cond.code yX8_ones cX8_ones 3 (some .int) :: GW) B.pre w (List.mem_cons_of_mem _ h)
  have hown : s.vm.findClass RX8 = some m.cls := findClass_of_methodNamed B.named
  have hl := lv_entry [.int a0] (n := 3) (Nat.le_of_ble_eq_true rfl)
  rw [lg_entry_eq]
  generalize (lg_sl [.int a0] ++ List.replicate (3 - (lg_sl [.int a0]).length) Slot.unset).toArray = ls at hl ⊢
  replace hl : lv_has ls 3 [(0, .int a0)] := hl
  have L4 : ∀ (l0 : Int32), ∀ (v : Int32 × Int32) (x : Int32), loopO (X8_ones_L4 l0) v = some x → (fun z : Int32 => z = out) x → (fun (v : Int32 × Int32) => ∀ (ls : Array Slot), lv_has ls 3 [(0, .int l0), (1, .int v.1), (2, .int v.2)] → GX8_ones p l e s m below meth c a0 out s.heap [] (F0 m 4 ls [])) v := by
    intro l0
    refine loopO_ind (fun (v : Int32 × Int32) => ∀ (ls : Array Slot), lv_has ls 3 [(0, .int l0), (1, .int v.1), (2, .int v.2)] → GX8_ones p l e s m below meth c a0 out s.heap [] (F0 m 4 ls [])) (fun z : Int32 => z = out) ?_
    intro v x hf hM ls hl
    refine lv_iload_n hx hb dX8_ones_4 rfl (lv_at hl 2 rfl) ?_
    refine lv_bipush (v := 24) hx hb dX8_ones_5 (by decide) ?_
    refine lv_icmp_ge (tgt := 24) hx hb dX8_ones_7 (by decide) (fun hc => ?_) (fun hc => ?_)
    · replace hf := ite_t hc hf
      refine lv_iload_n hx hb dX8_ones_24 rfl (lv_at hl 1 rfl) ?_
      replace hf := Option.some.inj hf
      subst hf
      replace hM : v.1 = out := hM
      subst hM
      exact rt_s hx hb hr hlocks rfl rfl dX8_ones_25
    · replace hf := ite_f hc hf
      refine lv_iload_n hx hb dX8_ones_10 rfl (lv_at hl 1 rfl) ?_
      refine lv_iload_n hx hb dX8_ones_11 rfl (lv_at hl 0 rfl) ?_
      refine lv_iload_n hx hb dX8_ones_12 rfl (lv_at hl 2 rfl) ?_
      refine lv_ishr hx hb dX8_ones_13 ?_
      refine lv_iconst (v := 1) hx hb dX8_ones_14 (by decide) ?_
      refine lv_iand hx hb dX8_ones_15 ?_
      refine lv_iadd hx hb dX8_ones_16 ?_
      refine lv_topi (fun x1 ex1 => ?_)
      replace hf := bnd_e hf x1 ex1
      refine lv_istore_n (lv' := [(1, .int x1), (0, .int l0), (2, .int v.2)]) hx hb dX8_ones_17 rfl hl (by decide) rfl (fun ls hl => ?_)
      obtain ⟨x2, ex2⟩ : ∃ y : Int32, y = (v.2 + (1 : Int32)) := ⟨_, rfl⟩
      replace hf := bnd_e hf x2 ex2
      refine lv_iinc (v := x2) (lv' := [(2, .int x2), (1, .int x1), (0, .int l0)]) hx hb dX8_ones_18 hl (k := 2) rfl (by rw [ex2]; rfl) (by decide) rfl (fun ls hl => ?_)
      refine lv_goto (tgt := 4) hx hb dX8_ones_21 (by decide) ?_
      replace hf := Option.some.inj hf
      subst hf
      exact hM _ (lv_sub hl [2, 1, 0] rfl)
  obtain ⟨x, hf, hM⟩ : ∃ x, FX8_ones a0 = some x ∧ x = out := ⟨out, hf, rfl⟩
  refine lv_iconst (v := 0) hx hb dX8_ones_0 (by decide) ?_
  refine lv_istore_n (lv' := [(1, .int (0 : Int32)), (0, .int a0)]) hx hb dX8_ones_1 rfl hl (by decide) rfl (fun ls hl => ?_)
  refine lv_iconst (v := 0) hx hb dX8_ones_2 (by decide) ?_
  refine lv_istore_n (lv' := [(2, .int (0 : Int32)), (1, .int (0 : Int32)), (0, .int a0)]) hx hb dX8_ones_3 rfl hl (by decide) rfl (fun ls hl => ?_)
  exact L4 a0 ((0 : Int32), (0 : Int32)) _ hf hM _ (lv_sub hl [2, 1, 0] rfl)
noncomputable def FX8_isChain (M_roads : Int32) (M_number : Nat → Int32) (a1 : Int32) (a2 : Int32) (a3 : Int32) : Option (Int32) :=
  (FX8_isRoad M_roads a1).bind (fun o1 => if o1 = (0 : Int32) then (some (0 : Int32)) else ((FX8_in a2 (0 : Int32) (15 : Int32)).bind (fun x2 => if x2 = (0 : Int32) then (some (0 : Int32)) else ((FX8_in a3 (0 : Int32) (15 : Int32)).bind (fun x3 => if x3 = (0 : Int32) then (some (0 : Int32)) else (if a2 = a3 then (some (0 : Int32)) else (rd M_number 24 a1 (fun x4 => if x4 = a2 then (some (1 : Int32)) else (rd M_number 24 a1 (fun x5 => if x5 = a3 then (some (1 : Int32)) else (some (0 : Int32))))))))))))
abbrev GX8_isChain (p : Program) (l : Launch) (e : Env) (s : State) (m : MethodId) (below : List Frame) (meth : Method) (c : Code) (D : va_G) (cI cJ cZ : ClassId) (m0 m1 m2 m3 m4 m5 m6 m7 m8 m9 m10 m11 m12 m13 : Nat) (M_posts : Int32) (M_roads : Int32) (M_size : Int32) (M_rows : Int32) (M_nextRows : Int32) (M_first : Nat → Int32) (M_second : Nat → Int32) (M_number : Nat → Int32) (M_lists : Nat → Int32) (M_square : Nat → Int32) (M_fan : Nat → Int32) (M_trial : Nat → Int32) (M_touching : Nat → Int32) (M_having : Nat → Int32) (M_most : Nat → Int32) (M_only : Nat → Int32) (M_can : Nat → Int32) (M_next : Nat → Int32) (a1 : Int32) (a2 : Int32) (a3 : Int32) (out : Int32) (H : Heap) (locs : List Loc) (g : JFrame) : Prop := W p l e (headSpec (Cond.code yX8_isChain cX8_isChain 4 (some .boolean) :: GW) { frames := 2, cells := 0, slots := 0, locals := 43 }).room s m ([.ref m0, .int a1, .int a2, .int a3] : List Value).toArray below meth c H locs 0 0 (MQ below (va_Qi (fun r (_ : Unit) => r = out) (BW D (wM cI cJ cZ m0 m1 m2 m3 m4 m5 m6 m7 m8 m9 m10 m11 m12 m13 M_posts M_roads M_size M_rows M_nextRows M_first M_second M_number M_lists M_square M_fan M_trial M_touching M_having M_most M_only M_can M_next) s.heap.size (fun _ => (wM cI cJ cZ m0 m1 m2 m3 m4 m5 m6 m7 m8 m9 m10 m11 m12 m13 M_posts M_roads M_size M_rows M_nextRows M_first M_second M_number M_lists M_square M_fan M_trial M_touching M_having M_most M_only M_can M_next))) (va_A (wM cI cJ cZ m0 m1 m2 m3 m4 m5 m6 m7 m8 m9 m10 m11 m12 m13 M_posts M_roads M_size M_rows M_nextRows M_first M_second M_number M_lists M_square M_fan M_trial M_touching M_having M_most M_only M_can M_next) s.heap.size)) ([.ref m0, .int a1, .int a2, .int a3] : List Value).toArray s 0 0 (va_A (wM cI cJ cZ m0 m1 m2 m3 m4 m5 m6 m7 m8 m9 m10 m11 m12 m13 M_posts M_roads M_size M_rows M_nextRows M_first M_second M_number M_lists M_square M_fan M_trial M_touching M_having M_most M_only M_can M_next) s.heap.size)) g
theorem kvX8_isChain : CalV RX8 yX8_isChain cX8_isChain 4 (some .boolean) 3 := ⟨wC_yX8_isChain, wM_yX8_isChain, wS_yX8_isChain, wI_RX8, by decide +kernel⟩
set_option maxHeartbeats 4000000 in
set_option maxRecDepth 100000 in
theorem kX8_isChain (l : Launch) (D : va_G) (cI cJ cZ : ClassId) (m0 m1 m2 m3 m4 m5 m6 m7 m8 m9 m10 m11 m12 m13 : Nat) (M_posts : Int32) (M_roads : Int32) (M_size : Int32) (M_rows : Int32) (M_nextRows : Int32) (M_first : Nat → Int32) (M_second : Nat → Int32) (M_number : Nat → Int32) (M_lists : Nat → Int32) (M_square : Nat → Int32) (M_fan : Nat → Int32) (M_trial : Nat → Int32) (M_touching : Nat → Int32) (M_having : Nat → Int32) (M_most : Nat → Int32) (M_only : Nat → Int32) (M_can : Nat → Int32) (M_next : Nat → Int32) (a1 : Int32) (a2 : Int32) (a3 : Int32) (out : Int32) (hf : FX8_isChain M_roads M_number a1 a2 a3 = some out) : MI l yX8_isChain (Cond.code yX8_isChain cX8_isChain 4 (some .boolean) :: GW) { frames := 2, cells := 0, slots := 0, locals := 43 } D cI cJ cZ [.ref m0, .int a1, .int a2, .int a3] (wM cI cJ cZ m0 m1 m2 m3 m4 m5 m6 m7 m8 m9 m10 m11 m12 m13 M_posts M_roads M_size M_rows M_nextRows M_first M_second M_number M_lists M_square M_fan M_trial M_touching M_having M_most M_only M_can M_next) (fun r (_ : Unit) => r = out) (fun _ => (wM cI cJ cZ m0 m1 m2 m3 m4 m5 m6 m7 m8 m9 m10 m11 m12 m13 M_posts M_roads M_size M_rows M_nextRows M_first M_second M_number M_lists M_square M_fan M_trial M_touching M_having M_most M_only M_can M_next)) := by
  intro sz
  refine Met.ofW (cc := cX8_isChain) (maxL := 4) (ret := (some .boolean)) (by decide +kernel) rfl ?_
  intro p e s m args below meth c s₁ B hml hv
  obtain ⟨rfl, hsz, hP, hK, hD0⟩ := hv
  have hx := B.exec
  have hb := B.bytes
  have hr := B.returns
  have hlocks := B.notSynchronized
  have hg : ∀ w ∈ GW, w.before _ s = true := fun w h => atoms_spec (ws := Cond.code yX8_isChain cX8_isChain 4 (some .boolean) :: GW) B.pre w (List.mem_cons_of_mem _ h)
  have hown : s.vm.findClass RX8 = some m.cls := findClass_of_methodNamed B.named
  subst hsz
  obtain ⟨A, hAe⟩ : ∃ A, A = va_A (wM cI cJ cZ m0 m1 m2 m3 m4 m5 m6 m7 m8 m9 m10 m11 m12 m13 M_posts M_roads M_size M_rows M_nextRows M_first M_second M_number M_lists M_square M_fan M_trial M_touching M_having M_most M_only M_can M_next) s.heap.size := ⟨_, rfl⟩
  have hA : ∀ q : Nat, s.heap.size ≤ q → A q := fun q h => by rw [hAe]; exact Or.inr h
  have hI : WI D A s.heap (wM cI cJ cZ m0 m1 m2 m3 m4 m5 m6 m7 m8 m9 m10 m11 m12 m13 M_posts M_roads M_size M_rows M_nextRows M_first M_second M_number M_lists M_square M_fan M_trial M_touching M_having M_most M_only M_can M_next) s.heap [] := ⟨hP, by rw [hAe]; exact hD0.self, va_S.rf⟩
  have hl := lv_entry [.ref m0, .int a1, .int a2, .int a3] (n := 4) (Nat.le_of_ble_eq_true rfl)
  rw [lg_entry_eq]
  generalize (lg_sl [.ref m0, .int a1, .int a2, .int a3] ++ List.replicate (4 - (lg_sl [.ref m0, .int a1, .int a2, .int a3]).length) Slot.unset).toArray = ls at hl ⊢
  replace hl : lv_has ls 4 [(0, .ref m0), (1, .int a1), (2, .int a2), (3, .int a3)] := hl
  obtain ⟨x, hf, hM⟩ : ∃ x, FX8_isChain M_roads M_number a1 a2 a3 = some x ∧ x = out := ⟨out, hf, rfl⟩
  refine lv_aload_n hx hb dX8_isChain_0 rfl (lv_at hl 0 rfl) ?_
  refine lv_iload_n hx hb dX8_isChain_1 rfl (lv_at hl 1 rfl) ?_
  obtain ⟨o1, ho1, hf⟩ := bd_e hf
  refine w_Vi0 (wc := (wM cI cJ cZ m0 m1 m2 m3 m4 m5 m6 m7 m8 m9 m10 m11 m12 m13 M_posts M_roads M_size M_rows M_nextRows M_first M_second M_number M_lists M_square M_fan M_trial M_touching M_having M_most M_only M_can M_next)) (wr := []) (rest := []) hx hb hml hg hown hK hA hI (kX8_isRoad l D cI cJ cZ m0 m1 m2 m3 m4 m5 m6 m7 m8 m9 m10 m11 m12 m13 M_posts M_roads M_size M_rows M_nextRows M_first M_second M_number M_lists M_square M_fan M_trial M_touching M_having M_most M_only M_can M_next a1 o1 ho1) kvX8_isRoad wL_RX8_72 ⟨Nat.le_of_ble_eq_true rfl, Nat.le_of_ble_eq_true rfl⟩ rfl rfl [0, 1, 2, 3, 4, 5, 6, 7, 8, 9, 10, 11, 12, 13] [] rfl rfl rfl rfl (by decide) rfl rfl hl.1 (Nat.le_of_ble_eq_true rfl) dX8_isChain_2 ⟨Nat.zero_le _, Nat.zero_le _⟩ ⟨rfl, rfl⟩ (fun r u H locs hp hI => ?_)
  replace hp : r = o1 := hp
  rw [hp]
  clear hp
  replace hI : WI D A s.heap (wM cI cJ cZ m0 m1 m2 m3 m4 m5 m6 m7 m8 m9 m10 m11 m12 m13 M_posts M_roads M_size M_rows M_nextRows M_first M_second M_number M_lists M_square M_fan M_trial M_touching M_having M_most M_only M_can M_next) H locs := hI
  refine lv_if_eq (tgt := 57) hx hb dX8_isChain_5 (by decide) (fun hc => ?_) (fun hc => ?_)
  · replace hf := ite_t hc hf
    refine lv_iconst (v := 0) hx hb dX8_isChain_57 (by decide) ?_
    replace hf := Option.some.inj hf
    subst hf
    replace hM : (0 : Int32) = out := hM
    subst hM
    exact rt_i (u := ()) hx hb hr hlocks (by decide) hI hAe rfl dX8_isChain_58
  · replace hf := ite_f hc hf
    refine lv_iload_n hx hb dX8_isChain_8 rfl (lv_at hl 2 rfl) ?_
    refine lv_iconst (v := 0) hx hb dX8_isChain_9 (by decide) ?_
    refine lv_bipush (v := 15) hx hb dX8_isChain_10 (by decide) ?_
    obtain ⟨x2, hx2, hf⟩ := bd_e hf
    refine w_S (rest := []) hx hb hml hg hown hK (kX8_in l D cI cJ cZ a2 (0 : Int32) (15 : Int32) x2 hx2) ksX8_in wL_RX8_60 ⟨Nat.le_of_ble_eq_true rfl, Nat.le_of_ble_eq_true rfl⟩ ⟨rfl, rfl⟩ rfl rfl hl.1 (Nat.le_of_ble_eq_true rfl) dX8_isChain_12 ⟨Nat.zero_le _, Nat.zero_le _⟩ ?_
    refine lv_if_eq (tgt := 57) hx hb dX8_isChain_15 (by decide) (fun hc => ?_) (fun hc => ?_)
    · replace hf := ite_t hc hf
      refine lv_iconst (v := 0) hx hb dX8_isChain_57 (by decide) ?_
      replace hf := Option.some.inj hf
      subst hf
      replace hM : (0 : Int32) = out := hM
      subst hM
      exact rt_i (u := ()) hx hb hr hlocks (by decide) hI hAe rfl dX8_isChain_58
    · replace hf := ite_f hc hf
      refine lv_iload_n hx hb dX8_isChain_18 rfl (lv_at hl 3 rfl) ?_
      refine lv_iconst (v := 0) hx hb dX8_isChain_19 (by decide) ?_
      refine lv_bipush (v := 15) hx hb dX8_isChain_20 (by decide) ?_
      obtain ⟨x3, hx3, hf⟩ := bd_e hf
      refine w_S (rest := []) hx hb hml hg hown hK (kX8_in l D cI cJ cZ a3 (0 : Int32) (15 : Int32) x3 hx3) ksX8_in wL_RX8_60 ⟨Nat.le_of_ble_eq_true rfl, Nat.le_of_ble_eq_true rfl⟩ ⟨rfl, rfl⟩ rfl rfl hl.1 (Nat.le_of_ble_eq_true rfl) dX8_isChain_22 ⟨Nat.zero_le _, Nat.zero_le _⟩ ?_
      refine lv_if_eq (tgt := 57) hx hb dX8_isChain_25 (by decide) (fun hc => ?_) (fun hc => ?_)
      · replace hf := ite_t hc hf
        refine lv_iconst (v := 0) hx hb dX8_isChain_57 (by decide) ?_
        replace hf := Option.some.inj hf
        subst hf
        replace hM : (0 : Int32) = out := hM
        subst hM
        exact rt_i (u := ()) hx hb hr hlocks (by decide) hI hAe rfl dX8_isChain_58
      · replace hf := ite_f hc hf
        refine lv_iload_n hx hb dX8_isChain_28 rfl (lv_at hl 2 rfl) ?_
        refine lv_iload_n hx hb dX8_isChain_29 rfl (lv_at hl 3 rfl) ?_
        refine lv_icmp_eq (tgt := 57) hx hb dX8_isChain_30 (by decide) (fun hc => ?_) (fun hc => ?_)
        · replace hf := ite_t hc hf
          refine lv_iconst (v := 0) hx hb dX8_isChain_57 (by decide) ?_
          replace hf := Option.some.inj hf
          subst hf
          replace hM : (0 : Int32) = out := hM
          subst hM
          exact rt_i (u := ()) hx hb hr hlocks (by decide) hI hAe rfl dX8_isChain_58
        · replace hf := ite_f hc hf
          refine lv_aload_n hx hb dX8_isChain_33 rfl (lv_at hl 0 rfl) ?_
          refine w_get hx hb hg hown hK hI iX8 0 rfl rfl 4 (by decide) wF_RX8_16 rfl dX8_isChain_34 ?_
          refine lv_iload_n hx hb dX8_isChain_37 rfl (lv_at hl 1 rfl) ?_
          obtain ⟨hin, hf⟩ := rd_e hf
          refine w_iald hx hb hK hI 3 rfl hin dX8_isChain_38 (fun x4 ex4 => ?_)
          replace hf := hf x4 ex4
          refine lv_iload_n hx hb dX8_isChain_39 rfl (lv_at hl 2 rfl) ?_
          refine lv_icmp_eq (tgt := 53) hx hb dX8_isChain_40 (by decide) (fun hc => ?_) (fun hc => ?_)
          · replace hf := ite_t hc hf
            refine lv_iconst (v := 1) hx hb dX8_isChain_53 (by decide) ?_
            refine lv_goto (tgt := 58) hx hb dX8_isChain_54 (by decide) ?_
            replace hf := Option.some.inj hf
            subst hf
            replace hM : (1 : Int32) = out := hM
            subst hM
            exact rt_i (u := ()) hx hb hr hlocks (by decide) hI hAe rfl dX8_isChain_58
          · replace hf := ite_f hc hf
            refine lv_aload_n hx hb dX8_isChain_43 rfl (lv_at hl 0 rfl) ?_
            refine w_get hx hb hg hown hK hI iX8 0 rfl rfl 4 (by decide) wF_RX8_16 rfl dX8_isChain_44 ?_
            refine lv_iload_n hx hb dX8_isChain_47 rfl (lv_at hl 1 rfl) ?_
            obtain ⟨hin, hf⟩ := rd_e hf
            refine w_iald hx hb hK hI 3 rfl hin dX8_isChain_48 (fun x5 ex5 => ?_)
            replace hf := hf x5 ex5
            refine lv_iload_n hx hb dX8_isChain_49 rfl (lv_at hl 3 rfl) ?_
            refine lv_icmp_ne (tgt := 57) hx hb dX8_isChain_50 (by decide) (fun hc => ?_) (fun hc => ?_)
            · replace hf := ite_f hc hf
              refine lv_iconst (v := 0) hx hb dX8_isChain_57 (by decide) ?_
              replace hf := Option.some.inj hf
              subst hf
              replace hM : (0 : Int32) = out := hM
              subst hM
              exact rt_i (u := ()) hx hb hr hlocks (by decide) hI hAe rfl dX8_isChain_58
            · replace hf := ite_t hc hf
              refine lv_iconst (v := 1) hx hb dX8_isChain_53 (by decide) ?_
              refine lv_goto (tgt := 58) hx hb dX8_isChain_54 (by decide) ?_
              replace hf := Option.some.inj hf
              subst hf
              replace hM : (1 : Int32) = out := hM
              subst hM
              exact rt_i (u := ()) hx hb hr hlocks (by decide) hI hAe rfl dX8_isChain_58
noncomputable def FX8_chain (M_roads : Int32) (M_first : Nat → Int32) (M_second : Nat → Int32) (M_number : Nat → Int32) (a1 : Int32) (a2 : Int32) (a3 : Int32) : Option (Int32) :=
  (FX8_isChain M_roads M_number a1 a2 a3).bind (fun o1 => if o1 = (0 : Int32) then (some (-2 : Int32)) else ((FX8_chainOf M_roads M_first M_second M_number a1 a2 a3).bind (fun o2 => (FX8_ones o2).bind (fun x3 => some x3))))
abbrev GX8_chain (p : Program) (l : Launch) (e : Env) (s : State) (m : MethodId) (below : List Frame) (meth : Method) (c : Code) (D : va_G) (cI cJ cZ : ClassId) (m0 m1 m2 m3 m4 m5 m6 m7 m8 m9 m10 m11 m12 m13 : Nat) (M_posts : Int32) (M_roads : Int32) (M_size : Int32) (M_rows : Int32) (M_nextRows : Int32) (M_first : Nat → Int32) (M_second : Nat → Int32) (M_number : Nat → Int32) (M_lists : Nat → Int32) (M_square : Nat → Int32) (M_fan : Nat → Int32) (M_trial : Nat → Int32) (M_touching : Nat → Int32) (M_having : Nat → Int32) (M_most : Nat → Int32) (M_only : Nat → Int32) (M_can : Nat → Int32) (M_next : Nat → Int32) (a1 : Int32) (a2 : Int32) (a3 : Int32) (out : Int32) (H : Heap) (locs : List Loc) (g : JFrame) : Prop := W p l e (headSpec (Cond.code yX8_chain cX8_chain 4 (some .int) :: GW) { frames := 3, cells := 0, slots := 0, locals := 72 }).room s m ([.ref m0, .int a1, .int a2, .int a3] : List Value).toArray below meth c H locs 0 0 (MQ below (va_Qi (fun r (_ : Unit) => r = out) (BW D (wM cI cJ cZ m0 m1 m2 m3 m4 m5 m6 m7 m8 m9 m10 m11 m12 m13 M_posts M_roads M_size M_rows M_nextRows M_first M_second M_number M_lists M_square M_fan M_trial M_touching M_having M_most M_only M_can M_next) s.heap.size (fun _ => (wM cI cJ cZ m0 m1 m2 m3 m4 m5 m6 m7 m8 m9 m10 m11 m12 m13 M_posts M_roads M_size M_rows M_nextRows M_first M_second M_number M_lists M_square M_fan M_trial M_touching M_having M_most M_only M_can M_next))) (va_A (wM cI cJ cZ m0 m1 m2 m3 m4 m5 m6 m7 m8 m9 m10 m11 m12 m13 M_posts M_roads M_size M_rows M_nextRows M_first M_second M_number M_lists M_square M_fan M_trial M_touching M_having M_most M_only M_can M_next) s.heap.size)) ([.ref m0, .int a1, .int a2, .int a3] : List Value).toArray s 0 0 (va_A (wM cI cJ cZ m0 m1 m2 m3 m4 m5 m6 m7 m8 m9 m10 m11 m12 m13 M_posts M_roads M_size M_rows M_nextRows M_first M_second M_number M_lists M_square M_fan M_trial M_touching M_having M_most M_only M_can M_next) s.heap.size)) g
theorem kvX8_chain : CalV RX8 yX8_chain cX8_chain 4 (some .int) 3 := ⟨wC_yX8_chain, wM_yX8_chain, wS_yX8_chain, wI_RX8, by decide +kernel⟩
set_option maxHeartbeats 4000000 in
set_option maxRecDepth 100000 in
theorem kX8_chain (l : Launch) (D : va_G) (cI cJ cZ : ClassId) (m0 m1 m2 m3 m4 m5 m6 m7 m8 m9 m10 m11 m12 m13 : Nat) (M_posts : Int32) (M_roads : Int32) (M_size : Int32) (M_rows : Int32) (M_nextRows : Int32) (M_first : Nat → Int32) (M_second : Nat → Int32) (M_number : Nat → Int32) (M_lists : Nat → Int32) (M_square : Nat → Int32) (M_fan : Nat → Int32) (M_trial : Nat → Int32) (M_touching : Nat → Int32) (M_having : Nat → Int32) (M_most : Nat → Int32) (M_only : Nat → Int32) (M_can : Nat → Int32) (M_next : Nat → Int32) (a1 : Int32) (a2 : Int32) (a3 : Int32) (out : Int32) (hf : FX8_chain M_roads M_first M_second M_number a1 a2 a3 = some out) : MI l yX8_chain (Cond.code yX8_chain cX8_chain 4 (some .int) :: GW) { frames := 3, cells := 0, slots := 0, locals := 72 } D cI cJ cZ [.ref m0, .int a1, .int a2, .int a3] (wM cI cJ cZ m0 m1 m2 m3 m4 m5 m6 m7 m8 m9 m10 m11 m12 m13 M_posts M_roads M_size M_rows M_nextRows M_first M_second M_number M_lists M_square M_fan M_trial M_touching M_having M_most M_only M_can M_next) (fun r (_ : Unit) => r = out) (fun _ => (wM cI cJ cZ m0 m1 m2 m3 m4 m5 m6 m7 m8 m9 m10 m11 m12 m13 M_posts M_roads M_size M_rows M_nextRows M_first M_second M_number M_lists M_square M_fan M_trial M_touching M_having M_most M_only M_can M_next)) := by
  intro sz
  refine Met.ofW (cc := cX8_chain) (maxL := 4) (ret := (some .int)) (by decide +kernel) rfl ?_
  intro p e s m args below meth c s₁ B hml hv
  obtain ⟨rfl, hsz, hP, hK, hD0⟩ := hv
  have hx := B.exec
  have hb := B.bytes
  have hr := B.returns
  have hlocks := B.notSynchronized
  have hg : ∀ w ∈ GW, w.before _ s = true := fun w h => atoms_spec (ws := Cond.code yX8_chain cX8_chain 4 (some .int) :: GW) B.pre w (List.mem_cons_of_mem _ h)
  have hown : s.vm.findClass RX8 = some m.cls := findClass_of_methodNamed B.named
  subst hsz
  obtain ⟨A, hAe⟩ : ∃ A, A = va_A (wM cI cJ cZ m0 m1 m2 m3 m4 m5 m6 m7 m8 m9 m10 m11 m12 m13 M_posts M_roads M_size M_rows M_nextRows M_first M_second M_number M_lists M_square M_fan M_trial M_touching M_having M_most M_only M_can M_next) s.heap.size := ⟨_, rfl⟩
  have hA : ∀ q : Nat, s.heap.size ≤ q → A q := fun q h => by rw [hAe]; exact Or.inr h
  have hI : WI D A s.heap (wM cI cJ cZ m0 m1 m2 m3 m4 m5 m6 m7 m8 m9 m10 m11 m12 m13 M_posts M_roads M_size M_rows M_nextRows M_first M_second M_number M_lists M_square M_fan M_trial M_touching M_having M_most M_only M_can M_next) s.heap [] := ⟨hP, by rw [hAe]; exact hD0.self, va_S.rf⟩
  have hl := lv_entry [.ref m0, .int a1, .int a2, .int a3] (n := 4) (Nat.le_of_ble_eq_true rfl)
  rw [lg_entry_eq]
  generalize (lg_sl [.ref m0, .int a1, .int a2, .int a3] ++ List.replicate (4 - (lg_sl [.ref m0, .int a1, .int a2, .int a3]).length) Slot.unset).toArray = ls at hl ⊢
  replace hl : lv_has ls 4 [(0, .ref m0), (1, .int a1), (2, .int a2), (3, .int a3)] := hl
  obtain ⟨x, hf, hM⟩ : ∃ x, FX8_chain M_roads M_first M_second M_number a1 a2 a3 = some x ∧ x = out := ⟨out, hf, rfl⟩
  refine lv_aload_n hx hb dX8_chain_0 rfl (lv_at hl 0 rfl) ?_
  refine lv_iload_n hx hb dX8_chain_1 rfl (lv_at hl 1 rfl) ?_
  refine lv_iload_n hx hb dX8_chain_2 rfl (lv_at hl 2 rfl) ?_
  refine lv_iload_n hx hb dX8_chain_3 rfl (lv_at hl 3 rfl) ?_
  obtain ⟨o1, ho1, hf⟩ := bd_e hf
  refine w_Vi0 (wc := (wM cI cJ cZ m0 m1 m2 m3 m4 m5 m6 m7 m8 m9 m10 m11 m12 m13 M_posts M_roads M_size M_rows M_nextRows M_first M_second M_number M_lists M_square M_fan M_trial M_touching M_having M_most M_only M_can M_next)) (wr := []) (rest := []) hx hb hml hg hown hK hA hI (kX8_isChain l D cI cJ cZ m0 m1 m2 m3 m4 m5 m6 m7 m8 m9 m10 m11 m12 m13 M_posts M_roads M_size M_rows M_nextRows M_first M_second M_number M_lists M_square M_fan M_trial M_touching M_having M_most M_only M_can M_next a1 a2 a3 o1 ho1) kvX8_isChain wL_RX8_100 ⟨Nat.le_of_ble_eq_true rfl, Nat.le_of_ble_eq_true rfl⟩ rfl rfl [0, 1, 2, 3, 4, 5, 6, 7, 8, 9, 10, 11, 12, 13] [] rfl rfl rfl rfl (by decide) rfl rfl hl.1 (Nat.le_of_ble_eq_true rfl) dX8_chain_4 ⟨Nat.zero_le _, Nat.zero_le _⟩ ⟨rfl, rfl⟩ (fun r u H locs hp hI => ?_)
  replace hp : r = o1 := hp
  rw [hp]
  clear hp
  replace hI : WI D A s.heap (wM cI cJ cZ m0 m1 m2 m3 m4 m5 m6 m7 m8 m9 m10 m11 m12 m13 M_posts M_roads M_size M_rows M_nextRows M_first M_second M_number M_lists M_square M_fan M_trial M_touching M_having M_most M_only M_can M_next) H locs := hI
  refine lv_if_eq (tgt := 23) hx hb dX8_chain_7 (by decide) (fun hc => ?_) (fun hc => ?_)
  · replace hf := ite_t hc hf
    refine lv_bipush (v := -2) hx hb dX8_chain_23 (by decide) ?_
    replace hf := Option.some.inj hf
    subst hf
    replace hM : (-2 : Int32) = out := hM
    subst hM
    exact rt_i (u := ()) hx hb hr hlocks rfl hI hAe rfl dX8_chain_25
  · replace hf := ite_f hc hf
    refine lv_aload_n hx hb dX8_chain_10 rfl (lv_at hl 0 rfl) ?_
    refine lv_iload_n hx hb dX8_chain_11 rfl (lv_at hl 1 rfl) ?_
    refine lv_iload_n hx hb dX8_chain_12 rfl (lv_at hl 2 rfl) ?_
    refine lv_iload_n hx hb dX8_chain_13 rfl (lv_at hl 3 rfl) ?_
    obtain ⟨o2, ho2, hf⟩ := bd_e hf
    refine w_Vi0 (wc := (wM cI cJ cZ m0 m1 m2 m3 m4 m5 m6 m7 m8 m9 m10 m11 m12 m13 M_posts M_roads M_size M_rows M_nextRows M_first M_second M_number M_lists M_square M_fan M_trial M_touching M_having M_most M_only M_can M_next)) (wr := []) (rest := []) hx hb hml hg hown hK hA hI (kX8_chainOf l D cI cJ cZ m0 m1 m2 m3 m4 m5 m6 m7 m8 m9 m10 m11 m12 m13 M_posts M_roads M_size M_rows M_nextRows M_first M_second M_number M_lists M_square M_fan M_trial M_touching M_having M_most M_only M_can M_next a1 a2 a3 o2 ho2) kvX8_chainOf wL_RX8_103 ⟨Nat.le_of_ble_eq_true rfl, Nat.le_of_ble_eq_true rfl⟩ rfl rfl [0, 1, 2, 3, 4, 5, 6, 7, 8, 9, 10, 11, 12, 13] [] rfl rfl rfl rfl (by decide) rfl rfl hl.1 (Nat.le_of_ble_eq_true rfl) dX8_chain_14 ⟨Nat.zero_le _, Nat.zero_le _⟩ ⟨rfl, rfl⟩ (fun r u H locs hp hI => ?_)
    replace hp : r = o2 := hp
    rw [hp]
    clear hp
    replace hI : WI D A s.heap (wM cI cJ cZ m0 m1 m2 m3 m4 m5 m6 m7 m8 m9 m10 m11 m12 m13 M_posts M_roads M_size M_rows M_nextRows M_first M_second M_number M_lists M_square M_fan M_trial M_touching M_having M_most M_only M_can M_next) H locs := hI
    obtain ⟨x3, hx3, hf⟩ := bd_e hf
    refine w_S (rest := []) hx hb hml hg hown hK (kX8_ones l D cI cJ cZ o2 x3 hx3) ksX8_ones wL_RX8_107 ⟨Nat.le_of_ble_eq_true rfl, Nat.le_of_ble_eq_true rfl⟩ ⟨rfl, rfl⟩ rfl rfl hl.1 (Nat.le_of_ble_eq_true rfl) dX8_chain_17 ⟨Nat.zero_le _, Nat.zero_le _⟩ ?_
    refine lv_goto (tgt := 25) hx hb dX8_chain_20 (by decide) ?_
    replace hf := Option.some.inj hf
    subst hf
    replace hM : x3 = out := hM
    subst hM
    exact rt_i (u := ()) hx hb hr hlocks rfl hI hAe rfl dX8_chain_25
noncomputable def FX8_swap (M_roads : Int32) (M_first : Nat → Int32) (M_second : Nat → Int32) (M_number_0 : Nat → Int32) (a1 : Int32) (a2 : Int32) (a3 : Int32) : Option (Int32 × (Nat → Int32)) :=
  (FX8_isChain M_roads M_number_0 a1 a2 a3).bind (fun o1 => if o1 = (0 : Int32) then (some ((-2 : Int32), M_number_0)) else ((FX8_chainOf M_roads M_first M_second M_number_0 a1 a2 a3).bind (fun o2 => (FX8_swapped M_roads M_number_0 o2 a2 a3).bind (fun o3 => (FX8_ones o2).bind (fun x4 => some (x4, o3))))))
abbrev GX8_swap (p : Program) (l : Launch) (e : Env) (s : State) (m : MethodId) (below : List Frame) (meth : Method) (c : Code) (D : va_G) (cI cJ cZ : ClassId) (m0 m1 m2 m3 m4 m5 m6 m7 m8 m9 m10 m11 m12 m13 : Nat) (M_posts : Int32) (M_roads : Int32) (M_size : Int32) (M_rows : Int32) (M_nextRows : Int32) (M_first : Nat → Int32) (M_second : Nat → Int32) (M_number_0 : Nat → Int32) (M_lists : Nat → Int32) (M_square : Nat → Int32) (M_fan : Nat → Int32) (M_trial : Nat → Int32) (M_touching : Nat → Int32) (M_having : Nat → Int32) (M_most : Nat → Int32) (M_only : Nat → Int32) (M_can : Nat → Int32) (M_next : Nat → Int32) (a1 : Int32) (a2 : Int32) (a3 : Int32) (out : Int32 × (Nat → Int32)) (H : Heap) (locs : List Loc) (g : JFrame) : Prop := W p l e (headSpec (Cond.code yX8_swap cX8_swap 5 (some .int) :: GW) { frames := 3, cells := 0, slots := 0, locals := 72 }).room s m ([.ref m0, .int a1, .int a2, .int a3] : List Value).toArray below meth c H locs 0 0 (MQ below (va_Qi (fun r (_ : Unit) => r = out.1) (BW D (wM cI cJ cZ m0 m1 m2 m3 m4 m5 m6 m7 m8 m9 m10 m11 m12 m13 M_posts M_roads M_size M_rows M_nextRows M_first M_second M_number_0 M_lists M_square M_fan M_trial M_touching M_having M_most M_only M_can M_next) s.heap.size (fun _ => (wM cI cJ cZ m0 m1 m2 m3 m4 m5 m6 m7 m8 m9 m10 m11 m12 m13 M_posts M_roads M_size M_rows M_nextRows M_first M_second out.2 M_lists M_square M_fan M_trial M_touching M_having M_most M_only M_can M_next))) (va_A (wM cI cJ cZ m0 m1 m2 m3 m4 m5 m6 m7 m8 m9 m10 m11 m12 m13 M_posts M_roads M_size M_rows M_nextRows M_first M_second M_number_0 M_lists M_square M_fan M_trial M_touching M_having M_most M_only M_can M_next) s.heap.size)) ([.ref m0, .int a1, .int a2, .int a3] : List Value).toArray s 0 0 (va_A (wM cI cJ cZ m0 m1 m2 m3 m4 m5 m6 m7 m8 m9 m10 m11 m12 m13 M_posts M_roads M_size M_rows M_nextRows M_first M_second M_number_0 M_lists M_square M_fan M_trial M_touching M_having M_most M_only M_can M_next) s.heap.size)) g
theorem kvX8_swap : CalV RX8 yX8_swap cX8_swap 5 (some .int) 3 := ⟨wC_yX8_swap, wM_yX8_swap, wS_yX8_swap, wI_RX8, by decide +kernel⟩
set_option maxHeartbeats 4000000 in
set_option maxRecDepth 100000 in
theorem kX8_swap (l : Launch) (D : va_G) (cI cJ cZ : ClassId) (m0 m1 m2 m3 m4 m5 m6 m7 m8 m9 m10 m11 m12 m13 : Nat) (M_posts : Int32) (M_roads : Int32) (M_size : Int32) (M_rows : Int32) (M_nextRows : Int32) (M_first : Nat → Int32) (M_second : Nat → Int32) (M_number_0 : Nat → Int32) (M_lists : Nat → Int32) (M_square : Nat → Int32) (M_fan : Nat → Int32) (M_trial : Nat → Int32) (M_touching : Nat → Int32) (M_having : Nat → Int32) (M_most : Nat → Int32) (M_only : Nat → Int32) (M_can : Nat → Int32) (M_next : Nat → Int32) (a1 : Int32) (a2 : Int32) (a3 : Int32) (out : Int32 × (Nat → Int32)) (hf : FX8_swap M_roads M_first M_second M_number_0 a1 a2 a3 = some out) : MI l yX8_swap (Cond.code yX8_swap cX8_swap 5 (some .int) :: GW) { frames := 3, cells := 0, slots := 0, locals := 72 } D cI cJ cZ [.ref m0, .int a1, .int a2, .int a3] (wM cI cJ cZ m0 m1 m2 m3 m4 m5 m6 m7 m8 m9 m10 m11 m12 m13 M_posts M_roads M_size M_rows M_nextRows M_first M_second M_number_0 M_lists M_square M_fan M_trial M_touching M_having M_most M_only M_can M_next) (fun r (_ : Unit) => r = out.1) (fun _ => (wM cI cJ cZ m0 m1 m2 m3 m4 m5 m6 m7 m8 m9 m10 m11 m12 m13 M_posts M_roads M_size M_rows M_nextRows M_first M_second out.2 M_lists M_square M_fan M_trial M_touching M_having M_most M_only M_can M_next)) := by
  intro sz
  refine Met.ofW (cc := cX8_swap) (maxL := 5) (ret := (some .int)) (by decide +kernel) rfl ?_
  intro p e s m args below meth c s₁ B hml hv
  obtain ⟨rfl, hsz, hP, hK, hD0⟩ := hv
  have hx := B.exec
  have hb := B.bytes
  have hr := B.returns
  have hlocks := B.notSynchronized
  have hg : ∀ w ∈ GW, w.before _ s = true := fun w h => atoms_spec (ws := Cond.code yX8_swap cX8_swap 5 (some .int) :: GW) B.pre w (List.mem_cons_of_mem _ h)
  have hown : s.vm.findClass RX8 = some m.cls := findClass_of_methodNamed B.named
  subst hsz
  obtain ⟨A, hAe⟩ : ∃ A, A = va_A (wM cI cJ cZ m0 m1 m2 m3 m4 m5 m6 m7 m8 m9 m10 m11 m12 m13 M_posts M_roads M_size M_rows M_nextRows M_first M_second M_number_0 M_lists M_square M_fan M_trial M_touching M_having M_most M_only M_can M_next) s.heap.size := ⟨_, rfl⟩
  have hA : ∀ q : Nat, s.heap.size ≤ q → A q := fun q h => by rw [hAe]; exact Or.inr h
  have hI : WI D A s.heap (wM cI cJ cZ m0 m1 m2 m3 m4 m5 m6 m7 m8 m9 m10 m11 m12 m13 M_posts M_roads M_size M_rows M_nextRows M_first M_second M_number_0 M_lists M_square M_fan M_trial M_touching M_having M_most M_only M_can M_next) s.heap [] := ⟨hP, by rw [hAe]; exact hD0.self, va_S.rf⟩
  have hl := lv_entry [.ref m0, .int a1, .int a2, .int a3] (n := 5) (Nat.le_of_ble_eq_true rfl)
  rw [lg_entry_eq]
  generalize (lg_sl [.ref m0, .int a1, .int a2, .int a3] ++ List.replicate (5 - (lg_sl [.ref m0, .int a1, .int a2, .int a3]).length) Slot.unset).toArray = ls at hl ⊢
  replace hl : lv_has ls 5 [(0, .ref m0), (1, .int a1), (2, .int a2), (3, .int a3)] := hl
  obtain ⟨x, hf, hM⟩ : ∃ x, FX8_swap M_roads M_first M_second M_number_0 a1 a2 a3 = some x ∧ x = out := ⟨out, hf, rfl⟩
  refine lv_aload_n hx hb dX8_swap_0 rfl (lv_at hl 0 rfl) ?_
  refine lv_iload_n hx hb dX8_swap_1 rfl (lv_at hl 1 rfl) ?_
  refine lv_iload_n hx hb dX8_swap_2 rfl (lv_at hl 2 rfl) ?_
  refine lv_iload_n hx hb dX8_swap_3 rfl (lv_at hl 3 rfl) ?_
  obtain ⟨o1, ho1, hf⟩ := bd_e hf
  refine w_Vi0 (wc := (wM cI cJ cZ m0 m1 m2 m3 m4 m5 m6 m7 m8 m9 m10 m11 m12 m13 M_posts M_roads M_size M_rows M_nextRows M_first M_second M_number_0 M_lists M_square M_fan M_trial M_touching M_having M_most M_only M_can M_next)) (wr := []) (rest := []) hx hb hml hg hown hK hA hI (kX8_isChain l D cI cJ cZ m0 m1 m2 m3 m4 m5 m6 m7 m8 m9 m10 m11 m12 m13 M_posts M_roads M_size M_rows M_nextRows M_first M_second M_number_0 M_lists M_square M_fan M_trial M_touching M_having M_most M_only M_can M_next a1 a2 a3 o1 ho1) kvX8_isChain wL_RX8_100 ⟨Nat.le_of_ble_eq_true rfl, Nat.le_of_ble_eq_true rfl⟩ rfl rfl [0, 1, 2, 3, 4, 5, 6, 7, 8, 9, 10, 11, 12, 13] [] rfl rfl rfl rfl (by decide) rfl rfl hl.1 (Nat.le_of_ble_eq_true rfl) dX8_swap_4 ⟨Nat.zero_le _, Nat.zero_le _⟩ ⟨rfl, rfl⟩ (fun r u H locs hp hI => ?_)
  replace hp : r = o1 := hp
  rw [hp]
  clear hp
  replace hI : WI D A s.heap (wM cI cJ cZ m0 m1 m2 m3 m4 m5 m6 m7 m8 m9 m10 m11 m12 m13 M_posts M_roads M_size M_rows M_nextRows M_first M_second M_number_0 M_lists M_square M_fan M_trial M_touching M_having M_most M_only M_can M_next) H locs := hI
  refine lv_if_ne (tgt := 13) hx hb dX8_swap_7 (by decide) (fun hc => ?_) (fun hc => ?_)
  · replace hf := ite_f hc hf
    refine lv_aload_n hx hb dX8_swap_13 rfl (lv_at hl 0 rfl) ?_
    refine lv_iload_n hx hb dX8_swap_14 rfl (lv_at hl 1 rfl) ?_
    refine lv_iload_n hx hb dX8_swap_15 rfl (lv_at hl 2 rfl) ?_
    refine lv_iload_n hx hb dX8_swap_16 rfl (lv_at hl 3 rfl) ?_
    obtain ⟨o2, ho2, hf⟩ := bd_e hf
    refine w_Vi0 (wc := (wM cI cJ cZ m0 m1 m2 m3 m4 m5 m6 m7 m8 m9 m10 m11 m12 m13 M_posts M_roads M_size M_rows M_nextRows M_first M_second M_number_0 M_lists M_square M_fan M_trial M_touching M_having M_most M_only M_can M_next)) (wr := []) (rest := []) hx hb hml hg hown hK hA hI (kX8_chainOf l D cI cJ cZ m0 m1 m2 m3 m4 m5 m6 m7 m8 m9 m10 m11 m12 m13 M_posts M_roads M_size M_rows M_nextRows M_first M_second M_number_0 M_lists M_square M_fan M_trial M_touching M_having M_most M_only M_can M_next a1 a2 a3 o2 ho2) kvX8_chainOf wL_RX8_103 ⟨Nat.le_of_ble_eq_true rfl, Nat.le_of_ble_eq_true rfl⟩ rfl rfl [0, 1, 2, 3, 4, 5, 6, 7, 8, 9, 10, 11, 12, 13] [] rfl rfl rfl rfl (by decide) rfl rfl hl.1 (Nat.le_of_ble_eq_true rfl) dX8_swap_17 ⟨Nat.zero_le _, Nat.zero_le _⟩ ⟨rfl, rfl⟩ (fun r u H locs hp hI => ?_)
    replace hp : r = o2 := hp
    rw [hp]
    clear hp
    replace hI : WI D A s.heap (wM cI cJ cZ m0 m1 m2 m3 m4 m5 m6 m7 m8 m9 m10 m11 m12 m13 M_posts M_roads M_size M_rows M_nextRows M_first M_second M_number_0 M_lists M_square M_fan M_trial M_touching M_having M_most M_only M_can M_next) H locs := hI
    refine lv_istore (lv' := [(4, .int o2), (0, .ref m0), (1, .int a1), (2, .int a2), (3, .int a3)]) hx hb dX8_swap_20 hl (by decide) rfl (fun ls hl => ?_)
    refine lv_aload_n hx hb dX8_swap_22 rfl (lv_at hl 1 rfl) ?_
    refine lv_iload hx hb dX8_swap_23 (lv_at hl 0 rfl) ?_
    refine lv_iload_n hx hb dX8_swap_25 rfl (lv_at hl 3 rfl) ?_
    refine lv_iload_n hx hb dX8_swap_26 rfl (lv_at hl 4 rfl) ?_
    obtain ⟨o3, ho3, hf⟩ := bd_e hf
    refine w_Vv0 (wc := (wM cI cJ cZ m0 m1 m2 m3 m4 m5 m6 m7 m8 m9 m10 m11 m12 m13 M_posts M_roads M_size M_rows M_nextRows M_first M_second M_number_0 M_lists M_square M_fan M_trial M_touching M_having M_most M_only M_can M_next)) (wr := []) (rest := []) hx hb hml hg hown hK hA hI (kX8_swapped l D cI cJ cZ m0 m1 m2 m3 m4 m5 m6 m7 m8 m9 m10 m11 m12 m13 M_posts M_roads M_size M_rows M_nextRows M_first M_second M_number_0 M_lists M_square M_fan M_trial M_touching M_having M_most M_only M_can M_next o2 a2 a3 o3 ho3) kvX8_swapped wL_RX8_110 ⟨Nat.le_of_ble_eq_true rfl, Nat.le_of_ble_eq_true rfl⟩ rfl rfl [0, 1, 2, 3, 4, 5, 6, 7, 8, 9, 10, 11, 12, 13] [] rfl rfl rfl rfl (by decide) rfl rfl hl.1 (Nat.le_of_ble_eq_true rfl) dX8_swap_27 ⟨Nat.zero_le _, Nat.zero_le _⟩ ⟨rfl, rfl⟩ (fun  u H locs hp hI => ?_)
    replace hI : WI D A s.heap (wM cI cJ cZ m0 m1 m2 m3 m4 m5 m6 m7 m8 m9 m10 m11 m12 m13 M_posts M_roads M_size M_rows M_nextRows M_first M_second o3 M_lists M_square M_fan M_trial M_touching M_having M_most M_only M_can M_next) H locs := hI
    refine lv_iload hx hb dX8_swap_30 (lv_at hl 0 rfl) ?_
    obtain ⟨x4, hx4, hf⟩ := bd_e hf
    refine w_S (rest := []) hx hb hml hg hown hK (kX8_ones l D cI cJ cZ o2 x4 hx4) ksX8_ones wL_RX8_107 ⟨Nat.le_of_ble_eq_true rfl, Nat.le_of_ble_eq_true rfl⟩ ⟨rfl, rfl⟩ rfl rfl hl.1 (Nat.le_of_ble_eq_true rfl) dX8_swap_32 ⟨Nat.zero_le _, Nat.zero_le _⟩ ?_
    replace hf := Option.some.inj hf
    subst hf
    replace hM : (x4, o3) = out := hM
    subst hM
    exact rt_i (u := ()) hx hb hr hlocks rfl hI hAe rfl dX8_swap_35
  · replace hf := ite_t hc hf
    refine lv_bipush (v := -2) hx hb dX8_swap_10 (by decide) ?_
    replace hf := Option.some.inj hf
    subst hf
    replace hM : ((-2 : Int32), M_number_0) = out := hM
    subst hM
    exact rt_i (u := ()) hx hb hr hlocks rfl hI hAe rfl dX8_swap_12
noncomputable def X8_fullOf_L4 (M_posts : Int32) (M_roads : Int32) (M_first : Nat → Int32) (M_second : Nat → Int32) (v : Int32 × Int32) : Option ((Int32 × Int32) ⊕ (Int32)) :=
  if M_posts ≤ v.2 then (some (.inr v.1)) else ((FX8_roadsAt M_roads M_first M_second v.2).bind (fun o1 => if o1 ≤ v.1 then (bnd (v.2 + (1 : Int32)) (fun x2 => some (.inl (v.1, x2)))) else ((FX8_roadsAt M_roads M_first M_second v.2).bind (fun o3 => bnd (v.2 + (1 : Int32)) (fun x4 => some (.inl (o3, x4)))))))
noncomputable def FX8_fullOf (M_posts : Int32) (M_roads : Int32) (M_first : Nat → Int32) (M_second : Nat → Int32)  : Option (Int32) :=
  loopO (X8_fullOf_L4 M_posts M_roads M_first M_second) ((0 : Int32), (0 : Int32))
abbrev GX8_fullOf (p : Program) (l : Launch) (e : Env) (s : State) (m : MethodId) (below : List Frame) (meth : Method) (c : Code) (D : va_G) (cI cJ cZ : ClassId) (m0 m1 m2 m3 m4 m5 m6 m7 m8 m9 m10 m11 m12 m13 : Nat) (M_posts : Int32) (M_roads : Int32) (M_size : Int32) (M_rows : Int32) (M_nextRows : Int32) (M_first : Nat → Int32) (M_second : Nat → Int32) (M_number : Nat → Int32) (M_lists : Nat → Int32) (M_square : Nat → Int32) (M_fan : Nat → Int32) (M_trial : Nat → Int32) (M_touching : Nat → Int32) (M_having : Nat → Int32) (M_most : Nat → Int32) (M_only : Nat → Int32) (M_can : Nat → Int32) (M_next : Nat → Int32)  (out : Int32) (H : Heap) (locs : List Loc) (g : JFrame) : Prop := W p l e (headSpec (Cond.code yX8_fullOf cX8_fullOf 3 (some .int) :: GW) { frames := 2, cells := 0, slots := 0, locals := 45 }).room s m ([.ref m0] : List Value).toArray below meth c H locs 0 0 (MQ below (va_Qi (fun r (_ : Unit) => r = out) (BW D (wM cI cJ cZ m0 m1 m2 m3 m4 m5 m6 m7 m8 m9 m10 m11 m12 m13 M_posts M_roads M_size M_rows M_nextRows M_first M_second M_number M_lists M_square M_fan M_trial M_touching M_having M_most M_only M_can M_next) s.heap.size (fun _ => (wM cI cJ cZ m0 m1 m2 m3 m4 m5 m6 m7 m8 m9 m10 m11 m12 m13 M_posts M_roads M_size M_rows M_nextRows M_first M_second M_number M_lists M_square M_fan M_trial M_touching M_having M_most M_only M_can M_next))) (va_A (wM cI cJ cZ m0 m1 m2 m3 m4 m5 m6 m7 m8 m9 m10 m11 m12 m13 M_posts M_roads M_size M_rows M_nextRows M_first M_second M_number M_lists M_square M_fan M_trial M_touching M_having M_most M_only M_can M_next) s.heap.size)) ([.ref m0] : List Value).toArray s 0 0 (va_A (wM cI cJ cZ m0 m1 m2 m3 m4 m5 m6 m7 m8 m9 m10 m11 m12 m13 M_posts M_roads M_size M_rows M_nextRows M_first M_second M_number M_lists M_square M_fan M_trial M_touching M_having M_most M_only M_can M_next) s.heap.size)) g
theorem kvX8_fullOf : CalV RX8 yX8_fullOf cX8_fullOf 3 (some .int) 0 := ⟨wC_yX8_fullOf, wM_yX8_fullOf, wS_yX8_fullOf, wI_RX8, by decide +kernel⟩
set_option maxHeartbeats 4000000 in
set_option maxRecDepth 100000 in
theorem kX8_fullOf (l : Launch) (D : va_G) (cI cJ cZ : ClassId) (m0 m1 m2 m3 m4 m5 m6 m7 m8 m9 m10 m11 m12 m13 : Nat) (M_posts : Int32) (M_roads : Int32) (M_size : Int32) (M_rows : Int32) (M_nextRows : Int32) (M_first : Nat → Int32) (M_second : Nat → Int32) (M_number : Nat → Int32) (M_lists : Nat → Int32) (M_square : Nat → Int32) (M_fan : Nat → Int32) (M_trial : Nat → Int32) (M_touching : Nat → Int32) (M_having : Nat → Int32) (M_most : Nat → Int32) (M_only : Nat → Int32) (M_can : Nat → Int32) (M_next : Nat → Int32)  (out : Int32) (hf : FX8_fullOf M_posts M_roads M_first M_second = some out) : MI l yX8_fullOf (Cond.code yX8_fullOf cX8_fullOf 3 (some .int) :: GW) { frames := 2, cells := 0, slots := 0, locals := 45 } D cI cJ cZ [.ref m0] (wM cI cJ cZ m0 m1 m2 m3 m4 m5 m6 m7 m8 m9 m10 m11 m12 m13 M_posts M_roads M_size M_rows M_nextRows M_first M_second M_number M_lists M_square M_fan M_trial M_touching M_having M_most M_only M_can M_next) (fun r (_ : Unit) => r = out) (fun _ => (wM cI cJ cZ m0 m1 m2 m3 m4 m5 m6 m7 m8 m9 m10 m11 m12 m13 M_posts M_roads M_size M_rows M_nextRows M_first M_second M_number M_lists M_square M_fan M_trial M_touching M_having M_most M_only M_can M_next)) := by
  intro sz
  refine Met.ofW (cc := cX8_fullOf) (maxL := 3) (ret := (some .int)) (by decide +kernel) rfl ?_
  intro p e s m args below meth c s₁ B hml hv
  obtain ⟨rfl, hsz, hP, hK, hD0⟩ := hv
  have hx := B.exec
  have hb := B.bytes
  have hr := B.returns
  have hlocks := B.notSynchronized
  have hg : ∀ w ∈ GW, w.before _ s = true := fun w h => atoms_spec (ws := Cond.code yX8_fullOf cX8_fullOf 3 (some .int) :: GW) B.pre w (List.mem_cons_of_mem _ h)
  have hown : s.vm.findClass RX8 = some m.cls := findClass_of_methodNamed B.named
  subst hsz
  obtain ⟨A, hAe⟩ : ∃ A, A = va_A (wM cI cJ cZ m0 m1 m2 m3 m4 m5 m6 m7 m8 m9 m10 m11 m12 m13 M_posts M_roads M_size M_rows M_nextRows M_first M_second M_number M_lists M_square M_fan M_trial M_touching M_having M_most M_only M_can M_next) s.heap.size := ⟨_, rfl⟩
  have hA : ∀ q : Nat, s.heap.size ≤ q → A q := fun q h => by rw [hAe]; exact Or.inr h
  have hI : WI D A s.heap (wM cI cJ cZ m0 m1 m2 m3 m4 m5 m6 m7 m8 m9 m10 m11 m12 m13 M_posts M_roads M_size M_rows M_nextRows M_first M_second M_number M_lists M_square M_fan M_trial M_touching M_having M_most M_only M_can M_next) s.heap [] := ⟨hP, by rw [hAe]; exact hD0.self, va_S.rf⟩
  have hl := lv_entry [.ref m0] (n := 3) (Nat.le_of_ble_eq_true rfl)
  rw [lg_entry_eq]
  generalize (lg_sl [.ref m0] ++ List.replicate (3 - (lg_sl [.ref m0]).length) Slot.unset).toArray = ls at hl ⊢
  replace hl : lv_has ls 3 [(0, .ref m0)] := hl
  have L4 : ∀ (v : Int32 × Int32) (x : Int32), loopO (X8_fullOf_L4 M_posts M_roads M_first M_second) v = some x → (fun z : Int32 => z = out) x → (fun (v : Int32 × Int32) => ∀ (H : Heap) (locs : List Loc) (ls : Array Slot), WI D A s.heap (wM cI cJ cZ m0 m1 m2 m3 m4 m5 m6 m7 m8 m9 m10 m11 m12 m13 M_posts M_roads M_size M_rows M_nextRows M_first M_second M_number M_lists M_square M_fan M_trial M_touching M_having M_most M_only M_can M_next) H locs → lv_has ls 3 [(0, .ref m0), (1, .int v.1), (2, .int v.2)] → GX8_fullOf p l e s m below meth c D cI cJ cZ m0 m1 m2 m3 m4 m5 m6 m7 m8 m9 m10 m11 m12 m13 M_posts M_roads M_size M_rows M_nextRows M_first M_second M_number M_lists M_square M_fan M_trial M_touching M_having M_most M_only M_can M_next  out H locs (F0 m 4 ls [])) v := by
    refine loopO_ind (fun (v : Int32 × Int32) => ∀ (H : Heap) (locs : List Loc) (ls : Array Slot), WI D A s.heap (wM cI cJ cZ m0 m1 m2 m3 m4 m5 m6 m7 m8 m9 m10 m11 m12 m13 M_posts M_roads M_size M_rows M_nextRows M_first M_second M_number M_lists M_square M_fan M_trial M_touching M_having M_most M_only M_can M_next) H locs → lv_has ls 3 [(0, .ref m0), (1, .int v.1), (2, .int v.2)] → GX8_fullOf p l e s m below meth c D cI cJ cZ m0 m1 m2 m3 m4 m5 m6 m7 m8 m9 m10 m11 m12 m13 M_posts M_roads M_size M_rows M_nextRows M_first M_second M_number M_lists M_square M_fan M_trial M_touching M_having M_most M_only M_can M_next  out H locs (F0 m 4 ls [])) (fun z : Int32 => z = out) ?_
    intro v x hf hM H locs ls hI hl
    refine lv_iload_n hx hb dX8_fullOf_4 rfl (lv_at hl 2 rfl) ?_
    refine lv_aload_n hx hb dX8_fullOf_5 rfl (lv_at hl 0 rfl) ?_
    refine w_get hx hb hg hown hK hI iX8 0 rfl rfl 0 (by decide) wF_RX8_68 rfl dX8_fullOf_6 ?_
    refine lv_icmp_ge (tgt := 37) hx hb dX8_fullOf_9 (by decide) (fun hc => ?_) (fun hc => ?_)
    · replace hf := ite_t hc hf
      refine lv_iload_n hx hb dX8_fullOf_37 rfl (lv_at hl 1 rfl) ?_
      replace hf := Option.some.inj hf
      subst hf
      replace hM : v.1 = out := hM
      subst hM
      exact rt_i (u := ()) hx hb hr hlocks rfl hI hAe rfl dX8_fullOf_38
    · replace hf := ite_f hc hf
      refine lv_aload_n hx hb dX8_fullOf_12 rfl (lv_at hl 0 rfl) ?_
      refine lv_iload_n hx hb dX8_fullOf_13 rfl (lv_at hl 2 rfl) ?_
      obtain ⟨o1, ho1, hf⟩ := bd_e hf
      refine w_Vi0 (wc := (wM cI cJ cZ m0 m1 m2 m3 m4 m5 m6 m7 m8 m9 m10 m11 m12 m13 M_posts M_roads M_size M_rows M_nextRows M_first M_second M_number M_lists M_square M_fan M_trial M_touching M_having M_most M_only M_can M_next)) (wr := []) (rest := []) hx hb hml hg hown hK hA hI (kX8_roadsAt l D cI cJ cZ m0 m1 m2 m3 m4 m5 m6 m7 m8 m9 m10 m11 m12 m13 M_posts M_roads M_size M_rows M_nextRows M_first M_second M_number M_lists M_square M_fan M_trial M_touching M_having M_most M_only M_can M_next v.2 o1 ho1) kvX8_roadsAt wL_RX8_80 ⟨Nat.le_of_ble_eq_true rfl, Nat.le_of_ble_eq_true rfl⟩ rfl rfl [0, 1, 2, 3, 4, 5, 6, 7, 8, 9, 10, 11, 12, 13] [] rfl rfl rfl rfl (by decide) rfl rfl hl.1 (Nat.le_of_ble_eq_true rfl) dX8_fullOf_14 ⟨Nat.zero_le _, Nat.zero_le _⟩ ⟨rfl, rfl⟩ (fun r u H locs hp hI => ?_)
      replace hp : r = o1 := hp
      rw [hp]
      clear hp
      replace hI : WI D A s.heap (wM cI cJ cZ m0 m1 m2 m3 m4 m5 m6 m7 m8 m9 m10 m11 m12 m13 M_posts M_roads M_size M_rows M_nextRows M_first M_second M_number M_lists M_square M_fan M_trial M_touching M_having M_most M_only M_can M_next) H locs := hI
      refine lv_iload_n hx hb dX8_fullOf_17 rfl (lv_at hl 1 rfl) ?_
      refine lv_icmp_le (tgt := 29) hx hb dX8_fullOf_18 (by decide) (fun hc => ?_) (fun hc => ?_)
      · replace hf := ite_t hc hf
        refine lv_iload_n hx hb dX8_fullOf_29 rfl (lv_at hl 1 rfl) ?_
        refine lv_istore_n (lv' := [(1, .int v.1), (0, .ref m0), (2, .int v.2)]) hx hb dX8_fullOf_30 rfl hl (by decide) rfl (fun ls hl => ?_)
        obtain ⟨x2, ex2⟩ : ∃ y : Int32, y = (v.2 + (1 : Int32)) := ⟨_, rfl⟩
        replace hf := bnd_e hf x2 ex2
        refine lv_iinc (v := x2) (lv' := [(2, .int x2), (1, .int v.1), (0, .ref m0)]) hx hb dX8_fullOf_31 hl (k := 2) rfl (by rw [ex2]; rfl) (by decide) rfl (fun ls hl => ?_)
        refine lv_goto (tgt := 4) hx hb dX8_fullOf_34 (by decide) ?_
        replace hf := Option.some.inj hf
        subst hf
        exact hM _ _ _ hI (lv_sub hl [2, 1, 0] rfl)
      · replace hf := ite_f hc hf
        refine lv_aload_n hx hb dX8_fullOf_21 rfl (lv_at hl 0 rfl) ?_
        refine lv_iload_n hx hb dX8_fullOf_22 rfl (lv_at hl 2 rfl) ?_
        obtain ⟨o3, ho3, hf⟩ := bd_e hf
        refine w_Vi0 (wc := (wM cI cJ cZ m0 m1 m2 m3 m4 m5 m6 m7 m8 m9 m10 m11 m12 m13 M_posts M_roads M_size M_rows M_nextRows M_first M_second M_number M_lists M_square M_fan M_trial M_touching M_having M_most M_only M_can M_next)) (wr := []) (rest := []) hx hb hml hg hown hK hA hI (kX8_roadsAt l D cI cJ cZ m0 m1 m2 m3 m4 m5 m6 m7 m8 m9 m10 m11 m12 m13 M_posts M_roads M_size M_rows M_nextRows M_first M_second M_number M_lists M_square M_fan M_trial M_touching M_having M_most M_only M_can M_next v.2 o3 ho3) kvX8_roadsAt wL_RX8_80 ⟨Nat.le_of_ble_eq_true rfl, Nat.le_of_ble_eq_true rfl⟩ rfl rfl [0, 1, 2, 3, 4, 5, 6, 7, 8, 9, 10, 11, 12, 13] [] rfl rfl rfl rfl (by decide) rfl rfl hl.1 (Nat.le_of_ble_eq_true rfl) dX8_fullOf_23 ⟨Nat.zero_le _, Nat.zero_le _⟩ ⟨rfl, rfl⟩ (fun r u H locs hp hI => ?_)
        replace hp : r = o3 := hp
        rw [hp]
        clear hp
        replace hI : WI D A s.heap (wM cI cJ cZ m0 m1 m2 m3 m4 m5 m6 m7 m8 m9 m10 m11 m12 m13 M_posts M_roads M_size M_rows M_nextRows M_first M_second M_number M_lists M_square M_fan M_trial M_touching M_having M_most M_only M_can M_next) H locs := hI
        refine lv_goto (tgt := 30) hx hb dX8_fullOf_26 (by decide) ?_
        refine lv_istore_n (lv' := [(1, .int o3), (0, .ref m0), (2, .int v.2)]) hx hb dX8_fullOf_30 rfl hl (by decide) rfl (fun ls hl => ?_)
        obtain ⟨x4, ex4⟩ : ∃ y : Int32, y = (v.2 + (1 : Int32)) := ⟨_, rfl⟩
        replace hf := bnd_e hf x4 ex4
        refine lv_iinc (v := x4) (lv' := [(2, .int x4), (1, .int o3), (0, .ref m0)]) hx hb dX8_fullOf_31 hl (k := 2) rfl (by rw [ex4]; rfl) (by decide) rfl (fun ls hl => ?_)
        refine lv_goto (tgt := 4) hx hb dX8_fullOf_34 (by decide) ?_
        replace hf := Option.some.inj hf
        subst hf
        exact hM _ _ _ hI (lv_sub hl [2, 1, 0] rfl)
  obtain ⟨x, hf, hM⟩ : ∃ x, FX8_fullOf M_posts M_roads M_first M_second = some x ∧ x = out := ⟨out, hf, rfl⟩
  refine lv_iconst (v := 0) hx hb dX8_fullOf_0 (by decide) ?_
  refine lv_istore_n (lv' := [(1, .int (0 : Int32)), (0, .ref m0)]) hx hb dX8_fullOf_1 rfl hl (by decide) rfl (fun ls hl => ?_)
  refine lv_iconst (v := 0) hx hb dX8_fullOf_2 (by decide) ?_
  refine lv_istore_n (lv' := [(2, .int (0 : Int32)), (1, .int (0 : Int32)), (0, .ref m0)]) hx hb dX8_fullOf_3 rfl hl (by decide) rfl (fun ls hl => ?_)
  exact L4  ((0 : Int32), (0 : Int32)) _ hf hM _ _ _ hI (lv_sub hl [2, 1, 0] rfl)
noncomputable def X8_isPlain_L12 (M_roads : Int32) (M_first : Nat → Int32) (M_second : Nat → Int32) (l1 : Int32) (v : Int32) : Option ((Int32) ⊕ ((Int32) ⊕ (Int32))) :=
  if l1 ≤ v then (bnd (l1 + (1 : Int32)) (fun x1 => some (.inr (.inl x1)))) else (rd M_first 24 v (fun x2 => (FX8_ends M_first M_second l1 x2).bind (fun o3 => if o3 = (0 : Int32) then (bnd (v + (1 : Int32)) (fun x4 => some (.inl x4))) else (rd M_second 24 v (fun x5 => (FX8_ends M_first M_second l1 x5).bind (fun o6 => if o6 = (0 : Int32) then (bnd (v + (1 : Int32)) (fun x7 => some (.inl x7))) else (some (.inr (.inr (0 : Int32))))))))))
noncomputable def X8_isPlain_L2 (M_roads : Int32) (M_first : Nat → Int32) (M_second : Nat → Int32) (v : Int32) : Option ((Int32) ⊕ (Int32)) :=
  if M_roads ≤ v then (some (.inr (1 : Int32))) else (loopO (X8_isPlain_L12 M_roads M_first M_second v) (0 : Int32))
noncomputable def FX8_isPlain (M_roads : Int32) (M_first : Nat → Int32) (M_second : Nat → Int32)  : Option (Int32) :=
  loopO (X8_isPlain_L2 M_roads M_first M_second) (0 : Int32)
abbrev GX8_isPlain (p : Program) (l : Launch) (e : Env) (s : State) (m : MethodId) (below : List Frame) (meth : Method) (c : Code) (D : va_G) (cI cJ cZ : ClassId) (m0 m1 m2 m3 m4 m5 m6 m7 m8 m9 m10 m11 m12 m13 : Nat) (M_posts : Int32) (M_roads : Int32) (M_size : Int32) (M_rows : Int32) (M_nextRows : Int32) (M_first : Nat → Int32) (M_second : Nat → Int32) (M_number : Nat → Int32) (M_lists : Nat → Int32) (M_square : Nat → Int32) (M_fan : Nat → Int32) (M_trial : Nat → Int32) (M_touching : Nat → Int32) (M_having : Nat → Int32) (M_most : Nat → Int32) (M_only : Nat → Int32) (M_can : Nat → Int32) (M_next : Nat → Int32)  (out : Int32) (H : Heap) (locs : List Loc) (g : JFrame) : Prop := W p l e (headSpec (Cond.code yX8_isPlain cX8_isPlain 3 (some .boolean) :: GW) { frames := 1, cells := 0, slots := 0, locals := 22 }).room s m ([.ref m0] : List Value).toArray below meth c H locs 0 0 (MQ below (va_Qi (fun r (_ : Unit) => r = out) (BW D (wM cI cJ cZ m0 m1 m2 m3 m4 m5 m6 m7 m8 m9 m10 m11 m12 m13 M_posts M_roads M_size M_rows M_nextRows M_first M_second M_number M_lists M_square M_fan M_trial M_touching M_having M_most M_only M_can M_next) s.heap.size (fun _ => (wM cI cJ cZ m0 m1 m2 m3 m4 m5 m6 m7 m8 m9 m10 m11 m12 m13 M_posts M_roads M_size M_rows M_nextRows M_first M_second M_number M_lists M_square M_fan M_trial M_touching M_having M_most M_only M_can M_next))) (va_A (wM cI cJ cZ m0 m1 m2 m3 m4 m5 m6 m7 m8 m9 m10 m11 m12 m13 M_posts M_roads M_size M_rows M_nextRows M_first M_second M_number M_lists M_square M_fan M_trial M_touching M_having M_most M_only M_can M_next) s.heap.size)) ([.ref m0] : List Value).toArray s 0 0 (va_A (wM cI cJ cZ m0 m1 m2 m3 m4 m5 m6 m7 m8 m9 m10 m11 m12 m13 M_posts M_roads M_size M_rows M_nextRows M_first M_second M_number M_lists M_square M_fan M_trial M_touching M_having M_most M_only M_can M_next) s.heap.size)) g
theorem kvX8_isPlain : CalV RX8 yX8_isPlain cX8_isPlain 3 (some .boolean) 0 := ⟨wC_yX8_isPlain, wM_yX8_isPlain, wS_yX8_isPlain, wI_RX8, by decide +kernel⟩
set_option maxHeartbeats 4000000 in
set_option maxRecDepth 100000 in
theorem kX8_isPlain (l : Launch) (D : va_G) (cI cJ cZ : ClassId) (m0 m1 m2 m3 m4 m5 m6 m7 m8 m9 m10 m11 m12 m13 : Nat) (M_posts : Int32) (M_roads : Int32) (M_size : Int32) (M_rows : Int32) (M_nextRows : Int32) (M_first : Nat → Int32) (M_second : Nat → Int32) (M_number : Nat → Int32) (M_lists : Nat → Int32) (M_square : Nat → Int32) (M_fan : Nat → Int32) (M_trial : Nat → Int32) (M_touching : Nat → Int32) (M_having : Nat → Int32) (M_most : Nat → Int32) (M_only : Nat → Int32) (M_can : Nat → Int32) (M_next : Nat → Int32)  (out : Int32) (hf : FX8_isPlain M_roads M_first M_second = some out) : MI l yX8_isPlain (Cond.code yX8_isPlain cX8_isPlain 3 (some .boolean) :: GW) { frames := 1, cells := 0, slots := 0, locals := 22 } D cI cJ cZ [.ref m0] (wM cI cJ cZ m0 m1 m2 m3 m4 m5 m6 m7 m8 m9 m10 m11 m12 m13 M_posts M_roads M_size M_rows M_nextRows M_first M_second M_number M_lists M_square M_fan M_trial M_touching M_having M_most M_only M_can M_next) (fun r (_ : Unit) => r = out) (fun _ => (wM cI cJ cZ m0 m1 m2 m3 m4 m5 m6 m7 m8 m9 m10 m11 m12 m13 M_posts M_roads M_size M_rows M_nextRows M_first M_second M_number M_lists M_square M_fan M_trial M_touching M_having M_most M_only M_can M_next)) := by
  intro sz
  refine Met.ofW (cc := cX8_isPlain) (maxL := 3) (ret := (some .boolean)) (by decide +kernel) rfl ?_
  intro p e s m args below meth c s₁ B hml hv
  obtain ⟨rfl, hsz, hP, hK, hD0⟩ := hv
  have hx := B.exec
  have hb := B.bytes
  have hr := B.returns
  have hlocks := B.notSynchronized
  have hg : ∀ w ∈ GW, w.before _ s = true := fun w h => atoms_spec (ws := Cond.code yX8_isPlain cX8_isPlain 3 (some .boolean) :: GW) B.pre w (List.mem_cons_of_mem _ h)
  have hown : s.vm.findClass RX8 = some m.cls := findClass_of_methodNamed B.named
  subst hsz
  obtain ⟨A, hAe⟩ : ∃ A, A = va_A (wM cI cJ cZ m0 m1 m2 m3 m4 m5 m6 m7 m8 m9 m10 m11 m12 m13 M_posts M_roads M_size M_rows M_nextRows M_first M_second M_number M_lists M_square M_fan M_trial M_touching M_having M_most M_only M_can M_next) s.heap.size := ⟨_, rfl⟩
  have hA : ∀ q : Nat, s.heap.size ≤ q → A q := fun q h => by rw [hAe]; exact Or.inr h
  have hI : WI D A s.heap (wM cI cJ cZ m0 m1 m2 m3 m4 m5 m6 m7 m8 m9 m10 m11 m12 m13 M_posts M_roads M_size M_rows M_nextRows M_first M_second M_number M_lists M_square M_fan M_trial M_touching M_having M_most M_only M_can M_next) s.heap [] := ⟨hP, by rw [hAe]; exact hD0.self, va_S.rf⟩
  have hl := lv_entry [.ref m0] (n := 3) (Nat.le_of_ble_eq_true rfl)
  rw [lg_entry_eq]
  generalize (lg_sl [.ref m0] ++ List.replicate (3 - (lg_sl [.ref m0]).length) Slot.unset).toArray = ls at hl ⊢
  replace hl : lv_has ls 3 [(0, .ref m0)] := hl
  have L12 : ∀ (l1 : Int32), ∀ (v : Int32) (x : (Int32) ⊕ (Int32)), loopO (X8_isPlain_L12 M_roads M_first M_second l1) v = some x → (fun z => Sum.elim (fun (v1 : Int32) => ∀ (H : Heap) (locs : List Loc) (ls : Array Slot), WI D A s.heap (wM cI cJ cZ m0 m1 m2 m3 m4 m5 m6 m7 m8 m9 m10 m11 m12 m13 M_posts M_roads M_size M_rows M_nextRows M_first M_second M_number M_lists M_square M_fan M_trial M_touching M_having M_most M_only M_can M_next) H locs → lv_has ls 3 [(0, .ref m0), (1, .int v1)] → GX8_isPlain p l e s m below meth c D cI cJ cZ m0 m1 m2 m3 m4 m5 m6 m7 m8 m9 m10 m11 m12 m13 M_posts M_roads M_size M_rows M_nextRows M_first M_second M_number M_lists M_square M_fan M_trial M_touching M_having M_most M_only M_can M_next  out H locs (F0 m 2 ls [])) (fun z : Int32 => z = out) z) x → (fun (v : Int32) => ∀ (H : Heap) (locs : List Loc) (ls : Array Slot), WI D A s.heap (wM cI cJ cZ m0 m1 m2 m3 m4 m5 m6 m7 m8 m9 m10 m11 m12 m13 M_posts M_roads M_size M_rows M_nextRows M_first M_second M_number M_lists M_square M_fan M_trial M_touching M_having M_most M_only M_can M_next) H locs → lv_has ls 3 [(0, .ref m0), (1, .int l1), (2, .int v)] → GX8_isPlain p l e s m below meth c D cI cJ cZ m0 m1 m2 m3 m4 m5 m6 m7 m8 m9 m10 m11 m12 m13 M_posts M_roads M_size M_rows M_nextRows M_first M_second M_number M_lists M_square M_fan M_trial M_touching M_having M_most M_only M_can M_next  out H locs (F0 m 12 ls [])) v := by
    intro l1
    refine loopO_ind (fun (v : Int32) => ∀ (H : Heap) (locs : List Loc) (ls : Array Slot), WI D A s.heap (wM cI cJ cZ m0 m1 m2 m3 m4 m5 m6 m7 m8 m9 m10 m11 m12 m13 M_posts M_roads M_size M_rows M_nextRows M_first M_second M_number M_lists M_square M_fan M_trial M_touching M_having M_most M_only M_can M_next) H locs → lv_has ls 3 [(0, .ref m0), (1, .int l1), (2, .int v)] → GX8_isPlain p l e s m below meth c D cI cJ cZ m0 m1 m2 m3 m4 m5 m6 m7 m8 m9 m10 m11 m12 m13 M_posts M_roads M_size M_rows M_nextRows M_first M_second M_number M_lists M_square M_fan M_trial M_touching M_having M_most M_only M_can M_next  out H locs (F0 m 12 ls [])) (fun z => Sum.elim (fun (v1 : Int32) => ∀ (H : Heap) (locs : List Loc) (ls : Array Slot), WI D A s.heap (wM cI cJ cZ m0 m1 m2 m3 m4 m5 m6 m7 m8 m9 m10 m11 m12 m13 M_posts M_roads M_size M_rows M_nextRows M_first M_second M_number M_lists M_square M_fan M_trial M_touching M_having M_most M_only M_can M_next) H locs → lv_has ls 3 [(0, .ref m0), (1, .int v1)] → GX8_isPlain p l e s m below meth c D cI cJ cZ m0 m1 m2 m3 m4 m5 m6 m7 m8 m9 m10 m11 m12 m13 M_posts M_roads M_size M_rows M_nextRows M_first M_second M_number M_lists M_square M_fan M_trial M_touching M_having M_most M_only M_can M_next  out H locs (F0 m 2 ls [])) (fun z : Int32 => z = out) z) ?_
    intro v x hf hM H locs ls hI hl
    refine lv_iload_n hx hb dX8_isPlain_12 rfl (lv_at hl 2 rfl) ?_
    refine lv_iload_n hx hb dX8_isPlain_13 rfl (lv_at hl 1 rfl) ?_
    refine lv_icmp_ge (tgt := 53) hx hb dX8_isPlain_14 (by decide) (fun hc => ?_) (fun hc => ?_)
    · replace hf := ite_t hc hf
      obtain ⟨x1, ex1⟩ : ∃ y : Int32, y = (l1 + (1 : Int32)) := ⟨_, rfl⟩
      replace hf := bnd_e hf x1 ex1
      refine lv_iinc (v := x1) (lv' := [(1, .int x1), (0, .ref m0), (2, .int v)]) hx hb dX8_isPlain_53 hl (k := 1) rfl (by rw [ex1]; rfl) (by decide) rfl (fun ls hl => ?_)
      refine lv_goto (tgt := 2) hx hb dX8_isPlain_56 (by decide) ?_
      replace hf := Option.some.inj hf
      subst hf
      exact hM _ _ _ hI (lv_sub hl [1, 0] rfl)
    · replace hf := ite_f hc hf
      refine lv_aload_n hx hb dX8_isPlain_17 rfl (lv_at hl 0 rfl) ?_
      refine lv_iload_n hx hb dX8_isPlain_18 rfl (lv_at hl 1 rfl) ?_
      refine lv_aload_n hx hb dX8_isPlain_19 rfl (lv_at hl 0 rfl) ?_
      refine w_get hx hb hg hown hK hI iX8 0 rfl rfl 2 (by decide) wF_RX8_7 rfl dX8_isPlain_20 ?_
      refine lv_iload_n hx hb dX8_isPlain_23 rfl (lv_at hl 2 rfl) ?_
      obtain ⟨hin, hf⟩ := rd_e hf
      refine w_iald hx hb hK hI 1 rfl hin dX8_isPlain_24 (fun x2 ex2 => ?_)
      replace hf := hf x2 ex2
      obtain ⟨o3, ho3, hf⟩ := bd_e hf
      refine w_Vi0 (wc := (wM cI cJ cZ m0 m1 m2 m3 m4 m5 m6 m7 m8 m9 m10 m11 m12 m13 M_posts M_roads M_size M_rows M_nextRows M_first M_second M_number M_lists M_square M_fan M_trial M_touching M_having M_most M_only M_can M_next)) (wr := []) (rest := []) hx hb hml hg hown hK hA hI (kX8_ends l D cI cJ cZ m0 m1 m2 m3 m4 m5 m6 m7 m8 m9 m10 m11 m12 m13 M_posts M_roads M_size M_rows M_nextRows M_first M_second M_number M_lists M_square M_fan M_trial M_touching M_having M_most M_only M_can M_next l1 x2 o3 ho3) kvX8_ends wL_RX8_64 ⟨Nat.le_of_ble_eq_true rfl, Nat.le_of_ble_eq_true rfl⟩ rfl rfl [0, 1, 2, 3, 4, 5, 6, 7, 8, 9, 10, 11, 12, 13] [] rfl rfl rfl rfl (by decide) rfl rfl hl.1 (Nat.le_of_ble_eq_true rfl) dX8_isPlain_25 ⟨Nat.zero_le _, Nat.zero_le _⟩ ⟨rfl, rfl⟩ (fun r u H locs hp hI => ?_)
      replace hp : r = o3 := hp
      rw [hp]
      clear hp
      replace hI : WI D A s.heap (wM cI cJ cZ m0 m1 m2 m3 m4 m5 m6 m7 m8 m9 m10 m11 m12 m13 M_posts M_roads M_size M_rows M_nextRows M_first M_second M_number M_lists M_square M_fan M_trial M_touching M_having M_most M_only M_can M_next) H locs := hI
      refine lv_if_eq (tgt := 47) hx hb dX8_isPlain_28 (by decide) (fun hc => ?_) (fun hc => ?_)
      · replace hf := ite_t hc hf
        obtain ⟨x4, ex4⟩ : ∃ y : Int32, y = (v + (1 : Int32)) := ⟨_, rfl⟩
        replace hf := bnd_e hf x4 ex4
        refine lv_iinc (v := x4) (lv' := [(2, .int x4), (0, .ref m0), (1, .int l1)]) hx hb dX8_isPlain_47 hl (k := 2) rfl (by rw [ex4]; rfl) (by decide) rfl (fun ls hl => ?_)
        refine lv_goto (tgt := 12) hx hb dX8_isPlain_50 (by decide) ?_
        replace hf := Option.some.inj hf
        subst hf
        exact hM _ _ _ hI (lv_sub hl [1, 2, 0] rfl)
      · replace hf := ite_f hc hf
        refine lv_aload_n hx hb dX8_isPlain_31 rfl (lv_at hl 0 rfl) ?_
        refine lv_iload_n hx hb dX8_isPlain_32 rfl (lv_at hl 1 rfl) ?_
        refine lv_aload_n hx hb dX8_isPlain_33 rfl (lv_at hl 0 rfl) ?_
        refine w_get hx hb hg hown hK hI iX8 0 rfl rfl 3 (by decide) wF_RX8_13 rfl dX8_isPlain_34 ?_
        refine lv_iload_n hx hb dX8_isPlain_37 rfl (lv_at hl 2 rfl) ?_
        obtain ⟨hin, hf⟩ := rd_e hf
        refine w_iald hx hb hK hI 2 rfl hin dX8_isPlain_38 (fun x5 ex5 => ?_)
        replace hf := hf x5 ex5
        obtain ⟨o6, ho6, hf⟩ := bd_e hf
        refine w_Vi0 (wc := (wM cI cJ cZ m0 m1 m2 m3 m4 m5 m6 m7 m8 m9 m10 m11 m12 m13 M_posts M_roads M_size M_rows M_nextRows M_first M_second M_number M_lists M_square M_fan M_trial M_touching M_having M_most M_only M_can M_next)) (wr := []) (rest := []) hx hb hml hg hown hK hA hI (kX8_ends l D cI cJ cZ m0 m1 m2 m3 m4 m5 m6 m7 m8 m9 m10 m11 m12 m13 M_posts M_roads M_size M_rows M_nextRows M_first M_second M_number M_lists M_square M_fan M_trial M_touching M_having M_most M_only M_can M_next l1 x5 o6 ho6) kvX8_ends wL_RX8_64 ⟨Nat.le_of_ble_eq_true rfl, Nat.le_of_ble_eq_true rfl⟩ rfl rfl [0, 1, 2, 3, 4, 5, 6, 7, 8, 9, 10, 11, 12, 13] [] rfl rfl rfl rfl (by decide) rfl rfl hl.1 (Nat.le_of_ble_eq_true rfl) dX8_isPlain_39 ⟨Nat.zero_le _, Nat.zero_le _⟩ ⟨rfl, rfl⟩ (fun r u H locs hp hI => ?_)
        replace hp : r = o6 := hp
        rw [hp]
        clear hp
        replace hI : WI D A s.heap (wM cI cJ cZ m0 m1 m2 m3 m4 m5 m6 m7 m8 m9 m10 m11 m12 m13 M_posts M_roads M_size M_rows M_nextRows M_first M_second M_number M_lists M_square M_fan M_trial M_touching M_having M_most M_only M_can M_next) H locs := hI
        refine lv_if_eq (tgt := 47) hx hb dX8_isPlain_42 (by decide) (fun hc => ?_) (fun hc => ?_)
        · replace hf := ite_t hc hf
          obtain ⟨x7, ex7⟩ : ∃ y : Int32, y = (v + (1 : Int32)) := ⟨_, rfl⟩
          replace hf := bnd_e hf x7 ex7
          refine lv_iinc (v := x7) (lv' := [(2, .int x7), (0, .ref m0), (1, .int l1)]) hx hb dX8_isPlain_47 hl (k := 2) rfl (by rw [ex7]; rfl) (by decide) rfl (fun ls hl => ?_)
          refine lv_goto (tgt := 12) hx hb dX8_isPlain_50 (by decide) ?_
          replace hf := Option.some.inj hf
          subst hf
          exact hM _ _ _ hI (lv_sub hl [1, 2, 0] rfl)
        · replace hf := ite_f hc hf
          refine lv_iconst (v := 0) hx hb dX8_isPlain_45 (by decide) ?_
          replace hf := Option.some.inj hf
          subst hf
          replace hM : (0 : Int32) = out := hM
          subst hM
          exact rt_i (u := ()) hx hb hr hlocks (by decide) hI hAe rfl dX8_isPlain_46
  have L2 : ∀ (v : Int32) (x : Int32), loopO (X8_isPlain_L2 M_roads M_first M_second) v = some x → (fun z : Int32 => z = out) x → (fun (v : Int32) => ∀ (H : Heap) (locs : List Loc) (ls : Array Slot), WI D A s.heap (wM cI cJ cZ m0 m1 m2 m3 m4 m5 m6 m7 m8 m9 m10 m11 m12 m13 M_posts M_roads M_size M_rows M_nextRows M_first M_second M_number M_lists M_square M_fan M_trial M_touching M_having M_most M_only M_can M_next) H locs → lv_has ls 3 [(0, .ref m0), (1, .int v)] → GX8_isPlain p l e s m below meth c D cI cJ cZ m0 m1 m2 m3 m4 m5 m6 m7 m8 m9 m10 m11 m12 m13 M_posts M_roads M_size M_rows M_nextRows M_first M_second M_number M_lists M_square M_fan M_trial M_touching M_having M_most M_only M_can M_next  out H locs (F0 m 2 ls [])) v := by
    refine loopO_ind (fun (v : Int32) => ∀ (H : Heap) (locs : List Loc) (ls : Array Slot), WI D A s.heap (wM cI cJ cZ m0 m1 m2 m3 m4 m5 m6 m7 m8 m9 m10 m11 m12 m13 M_posts M_roads M_size M_rows M_nextRows M_first M_second M_number M_lists M_square M_fan M_trial M_touching M_having M_most M_only M_can M_next) H locs → lv_has ls 3 [(0, .ref m0), (1, .int v)] → GX8_isPlain p l e s m below meth c D cI cJ cZ m0 m1 m2 m3 m4 m5 m6 m7 m8 m9 m10 m11 m12 m13 M_posts M_roads M_size M_rows M_nextRows M_first M_second M_number M_lists M_square M_fan M_trial M_touching M_having M_most M_only M_can M_next  out H locs (F0 m 2 ls [])) (fun z : Int32 => z = out) ?_
    intro v x hf hM H locs ls hI hl
    refine lv_iload_n hx hb dX8_isPlain_2 rfl (lv_at hl 1 rfl) ?_
    refine lv_aload_n hx hb dX8_isPlain_3 rfl (lv_at hl 0 rfl) ?_
    refine w_get hx hb hg hown hK hI iX8 0 rfl rfl 1 (by decide) wF_RX8_57 rfl dX8_isPlain_4 ?_
    refine lv_icmp_ge (tgt := 59) hx hb dX8_isPlain_7 (by decide) (fun hc => ?_) (fun hc => ?_)
    · replace hf := ite_t hc hf
      refine lv_iconst (v := 1) hx hb dX8_isPlain_59 (by decide) ?_
      replace hf := Option.some.inj hf
      subst hf
      replace hM : (1 : Int32) = out := hM
      subst hM
      exact rt_i (u := ()) hx hb hr hlocks (by decide) hI hAe rfl dX8_isPlain_60
    · replace hf := ite_f hc hf
      refine lv_iconst (v := 0) hx hb dX8_isPlain_10 (by decide) ?_
      refine lv_istore_n (lv' := [(2, .int (0 : Int32)), (0, .ref m0), (1, .int v)]) hx hb dX8_isPlain_11 rfl hl (by decide) rfl (fun ls hl => ?_)
      exact L12 v (0 : Int32) _ hf hM _ _ _ hI (lv_sub hl [1, 2, 0] rfl)
  obtain ⟨x, hf, hM⟩ : ∃ x, FX8_isPlain M_roads M_first M_second = some x ∧ x = out := ⟨out, hf, rfl⟩
  refine lv_iconst (v := 0) hx hb dX8_isPlain_0 (by decide) ?_
  refine lv_istore_n (lv' := [(1, .int (0 : Int32)), (0, .ref m0)]) hx hb dX8_isPlain_1 rfl hl (by decide) rfl (fun ls hl => ?_)
  exact L2  (0 : Int32) _ hf hM _ _ _ hI (lv_sub hl [1, 0] rfl)
