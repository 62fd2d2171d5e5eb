noncomputable def X8_two_J155 (M_roads : Int32) (M_first : Nat → Int32) (M_second : Nat → Int32) (M_number : Nat → Int32) (l1 : Int32) (l2 : Int32) (l3 : Int32) : Option (((Nat → Int32) × Int32) ⊕ (Int32 × (Nat → Int32))) :=
  wr M_number 24 l2 l3 (fun g3 => bnd (l2 + (1 : Int32)) (fun x4 => some (.inl (g3, x4))))
noncomputable def X8_two_J95 (M_roads : Int32) (M_first : Nat → Int32) (M_second : Nat → Int32) (M_number : Nat → Int32) (l1 : Int32) (l2 : Int32) (l3 : Int32) : Option (((Nat → Int32) × Int32) ⊕ (Int32 × (Nat → Int32))) :=
  if l3 = l1 then (rd M_first 24 l2 (fun x5 => (FX8_leastFree M_roads M_first M_second M_number x5).bind (fun o6 => rd M_second 24 l2 (fun x7 => (FX8_leastFree M_roads M_first M_second M_number x7).bind (fun o8 => rd M_second 24 l2 (fun x9 => (FX8_with M_roads M_first M_second M_number x9 o6).bind (fun o10 => (FX8_chainOf M_roads M_first M_second M_number o10 o6 o8).bind (fun o11 => (FX8_swapped M_roads M_number o11 o6 o8).bind (fun o12 => X8_two_J155 M_roads M_first M_second o12 l1 l2 o6))))))))) else (X8_two_J155 M_roads M_first M_second M_number l1 l2 l3)
noncomputable def X8_two_L56 (M_roads : Int32) (M_first : Nat → Int32) (M_second : Nat → Int32) (M_number : Nat → Int32) (l1 : Int32) (l2 : Int32) (v : Int32) : Option ((Int32) ⊕ (((Nat → Int32) × Int32) ⊕ (Int32 × (Nat → Int32)))) :=
  if l1 ≤ v then ((X8_two_J95 M_roads M_first M_second M_number l1 l2 v).map (fun z => (.inr z))) else (rd M_first 24 l2 (fun x13 => (FX8_with M_roads M_first M_second M_number x13 v).bind (fun o14 => if (0 : Int32) ≤ o14 then (bnd (v + (1 : Int32)) (fun x15 => some (.inl x15))) else (rd M_second 24 l2 (fun x16 => (FX8_with M_roads M_first M_second M_number x16 v).bind (fun o17 => if o17 < (0 : Int32) then ((X8_two_J95 M_roads M_first M_second M_number l1 l2 v).map (fun z => (.inr z))) else (bnd (v + (1 : Int32)) (fun x18 => some (.inl x18)))))))))
noncomputable def X8_two_L46 (M_roads : Int32) (M_first : Nat → Int32) (M_second : Nat → Int32) (l1 : Int32) (v : (Nat → Int32) × Int32) : Option (((Nat → Int32) × Int32) ⊕ (Int32 × (Nat → Int32))) :=
  if M_roads ≤ v.2 then (some (.inr (l1, v.1))) else (loopO (X8_two_L56 M_roads M_first M_second v.1 l1 v.2) (0 : Int32))
noncomputable def X8_two_L23 (M_roads : Int32) (M_first : Nat → Int32) (M_second : Nat → Int32) (l1 : Int32) (v : (Nat → Int32) × Int32) : Option (((Nat → Int32) × Int32) ⊕ (Int32 × (Nat → Int32))) :=
  if M_roads ≤ v.2 then ((loopO (X8_two_L46 M_roads M_first M_second l1) (v.1, (0 : Int32))).map (fun z => (.inr z))) else (wr v.1 24 v.2 (-1 : Int32) (fun g19 => bnd (v.2 + (1 : Int32)) (fun x20 => some (.inl (g19, x20)))))
noncomputable def FX8_two (M_posts : Int32) (M_roads : Int32) (M_first : Nat → Int32) (M_second : Nat → Int32) (M_number_0 : Nat → Int32)  : Option (Int32 × (Nat → Int32)) :=
  (FX8_fullOf M_posts M_roads M_first M_second).bind (fun o1 => (FX8_isTwo M_posts M_roads M_first M_second).bind (fun o2 => if o2 = (0 : Int32) then (some ((-2 : Int32), M_number_0)) else (if o1 ≤ (16 : Int32) then (loopO (X8_two_L23 M_roads M_first M_second o1) (M_number_0, (0 : Int32))) else (some ((-2 : Int32), M_number_0)))))
abbrev GX8_two (p : Program) (l : Launch) (e : Env) (s : State) (m : MethodId) (below : List Frame) (meth : Method) (c : Code) (D : va_G) (cI cJ cZ : ClassId) (m0 m1 m2 m3 m4 m5 m6 m7 m8 m9 m10 m11 m12 m13 : Nat) (M_posts : Int32) (M_roads : Int32) (M_size : Int32) (M_rows : Int32) (M_nextRows : Int32) (M_first : Nat → Int32) (M_second : Nat → Int32) (M_number_0 : Nat → Int32) (M_lists : Nat → Int32) (M_square : Nat → Int32) (M_fan : Nat → Int32) (M_trial : Nat → Int32) (M_touching : Nat → Int32) (M_having : Nat → Int32) (M_most : Nat → Int32) (M_only : Nat → Int32) (M_can : Nat → Int32) (M_next : Nat → Int32)  (out : Int32 × (Nat → Int32)) (H : Heap) (locs : List Loc) (g : JFrame) : Prop := W p l e (headSpec (Cond.code yX8_two cX8_two 6 (some .int) :: GW) { frames := 3, cells := 0, slots := 0, locals := 72 }).room s m ([.ref m0] : List Value).toArray below meth c H locs 0 0 (MQ below (va_Qi (fun r (_ : Unit) => r = out.1) (BW D (wM cI cJ cZ m0 m1 m2 m3 m4 m5 m6 m7 m8 m9 m10 m11 m12 m13 M_posts M_roads M_size M_rows M_nextRows M_first M_second M_number_0 M_lists M_square M_fan M_trial M_touching M_having M_most M_only M_can M_next) s.heap.size (fun _ => (wM cI cJ cZ m0 m1 m2 m3 m4 m5 m6 m7 m8 m9 m10 m11 m12 m13 M_posts M_roads M_size M_rows M_nextRows M_first M_second out.2 M_lists M_square M_fan M_trial M_touching M_having M_most M_only M_can M_next))) (va_A (wM cI cJ cZ m0 m1 m2 m3 m4 m5 m6 m7 m8 m9 m10 m11 m12 m13 M_posts M_roads M_size M_rows M_nextRows M_first M_second M_number_0 M_lists M_square M_fan M_trial M_touching M_having M_most M_only M_can M_next) s.heap.size)) ([.ref m0] : List Value).toArray s 0 0 (va_A (wM cI cJ cZ m0 m1 m2 m3 m4 m5 m6 m7 m8 m9 m10 m11 m12 m13 M_posts M_roads M_size M_rows M_nextRows M_first M_second M_number_0 M_lists M_square M_fan M_trial M_touching M_having M_most M_only M_can M_next) s.heap.size)) g
theorem kvX8_two : CalV RX8 yX8_two cX8_two 6 (some .int) 0 := ⟨wC_yX8_two, wM_yX8_two, wS_yX8_two, wI_RX8, by decide +kernel⟩
set_option maxHeartbeats 4000000 in
set_option maxRecDepth 100000 in
theorem kX8_two (l : Launch) (D : va_G) (cI cJ cZ : ClassId) (m0 m1 m2 m3 m4 m5 m6 m7 m8 m9 m10 m11 m12 m13 : Nat) (M_posts : Int32) (M_roads : Int32) (M_size : Int32) (M_rows : Int32) (M_nextRows : Int32) (M_first : Nat → Int32) (M_second : Nat → Int32) (M_number_0 : Nat → Int32) (M_lists : Nat → Int32) (M_square : Nat → Int32) (M_fan : Nat → Int32) (M_trial : Nat → Int32) (M_touching : Nat → Int32) (M_having : Nat → Int32) (M_most : Nat → Int32) (M_only : Nat → Int32) (M_can : Nat → Int32) (M_next : Nat → Int32)  (out : Int32 × (Nat → Int32)) (hf : FX8_two M_posts M_roads M_first M_second M_number_0 = some out) : MI l yX8_two (Cond.code yX8_two cX8_two 6 (some .int) :: GW) { frames := 3, cells := 0, slots := 0, locals := 72 } D cI cJ cZ [.ref m0] (wM cI cJ cZ m0 m1 m2 m3 m4 m5 m6 m7 m8 m9 m10 m11 m12 m13 M_posts M_roads M_size M_rows M_nextRows M_first M_second M_number_0 M_lists M_square M_fan M_trial M_touching M_having M_most M_only M_can M_next) (fun r (_ : Unit) => r = out.1) (fun _ => (wM cI cJ cZ m0 m1 m2 m3 m4 m5 m6 m7 m8 m9 m10 m11 m12 m13 M_posts M_roads M_size M_rows M_nextRows M_first M_second out.2 M_lists M_square M_fan M_trial M_touching M_having M_most M_only M_can M_next)) := by
  intro sz
  refine Met.ofW (cc := cX8_two) (maxL := 6) (ret := (some .int)) (by decide +kernel) rfl ?_
  intro p e s m args below meth c s₁ B hml hv
  obtain ⟨rfl, hsz, hP, hK, hD0⟩ := hv
  have hx := B.exec
  have hb := B.bytes
  have hr := B.returns
  have hlocks := B.notSynchronized
  have hg : ∀ w ∈ GW, w.before _ s = true := fun w h => atoms_spec (ws := Cond.code yX8_two cX8_two 6 (some .int) :: GW) B.pre w (List.mem_cons_of_mem _ h)
  have hown : s.vm.findClass RX8 = some m.cls := findClass_of_methodNamed B.named
  subst hsz
  obtain ⟨A, hAe⟩ : ∃ A, A = va_A (wM cI cJ cZ m0 m1 m2 m3 m4 m5 m6 m7 m8 m9 m10 m11 m12 m13 M_posts M_roads M_size M_rows M_nextRows M_first M_second M_number_0 M_lists M_square M_fan M_trial M_touching M_having M_most M_only M_can M_next) s.heap.size := ⟨_, rfl⟩
  have hA : ∀ q : Nat, s.heap.size ≤ q → A q := fun q h => by rw [hAe]; exact Or.inr h
  have hI : WI D A s.heap (wM cI cJ cZ m0 m1 m2 m3 m4 m5 m6 m7 m8 m9 m10 m11 m12 m13 M_posts M_roads M_size M_rows M_nextRows M_first M_second M_number_0 M_lists M_square M_fan M_trial M_touching M_having M_most M_only M_can M_next) s.heap [] := ⟨hP, by rw [hAe]; exact hD0.self, va_S.rf⟩
  have hl := lv_entry [.ref m0] (n := 6) (Nat.le_of_ble_eq_true rfl)
  rw [lg_entry_eq]
  generalize (lg_sl [.ref m0] ++ List.replicate (6 - (lg_sl [.ref m0]).length) Slot.unset).toArray = ls at hl ⊢
  replace hl : lv_has ls 6 [(0, .ref m0)] := hl
  have J155 : ∀ (M_number : Nat → Int32) (l1 : Int32) (l2 : Int32) (l3 : Int32) (x : ((Nat → Int32) × Int32) ⊕ (Int32 × (Nat → Int32))), X8_two_J155 M_roads M_first M_second M_number l1 l2 l3 = some x → (fun z => Sum.elim (fun (v1 : (Nat → Int32) × Int32) => ∀ (H : Heap) (locs : List Loc) (ls : Array Slot), WI D A s.heap (wM cI cJ cZ m0 m1 m2 m3 m4 m5 m6 m7 m8 m9 m10 m11 m12 m13 M_posts M_roads M_size M_rows M_nextRows M_first M_second v1.1 M_lists M_square M_fan M_trial M_touching M_having M_most M_only M_can M_next) H locs → lv_has ls 6 [(0, .ref m0), (1, .int l1), (2, .int v1.2)] → GX8_two p l e s m below meth c D cI cJ cZ m0 m1 m2 m3 m4 m5 m6 m7 m8 m9 m10 m11 m12 m13 M_posts M_roads M_size M_rows M_nextRows M_first M_second M_number_0 M_lists M_square M_fan M_trial M_touching M_having M_most M_only M_can M_next  out H locs (F0 m 46 ls [])) (fun z : Int32 × (Nat → Int32) => z = out) z) x → ∀ (H : Heap) (locs : List Loc) (ls : Array Slot), WI D A s.heap (wM cI cJ cZ m0 m1 m2 m3 m4 m5 m6 m7 m8 m9 m10 m11 m12 m13 M_posts M_roads M_size M_rows M_nextRows M_first M_second M_number M_lists M_square M_fan M_trial M_touching M_having M_most M_only M_can M_next) H locs → lv_has ls 6 [(0, .ref m0), (1, .int l1), (2, .int l2), (3, .int l3)] → GX8_two p l e s m below meth c D cI cJ cZ m0 m1 m2 m3 m4 m5 m6 m7 m8 m9 m10 m11 m12 m13 M_posts M_roads M_size M_rows M_nextRows M_first M_second M_number_0 M_lists M_square M_fan M_trial M_touching M_having M_most M_only M_can M_next  out H locs (F0 m 155 ls []) := by
    intro M_number l1 l2 l3 x hf hM H locs ls hI hl
    refine lv_aload_n hx hb dX8_two_155 rfl (lv_at hl 0 rfl) ?_
    refine w_get hx hb hg hown hK hI iX8 0 rfl rfl 4 (by decide) wF_RX8_16 rfl dX8_two_156 ?_
    refine lv_iload_n hx hb dX8_two_159 rfl (lv_at hl 2 rfl) ?_
    refine lv_iload_n hx hb dX8_two_160 rfl (lv_at hl 3 rfl) ?_
    obtain ⟨hin, hf⟩ := wr_e hf
    obtain ⟨g3, eg3⟩ : ∃ g : Nat → Int32, g = upd M_number (l2).toNatClampNeg l3 := ⟨_, rfl⟩
    replace hf := hf g3 eg3
    refine w_iast (g := g3) (W1 := (wM cI cJ cZ m0 m1 m2 m3 m4 m5 m6 m7 m8 m9 m10 m11 m12 m13 M_posts M_roads M_size M_rows M_nextRows M_first M_second g3 M_lists M_square M_fan M_trial M_touching M_having M_most M_only M_can M_next)) hx hb hK hI 3 rfl hin eg3 dX8_two_161 rfl (fun H locs hI => ?_)
    obtain ⟨x4, ex4⟩ : ∃ y : Int32, y = (l2 + (1 : Int32)) := ⟨_, rfl⟩
    replace hf := bnd_e hf x4 ex4
    refine lv_iinc (v := x4) (lv' := [(2, .int x4), (0, .ref m0), (1, .int l1), (3, .int l3)]) hx hb dX8_two_162 hl (k := 2) rfl (by rw [ex4]; rfl) (by decide) rfl (fun ls hl => ?_)
    refine lv_goto (tgt := 46) hx hb dX8_two_165 (by decide) ?_
    replace hf := Option.some.inj hf
    subst hf
    exact hM _ _ _ hI (lv_sub hl [1, 2, 0] rfl)
  have J95 : ∀ (M_number : Nat → Int32) (l1 : Int32) (l2 : Int32) (l3 : Int32) (x : ((Nat → Int32) × Int32) ⊕ (Int32 × (Nat → Int32))), X8_two_J95 M_roads M_first M_second M_number l1 l2 l3 = some x → (fun z => Sum.elim (fun (v1 : (Nat → Int32) × Int32) => ∀ (H : Heap) (locs : List Loc) (ls : Array Slot), WI D A s.heap (wM cI cJ cZ m0 m1 m2 m3 m4 m5 m6 m7 m8 m9 m10 m11 m12 m13 M_posts M_roads M_size M_rows M_nextRows M_first M_second v1.1 M_lists M_square M_fan M_trial M_touching M_having M_most M_only M_can M_next) H locs → lv_has ls 6 [(0, .ref m0), (1, .int l1), (2, .int v1.2)] → GX8_two p l e s m below meth c D cI cJ cZ m0 m1 m2 m3 m4 m5 m6 m7 m8 m9 m10 m11 m12 m13 M_posts M_roads M_size M_rows M_nextRows M_first M_second M_number_0 M_lists M_square M_fan M_trial M_touching M_having M_most M_only M_can M_next  out H locs (F0 m 46 ls [])) (fun z : Int32 × (Nat → Int32) => z = out) z) x → ∀ (H : Heap) (locs : List Loc) (ls : Array Slot), WI D A s.heap (wM cI cJ cZ m0 m1 m2 m3 m4 m5 m6 m7 m8 m9 m10 m11 m12 m13 M_posts M_roads M_size M_rows M_nextRows M_first M_second M_number M_lists M_square M_fan M_trial M_touching M_having M_most M_only M_can M_next) H locs → lv_has ls 6 [(0, .ref m0), (1, .int l1), (2, .int l2), (3, .int l3)] → GX8_two p l e s m below meth c D cI cJ cZ m0 m1 m2 m3 m4 m5 m6 m7 m8 m9 m10 m11 m12 m13 M_posts M_roads M_size M_rows M_nextRows M_first M_second M_number_0 M_lists M_square M_fan M_trial M_touching M_having M_most M_only M_can M_next  out H locs (F0 m 95 ls []) := by
    intro M_number l1 l2 l3 x hf hM H locs ls hI hl
    refine lv_iload_n hx hb dX8_two_95 rfl (lv_at hl 3 rfl) ?_
    refine lv_iload_n hx hb dX8_two_96 rfl (lv_at hl 1 rfl) ?_
    refine lv_icmp_ne (tgt := 155) hx hb dX8_two_97 (by decide) (fun hc => ?_) (fun hc => ?_)
    · replace hf := ite_f hc hf
      exact J155 M_number l1 l2 l3 _ hf hM _ _ _ hI (lv_sub hl [0, 1, 2, 3] rfl)
    · replace hf := ite_t hc hf
      refine lv_aload_n hx hb dX8_two_100 rfl (lv_at hl 0 rfl) ?_
      refine lv_aload_n hx hb dX8_two_101 rfl (lv_at hl 0 rfl) ?_
      refine w_get hx hb hg hown hK hI iX8 0 rfl rfl 2 (by decide) wF_RX8_7 rfl dX8_two_102 ?_
      refine lv_iload_n hx hb dX8_two_105 rfl (lv_at hl 2 rfl) ?_
      obtain ⟨hin, hf⟩ := rd_e hf
      refine w_iald hx hb hK hI 1 rfl hin dX8_two_106 (fun x5 ex5 => ?_)
      replace hf := hf x5 ex5
      obtain ⟨o6, ho6, hf⟩ := bd_e hf
      refine w_Vi0 (wc := (wM cI cJ cZ m0 m1 m2 m3 m4 m5 m6 m7 m8 m9 m10 m11 m12 m13 M_posts M_roads M_size M_rows M_nextRows M_first M_second M_number M_lists M_square M_fan M_trial M_touching M_having M_most M_only M_can M_next)) (wr := []) (rest := []) hx hb hml hg hown hK hA hI (kX8_leastFree l D cI cJ cZ m0 m1 m2 m3 m4 m5 m6 m7 m8 m9 m10 m11 m12 m13 M_posts M_roads M_size M_rows M_nextRows M_first M_second M_number M_lists M_square M_fan M_trial M_touching M_having M_most M_only M_can M_next x5 o6 ho6) kvX8_leastFree wL_RX8_88 ⟨Nat.le_of_ble_eq_true rfl, Nat.le_of_ble_eq_true rfl⟩ rfl rfl [0, 1, 2, 3, 4, 5, 6, 7, 8, 9, 10, 11, 12, 13] [] rfl rfl rfl rfl (by decide) rfl rfl hl.1 (Nat.le_of_ble_eq_true rfl) dX8_two_107 ⟨Nat.zero_le _, Nat.zero_le _⟩ ⟨rfl, rfl⟩ (fun r u H locs hp hI => ?_)
      replace hp : r = o6 := hp
      rw [hp]
      clear hp
      replace hI : WI D A s.heap (wM cI cJ cZ m0 m1 m2 m3 m4 m5 m6 m7 m8 m9 m10 m11 m12 m13 M_posts M_roads M_size M_rows M_nextRows M_first M_second M_number M_lists M_square M_fan M_trial M_touching M_having M_most M_only M_can M_next) H locs := hI
      refine lv_istore (lv' := [(4, .int o6), (0, .ref m0), (1, .int l1), (2, .int l2), (3, .int l3)]) hx hb dX8_two_110 hl (by decide) rfl (fun ls hl => ?_)
      refine lv_aload_n hx hb dX8_two_112 rfl (lv_at hl 1 rfl) ?_
      refine lv_aload_n hx hb dX8_two_113 rfl (lv_at hl 1 rfl) ?_
      refine w_get hx hb hg hown hK hI iX8 0 rfl rfl 3 (by decide) wF_RX8_13 rfl dX8_two_114 ?_
      refine lv_iload_n hx hb dX8_two_117 rfl (lv_at hl 3 rfl) ?_
      obtain ⟨hin, hf⟩ := rd_e hf
      refine w_iald hx hb hK hI 2 rfl hin dX8_two_118 (fun x7 ex7 => ?_)
      replace hf := hf x7 ex7
      obtain ⟨o8, ho8, hf⟩ := bd_e hf
      refine w_Vi0 (wc := (wM cI cJ cZ m0 m1 m2 m3 m4 m5 m6 m7 m8 m9 m10 m11 m12 m13 M_posts M_roads M_size M_rows M_nextRows M_first M_second M_number M_lists M_square M_fan M_trial M_touching M_having M_most M_only M_can M_next)) (wr := []) (rest := []) hx hb hml hg hown hK hA hI (kX8_leastFree l D cI cJ cZ m0 m1 m2 m3 m4 m5 m6 m7 m8 m9 m10 m11 m12 m13 M_posts M_roads M_size M_rows M_nextRows M_first M_second M_number M_lists M_square M_fan M_trial M_touching M_having M_most M_only M_can M_next x7 o8 ho8) kvX8_leastFree wL_RX8_88 ⟨Nat.le_of_ble_eq_true rfl, Nat.le_of_ble_eq_true rfl⟩ rfl rfl [0, 1, 2, 3, 4, 5, 6, 7, 8, 9, 10, 11, 12, 13] [] rfl rfl rfl rfl (by decide) rfl rfl hl.1 (Nat.le_of_ble_eq_true rfl) dX8_two_119 ⟨Nat.zero_le _, Nat.zero_le _⟩ ⟨rfl, rfl⟩ (fun r u H locs hp hI => ?_)
      replace hp : r = o8 := hp
      rw [hp]
      clear hp
      replace hI : WI D A s.heap (wM cI cJ cZ m0 m1 m2 m3 m4 m5 m6 m7 m8 m9 m10 m11 m12 m13 M_posts M_roads M_size M_rows M_nextRows M_first M_second M_number M_lists M_square M_fan M_trial M_touching M_having M_most M_only M_can M_next) H locs := hI
      refine lv_istore (lv' := [(5, .int o8), (4, .int o6), (0, .ref m0), (1, .int l1), (2, .int l2), (3, .int l3)]) hx hb dX8_two_122 hl (by decide) rfl (fun ls hl => ?_)
      refine lv_aload_n hx hb dX8_two_124 rfl (lv_at hl 2 rfl) ?_
      refine lv_aload_n hx hb dX8_two_125 rfl (lv_at hl 2 rfl) ?_
      refine lv_aload_n hx hb dX8_two_126 rfl (lv_at hl 2 rfl) ?_
      refine lv_aload_n hx hb dX8_two_127 rfl (lv_at hl 2 rfl) ?_
      refine w_get hx hb hg hown hK hI iX8 0 rfl rfl 3 (by decide) wF_RX8_13 rfl dX8_two_128 ?_
      refine lv_iload_n hx hb dX8_two_131 rfl (lv_at hl 4 rfl) ?_
      obtain ⟨hin, hf⟩ := rd_e hf
      refine w_iald hx hb hK hI 2 rfl hin dX8_two_132 (fun x9 ex9 => ?_)
      replace hf := hf x9 ex9
      refine lv_iload hx hb dX8_two_133 (lv_at hl 1 rfl) ?_
      obtain ⟨o10, ho10, hf⟩ := bd_e hf
      refine w_Vi0 (wc := (wM cI cJ cZ m0 m1 m2 m3 m4 m5 m6 m7 m8 m9 m10 m11 m12 m13 M_posts M_roads M_size M_rows M_nextRows M_first M_second M_number M_lists M_square M_fan M_trial M_touching M_having M_most M_only M_can M_next)) (wr := []) (rest := [.ref m0, .ref m0]) hx hb hml hg hown hK hA hI (kX8_with l D cI cJ cZ m0 m1 m2 m3 m4 m5 m6 m7 m8 m9 m10 m11 m12 m13 M_posts M_roads M_size M_rows M_nextRows M_first M_second M_number M_lists M_square M_fan M_trial M_touching M_having M_most M_only M_can M_next x9 o6 o10 ho10) kvX8_with wL_RX8_84 ⟨Nat.le_of_ble_eq_true rfl, Nat.le_of_ble_eq_true rfl⟩ rfl rfl [0, 1, 2, 3, 4, 5, 6, 7, 8, 9, 10, 11, 12, 13] [] rfl rfl rfl rfl (by decide) rfl rfl hl.1 (Nat.le_of_ble_eq_true rfl) dX8_two_135 ⟨Nat.zero_le _, Nat.zero_le _⟩ ⟨rfl, rfl⟩ (fun r u H locs hp hI => ?_)
      replace hp : r = o10 := hp
      rw [hp]
      clear hp
      replace hI : WI D A s.heap (wM cI cJ cZ m0 m1 m2 m3 m4 m5 m6 m7 m8 m9 m10 m11 m12 m13 M_posts M_roads M_size M_rows M_nextRows M_first M_second M_number M_lists M_square M_fan M_trial M_touching M_having M_most M_only M_can M_next) H locs := hI
      refine lv_iload hx hb dX8_two_138 (lv_at hl 1 rfl) ?_
      refine lv_iload hx hb dX8_two_140 (lv_at hl 0 rfl) ?_
      obtain ⟨o11, ho11, hf⟩ := bd_e hf
      refine w_Vi0 (wc := (wM cI cJ cZ m0 m1 m2 m3 m4 m5 m6 m7 m8 m9 m10 m11 m12 m13 M_posts M_roads M_size M_rows M_nextRows M_first M_second M_number M_lists M_square M_fan M_trial M_touching M_having M_most M_only M_can M_next)) (wr := []) (rest := [.ref m0]) hx hb hml hg hown hK hA hI (kX8_chainOf l D cI cJ cZ m0 m1 m2 m3 m4 m5 m6 m7 m8 m9 m10 m11 m12 m13 M_posts M_roads M_size M_rows M_nextRows M_first M_second M_number M_lists M_square M_fan M_trial M_touching M_having M_most M_only M_can M_next o10 o6 o8 o11 ho11) kvX8_chainOf wL_RX8_103 ⟨Nat.le_of_ble_eq_true rfl, Nat.le_of_ble_eq_true rfl⟩ rfl rfl [0, 1, 2, 3, 4, 5, 6, 7, 8, 9, 10, 11, 12, 13] [] rfl rfl rfl rfl (by decide) rfl rfl hl.1 (Nat.le_of_ble_eq_true rfl) dX8_two_142 ⟨Nat.zero_le _, Nat.zero_le _⟩ ⟨rfl, rfl⟩ (fun r u H locs hp hI => ?_)
      replace hp : r = o11 := hp
      rw [hp]
      clear hp
      replace hI : WI D A s.heap (wM cI cJ cZ m0 m1 m2 m3 m4 m5 m6 m7 m8 m9 m10 m11 m12 m13 M_posts M_roads M_size M_rows M_nextRows M_first M_second M_number M_lists M_square M_fan M_trial M_touching M_having M_most M_only M_can M_next) H locs := hI
      refine lv_iload hx hb dX8_two_145 (lv_at hl 1 rfl) ?_
      refine lv_iload hx hb dX8_two_147 (lv_at hl 0 rfl) ?_
      obtain ⟨o12, ho12, hf⟩ := bd_e hf
      refine w_Vv0 (wc := (wM cI cJ cZ m0 m1 m2 m3 m4 m5 m6 m7 m8 m9 m10 m11 m12 m13 M_posts M_roads M_size M_rows M_nextRows M_first M_second M_number M_lists M_square M_fan M_trial M_touching M_having M_most M_only M_can M_next)) (wr := []) (rest := []) hx hb hml hg hown hK hA hI (kX8_swapped l D cI cJ cZ m0 m1 m2 m3 m4 m5 m6 m7 m8 m9 m10 m11 m12 m13 M_posts M_roads M_size M_rows M_nextRows M_first M_second M_number M_lists M_square M_fan M_trial M_touching M_having M_most M_only M_can M_next o11 o6 o8 o12 ho12) kvX8_swapped wL_RX8_110 ⟨Nat.le_of_ble_eq_true rfl, Nat.le_of_ble_eq_true rfl⟩ rfl rfl [0, 1, 2, 3, 4, 5, 6, 7, 8, 9, 10, 11, 12, 13] [] rfl rfl rfl rfl (by decide) rfl rfl hl.1 (Nat.le_of_ble_eq_true rfl) dX8_two_149 ⟨Nat.zero_le _, Nat.zero_le _⟩ ⟨rfl, rfl⟩ (fun  u H locs hp hI => ?_)
      replace hI : WI D A s.heap (wM cI cJ cZ m0 m1 m2 m3 m4 m5 m6 m7 m8 m9 m10 m11 m12 m13 M_posts M_roads M_size M_rows M_nextRows M_first M_second o12 M_lists M_square M_fan M_trial M_touching M_having M_most M_only M_can M_next) H locs := hI
      refine lv_iload hx hb dX8_two_152 (lv_at hl 1 rfl) ?_
      refine lv_istore_n (lv' := [(3, .int o6), (5, .int o8), (4, .int o6), (0, .ref m0), (1, .int l1), (2, .int l2)]) hx hb dX8_two_154 rfl hl (by decide) rfl (fun ls hl => ?_)
      exact J155 o12 l1 l2 o6 _ hf hM _ _ _ hI (lv_sub hl [3, 4, 5, 0] rfl)
  have L56 : ∀ (M_number : Nat → Int32) (l1 : Int32) (l2 : Int32), ∀ (v : Int32) (x : ((Nat → Int32) × Int32) ⊕ (Int32 × (Nat → Int32))), loopO (X8_two_L56 M_roads M_first M_second M_number l1 l2) v = some x → (fun z => Sum.elim (fun (v1 : (Nat → Int32) × Int32) => ∀ (H : Heap) (locs : List Loc) (ls : Array Slot), WI D A s.heap (wM cI cJ cZ m0 m1 m2 m3 m4 m5 m6 m7 m8 m9 m10 m11 m12 m13 M_posts M_roads M_size M_rows M_nextRows M_first M_second v1.1 M_lists M_square M_fan M_trial M_touching M_having M_most M_only M_can M_next) H locs → lv_has ls 6 [(0, .ref m0), (1, .int l1), (2, .int v1.2)] → GX8_two p l e s m below meth c D cI cJ cZ m0 m1 m2 m3 m4 m5 m6 m7 m8 m9 m10 m11 m12 m13 M_posts M_roads M_size M_rows M_nextRows M_first M_second M_number_0 M_lists M_square M_fan M_trial M_touching M_having M_most M_only M_can M_next  out H locs (F0 m 46 ls [])) (fun z : Int32 × (Nat → Int32) => z = out) z) x → (fun (v : Int32) => ∀ (H : Heap) (locs : List Loc) (ls : Array Slot), WI D A s.heap (wM cI cJ cZ m0 m1 m2 m3 m4 m5 m6 m7 m8 m9 m10 m11 m12 m13 M_posts M_roads M_size M_rows M_nextRows M_first M_second M_number M_lists M_square M_fan M_trial M_touching M_having M_most M_only M_can M_next) H locs → lv_has ls 6 [(0, .ref m0), (1, .int l1), (2, .int l2), (3, .int v)] → GX8_two p l e s m below meth c D cI cJ cZ m0 m1 m2 m3 m4 m5 m6 m7 m8 m9 m10 m11 m12 m13 M_posts M_roads M_size M_rows M_nextRows M_first M_second M_number_0 M_lists M_square M_fan M_trial M_touching M_having M_most M_only M_can M_next  out H locs (F0 m 56 ls [])) v := by
    intro M_number l1 l2
    refine loopO_ind (fun (v : Int32) => ∀ (H : Heap) (locs : List Loc) (ls : Array Slot), WI D A s.heap (wM cI cJ cZ m0 m1 m2 m3 m4 m5 m6 m7 m8 m9 m10 m11 m12 m13 M_posts M_roads M_size M_rows M_nextRows M_first M_second M_number M_lists M_square M_fan M_trial M_touching M_having M_most M_only M_can M_next) H locs → lv_has ls 6 [(0, .ref m0), (1, .int l1), (2, .int l2), (3, .int v)] → GX8_two p l e s m below meth c D cI cJ cZ m0 m1 m2 m3 m4 m5 m6 m7 m8 m9 m10 m11 m12 m13 M_posts M_roads M_size M_rows M_nextRows M_first M_second M_number_0 M_lists M_square M_fan M_trial M_touching M_having M_most M_only M_can M_next  out H locs (F0 m 56 ls [])) (fun z => Sum.elim (fun (v1 : (Nat → Int32) × Int32) => ∀ (H : Heap) (locs : List Loc) (ls : Array Slot), WI D A s.heap (wM cI cJ cZ m0 m1 m2 m3 m4 m5 m6 m7 m8 m9 m10 m11 m12 m13 M_posts M_roads M_size M_rows M_nextRows M_first M_second v1.1 M_lists M_square M_fan M_trial M_touching M_having M_most M_only M_can M_next) H locs → lv_has ls 6 [(0, .ref m0), (1, .int l1), (2, .int v1.2)] → GX8_two p l e s m below meth c D cI cJ cZ m0 m1 m2 m3 m4 m5 m6 m7 m8 m9 m10 m11 m12 m13 M_posts M_roads M_size M_rows M_nextRows M_first M_second M_number_0 M_lists M_square M_fan M_trial M_touching M_having M_most M_only M_can M_next  out H locs (F0 m 46 ls [])) (fun z : Int32 × (Nat → Int32) => z = out) z) ?_
    intro v x hf hM H locs ls hI hl
    refine lv_iload_n hx hb dX8_two_56 rfl (lv_at hl 3 rfl) ?_
    refine lv_iload_n hx hb dX8_two_57 rfl (lv_at hl 1 rfl) ?_
    refine lv_icmp_ge (tgt := 95) hx hb dX8_two_58 (by decide) (fun hc => ?_) (fun hc => ?_)
    · replace hf := ite_t hc hf
      obtain ⟨z, hf2, ez⟩ := mp_e hf
      clear hf
      subst ez
      exact J95 M_number l1 l2 v _ hf2 hM _ _ _ hI (lv_sub hl [0, 1, 2, 3] rfl)
    · replace hf := ite_f hc hf
      refine lv_aload_n hx hb dX8_two_61 rfl (lv_at hl 0 rfl) ?_
      refine lv_aload_n hx hb dX8_two_62 rfl (lv_at hl 0 rfl) ?_
      refine w_get hx hb hg hown hK hI iX8 0 rfl rfl 2 (by decide) wF_RX8_7 rfl dX8_two_63 ?_
      refine lv_iload_n hx hb dX8_two_66 rfl (lv_at hl 2 rfl) ?_
      obtain ⟨hin, hf⟩ := rd_e hf
      refine w_iald hx hb hK hI 1 rfl hin dX8_two_67 (fun x13 ex13 => ?_)
      replace hf := hf x13 ex13
      refine lv_iload_n hx hb dX8_two_68 rfl (lv_at hl 3 rfl) ?_
      obtain ⟨o14, ho14, hf⟩ := bd_e hf
      refine w_Vi0 (wc := (wM cI cJ cZ m0 m1 m2 m3 m4 m5 m6 m7 m8 m9 m10 m11 m12 m13 M_posts M_roads M_size M_rows M_nextRows M_first M_second M_number M_lists M_square M_fan M_trial M_touching M_having M_most M_only M_can M_next)) (wr := []) (rest := []) hx hb hml hg hown hK hA hI (kX8_with l D cI cJ cZ m0 m1 m2 m3 m4 m5 m6 m7 m8 m9 m10 m11 m12 m13 M_posts M_roads M_size M_rows M_nextRows M_first M_second M_number M_lists M_square M_fan M_trial M_touching M_having M_most M_only M_can M_next x13 v o14 ho14) kvX8_with wL_RX8_84 ⟨Nat.le_of_ble_eq_true rfl, Nat.le_of_ble_eq_true rfl⟩ rfl rfl [0, 1, 2, 3, 4, 5, 6, 7, 8, 9, 10, 11, 12, 13] [] rfl rfl rfl rfl (by decide) rfl rfl hl.1 (Nat.le_of_ble_eq_true rfl) dX8_two_69 ⟨Nat.zero_le _, Nat.zero_le _⟩ ⟨rfl, rfl⟩ (fun r u H locs hp hI => ?_)
      replace hp : r = o14 := hp
      rw [hp]
      clear hp
      replace hI : WI D A s.heap (wM cI cJ cZ m0 m1 m2 m3 m4 m5 m6 m7 m8 m9 m10 m11 m12 m13 M_posts M_roads M_size M_rows M_nextRows M_first M_second M_number M_lists M_square M_fan M_trial M_touching M_having M_most M_only M_can M_next) H locs := hI
      refine lv_if_ge (tgt := 89) hx hb dX8_two_72 (by decide) (fun hc => ?_) (fun hc => ?_)
      · replace hf := ite_t hc hf
        obtain ⟨x15, ex15⟩ : ∃ y : Int32, y = (v + (1 : Int32)) := ⟨_, rfl⟩
        replace hf := bnd_e hf x15 ex15
        refine lv_iinc (v := x15) (lv' := [(3, .int x15), (0, .ref m0), (1, .int l1), (2, .int l2)]) hx hb dX8_two_89 hl (k := 3) rfl (by rw [ex15]; rfl) (by decide) rfl (fun ls hl => ?_)
        refine lv_goto (tgt := 56) hx hb dX8_two_92 (by decide) ?_
        replace hf := Option.some.inj hf
        subst hf
        exact hM _ _ _ hI (lv_sub hl [1, 2, 3, 0] rfl)
      · replace hf := ite_f hc hf
        refine lv_aload_n hx hb dX8_two_75 rfl (lv_at hl 0 rfl) ?_
        refine lv_aload_n hx hb dX8_two_76 rfl (lv_at hl 0 rfl) ?_
        refine w_get hx hb hg hown hK hI iX8 0 rfl rfl 3 (by decide) wF_RX8_13 rfl dX8_two_77 ?_
        refine lv_iload_n hx hb dX8_two_80 rfl (lv_at hl 2 rfl) ?_
        obtain ⟨hin, hf⟩ := rd_e hf
        refine w_iald hx hb hK hI 2 rfl hin dX8_two_81 (fun x16 ex16 => ?_)
        replace hf := hf x16 ex16
        refine lv_iload_n hx hb dX8_two_82 rfl (lv_at hl 3 rfl) ?_
        obtain ⟨o17, ho17, hf⟩ := bd_e hf
        refine w_Vi0 (wc := (wM cI cJ cZ m0 m1 m2 m3 m4 m5 m6 m7 m8 m9 m10 m11 m12 m13 M_posts M_roads M_size M_rows M_nextRows M_first M_second M_number M_lists M_square M_fan M_trial M_touching M_having M_most M_only M_can M_next)) (wr := []) (rest := []) hx hb hml hg hown hK hA hI (kX8_with l D cI cJ cZ m0 m1 m2 m3 m4 m5 m6 m7 m8 m9 m10 m11 m12 m13 M_posts M_roads M_size M_rows M_nextRows M_first M_second M_number M_lists M_square M_fan M_trial M_touching M_having M_most M_only M_can M_next x16 v o17 ho17) kvX8_with wL_RX8_84 ⟨Nat.le_of_ble_eq_true rfl, Nat.le_of_ble_eq_true rfl⟩ rfl rfl [0, 1, 2, 3, 4, 5, 6, 7, 8, 9, 10, 11, 12, 13] [] rfl rfl rfl rfl (by decide) rfl rfl hl.1 (Nat.le_of_ble_eq_true rfl) dX8_two_83 ⟨Nat.zero_le _, Nat.zero_le _⟩ ⟨rfl, rfl⟩ (fun r u H locs hp hI => ?_)
        replace hp : r = o17 := hp
        rw [hp]
        clear hp
        replace hI : WI D A s.heap (wM cI cJ cZ m0 m1 m2 m3 m4 m5 m6 m7 m8 m9 m10 m11 m12 m13 M_posts M_roads M_size M_rows M_nextRows M_first M_second M_number M_lists M_square M_fan M_trial M_touching M_having M_most M_only M_can M_next) H locs := hI
        refine lv_if_lt (tgt := 95) hx hb dX8_two_86 (by decide) (fun hc => ?_) (fun hc => ?_)
        · replace hf := ite_t hc hf
          obtain ⟨z, hf2, ez⟩ := mp_e hf
          clear hf
          subst ez
          exact J95 M_number l1 l2 v _ hf2 hM _ _ _ hI (lv_sub hl [0, 1, 2, 3] rfl)
        · replace hf := ite_f hc hf
          obtain ⟨x18, ex18⟩ : ∃ y : Int32, y = (v + (1 : Int32)) := ⟨_, rfl⟩
          replace hf := bnd_e hf x18 ex18
          refine lv_iinc (v := x18) (lv' := [(3, .int x18), (0, .ref m0), (1, .int l1), (2, .int l2)]) hx hb dX8_two_89 hl (k := 3) rfl (by rw [ex18]; rfl) (by decide) rfl (fun ls hl => ?_)
          refine lv_goto (tgt := 56) hx hb dX8_two_92 (by decide) ?_
          replace hf := Option.some.inj hf
          subst hf
          exact hM _ _ _ hI (lv_sub hl [1, 2, 3, 0] rfl)
  have L46 : ∀ (l1 : Int32), ∀ (v : (Nat → Int32) × Int32) (x : Int32 × (Nat → Int32)), loopO (X8_two_L46 M_roads M_first M_second l1) v = some x → (fun z : Int32 × (Nat → Int32) => z = out) x → (fun (v : (Nat → Int32) × Int32) => ∀ (H : Heap) (locs : List Loc) (ls : Array Slot), WI D A s.heap (wM cI cJ cZ m0 m1 m2 m3 m4 m5 m6 m7 m8 m9 m10 m11 m12 m13 M_posts M_roads M_size M_rows M_nextRows M_first M_second v.1 M_lists M_square M_fan M_trial M_touching M_having M_most M_only M_can M_next) H locs → lv_has ls 6 [(0, .ref m0), (1, .int l1), (2, .int v.2)] → GX8_two p l e s m below meth c D cI cJ cZ m0 m1 m2 m3 m4 m5 m6 m7 m8 m9 m10 m11 m12 m13 M_posts M_roads M_size M_rows M_nextRows M_first M_second M_number_0 M_lists M_square M_fan M_trial M_touching M_having M_most M_only M_can M_next  out H locs (F0 m 46 ls [])) v := by
    intro l1
    refine loopO_ind (fun (v : (Nat → Int32) × Int32) => ∀ (H : Heap) (locs : List Loc) (ls : Array Slot), WI D A s.heap (wM cI cJ cZ m0 m1 m2 m3 m4 m5 m6 m7 m8 m9 m10 m11 m12 m13 M_posts M_roads M_size M_rows M_nextRows M_first M_second v.1 M_lists M_square M_fan M_trial M_touching M_having M_most M_only M_can M_next) H locs → lv_has ls 6 [(0, .ref m0), (1, .int l1), (2, .int v.2)] → GX8_two p l e s m below meth c D cI cJ cZ m0 m1 m2 m3 m4 m5 m6 m7 m8 m9 m10 m11 m12 m13 M_posts M_roads M_size M_rows M_nextRows M_first M_second M_number_0 M_lists M_square M_fan M_trial M_touching M_having M_most M_only M_can M_next  out H locs (F0 m 46 ls [])) (fun z : Int32 × (Nat → Int32) => z = out) ?_
    intro v x hf hM H locs ls hI hl
    refine lv_iload_n hx hb dX8_two_46 rfl (lv_at hl 2 rfl) ?_
    refine lv_aload_n hx hb dX8_two_47 rfl (lv_at hl 0 rfl) ?_
    refine w_get hx hb hg hown hK hI iX8 0 rfl rfl 1 (by decide) wF_RX8_57 rfl dX8_two_48 ?_
    refine lv_icmp_ge (tgt := 168) hx hb dX8_two_51 (by decide) (fun hc => ?_) (fun hc => ?_)
    · replace hf := ite_t hc hf
      refine lv_iload_n hx hb dX8_two_168 rfl (lv_at hl 1 rfl) ?_
      replace hf := Option.some.inj hf
      subst hf
      replace hM : (l1, v.1) = out := hM
      subst hM
      exact rt_i (u := ()) hx hb hr hlocks rfl hI hAe rfl dX8_two_169
    · replace hf := ite_f hc hf
      refine lv_iconst (v := 0) hx hb dX8_two_54 (by decide) ?_
      refine lv_istore_n (lv' := [(3, .int (0 : Int32)), (0, .ref m0), (1, .int l1), (2, .int v.2)]) hx hb dX8_two_55 rfl hl (by decide) rfl (fun ls hl => ?_)
      exact L56 v.1 l1 v.2 (0 : Int32) _ hf hM _ _ _ hI (lv_sub hl [1, 2, 3, 0] rfl)
  have L23 : ∀ (l1 : Int32), ∀ (v : (Nat → Int32) × Int32) (x : Int32 × (Nat → Int32)), loopO (X8_two_L23 M_roads M_first M_second l1) v = some x → (fun z : Int32 × (Nat → Int32) => z = out) x → (fun (v : (Nat → Int32) × Int32) => ∀ (H : Heap) (locs : List Loc) (ls : Array Slot), WI D A s.heap (wM cI cJ cZ m0 m1 m2 m3 m4 m5 m6 m7 m8 m9 m10 m11 m12 m13 M_posts M_roads M_size M_rows M_nextRows M_first M_second v.1 M_lists M_square M_fan M_trial M_touching M_having M_most M_only M_can M_next) H locs → lv_has ls 6 [(0, .ref m0), (1, .int l1), (2, .int v.2)] → GX8_two p l e s m below meth c D cI cJ cZ m0 m1 m2 m3 m4 m5 m6 m7 m8 m9 m10 m11 m12 m13 M_posts M_roads M_size M_rows M_nextRows M_first M_second M_number_0 M_lists M_square M_fan M_trial M_touching M_having M_most M_only M_can M_next  out H locs (F0 m 23 ls [])) v := by
    intro l1
    refine loopO_ind (fun (v : (Nat → Int32) × Int32) => ∀ (H : Heap) (locs : List Loc) (ls : Array Slot), WI D A s.heap (wM cI cJ cZ m0 m1 m2 m3 m4 m5 m6 m7 m8 m9 m10 m11 m12 m13 M_posts M_roads M_size M_rows M_nextRows M_first M_second v.1 M_lists M_square M_fan M_trial M_touching M_having M_most M_only M_can M_next) H locs → lv_has ls 6 [(0, .ref m0), (1, .int l1), (2, .int v.2)] → GX8_two p l e s m below meth c D cI cJ cZ m0 m1 m2 m3 m4 m5 m6 m7 m8 m9 m10 m11 m12 m13 M_posts M_roads M_size M_rows M_nextRows M_first M_second M_number_0 M_lists M_square M_fan M_trial M_touching M_having M_most M_only M_can M_next  out H locs (F0 m 23 ls [])) (fun z : Int32 × (Nat → Int32) => z = out) ?_
    intro v x hf hM H locs ls hI hl
    refine lv_iload_n hx hb dX8_two_23 rfl (lv_at hl 2 rfl) ?_
    refine lv_aload_n hx hb dX8_two_24 rfl (lv_at hl 0 rfl) ?_
    refine w_get hx hb hg hown hK hI iX8 0 rfl rfl 1 (by decide) wF_RX8_57 rfl dX8_two_25 ?_
    refine lv_icmp_ge (tgt := 44) hx hb dX8_two_28 (by decide) (fun hc => ?_) (fun hc => ?_)
    · replace hf := ite_t hc hf
      refine lv_iconst (v := 0) hx hb dX8_two_44 (by decide) ?_
      refine lv_istore_n (lv' := [(2, .int (0 : Int32)), (0, .ref m0), (1, .int l1)]) hx hb dX8_two_45 rfl hl (by decide) rfl (fun ls hl => ?_)
      obtain ⟨z, hf2, ez⟩ := mp_e hf
      clear hf
      subst ez
      exact L46 l1 (v.1, (0 : Int32)) _ hf2 hM _ _ _ hI (lv_sub hl [1, 2, 0] rfl)
    · replace hf := ite_f hc hf
      refine lv_aload_n hx hb dX8_two_31 rfl (lv_at hl 0 rfl) ?_
      refine w_get hx hb hg hown hK hI iX8 0 rfl rfl 4 (by decide) wF_RX8_16 rfl dX8_two_32 ?_
      refine lv_iload_n hx hb dX8_two_35 rfl (lv_at hl 2 rfl) ?_
      refine lv_iconst (v := -1) hx hb dX8_two_36 (by decide) ?_
      obtain ⟨hin, hf⟩ := wr_e hf
      obtain ⟨g19, eg19⟩ : ∃ g : Nat → Int32, g = upd v.1 (v.2).toNatClampNeg (-1 : Int32) := ⟨_, rfl⟩
      replace hf := hf g19 eg19
      refine w_iast (g := g19) (W1 := (wM cI cJ cZ m0 m1 m2 m3 m4 m5 m6 m7 m8 m9 m10 m11 m12 m13 M_posts M_roads M_size M_rows M_nextRows M_first M_second g19 M_lists M_square M_fan M_trial M_touching M_having M_most M_only M_can M_next)) hx hb hK hI 3 rfl hin eg19 dX8_two_37 rfl (fun H locs hI => ?_)
      obtain ⟨x20, ex20⟩ : ∃ y : Int32, y = (v.2 + (1 : Int32)) := ⟨_, rfl⟩
      replace hf := bnd_e hf x20 ex20
      refine lv_iinc (v := x20) (lv' := [(2, .int x20), (0, .ref m0), (1, .int l1)]) hx hb dX8_two_38 hl (k := 2) rfl (by rw [ex20]; rfl) (by decide) rfl (fun ls hl => ?_)
      refine lv_goto (tgt := 23) hx hb dX8_two_41 (by decide) ?_
      replace hf := Option.some.inj hf
      subst hf
      exact hM _ _ _ hI (lv_sub hl [1, 2, 0] rfl)
  obtain ⟨x, hf, hM⟩ : ∃ x, FX8_two M_posts M_roads M_first M_second M_number_0 = some x ∧ x = out := ⟨out, hf, rfl⟩
  refine lv_aload_n hx hb dX8_two_0 rfl (lv_at hl 0 rfl) ?_
  obtain ⟨o1, ho1, hf⟩ := bd_e hf
  refine w_Vi0 (wc := (wM cI cJ cZ m0 m1 m2 m3 m4 m5 m6 m7 m8 m9 m10 m11 m12 m13 M_posts M_roads M_size M_rows M_nextRows M_first M_second M_number_0 M_lists M_square M_fan M_trial M_touching M_having M_most M_only M_can M_next)) (wr := []) (rest := []) hx hb hml hg hown hK hA hI (kX8_fullOf l D cI cJ cZ m0 m1 m2 m3 m4 m5 m6 m7 m8 m9 m10 m11 m12 m13 M_posts M_roads M_size M_rows M_nextRows M_first M_second M_number_0 M_lists M_square M_fan M_trial M_touching M_having M_most M_only M_can M_next  o1 ho1) kvX8_fullOf wL_RX8_121 ⟨Nat.le_of_ble_eq_true rfl, Nat.le_of_ble_eq_true rfl⟩ rfl rfl [0, 1, 2, 3, 4, 5, 6, 7, 8, 9, 10, 11, 12, 13] [] rfl rfl rfl rfl (by decide) rfl rfl hl.1 (Nat.le_of_ble_eq_true rfl) dX8_two_1 ⟨Nat.zero_le _, Nat.zero_le _⟩ ⟨rfl, rfl⟩ (fun r u H locs hp hI => ?_)
  replace hp : r = o1 := hp
  rw [hp]
  clear hp
  replace hI : WI D A s.heap (wM cI cJ cZ m0 m1 m2 m3 m4 m5 m6 m7 m8 m9 m10 m11 m12 m13 M_posts M_roads M_size M_rows M_nextRows M_first M_second M_number_0 M_lists M_square M_fan M_trial M_touching M_having M_most M_only M_can M_next) H locs := hI
  refine lv_istore_n (lv' := [(1, .int o1), (0, .ref m0)]) hx hb dX8_two_4 rfl hl (by decide) rfl (fun ls hl => ?_)
  refine lv_aload_n hx hb dX8_two_5 rfl (lv_at hl 1 rfl) ?_
  obtain ⟨o2, ho2, hf⟩ := bd_e hf
  refine w_Vi0 (wc := (wM cI cJ cZ m0 m1 m2 m3 m4 m5 m6 m7 m8 m9 m10 m11 m12 m13 M_posts M_roads M_size M_rows M_nextRows M_first M_second M_number_0 M_lists M_square M_fan M_trial M_touching M_having M_most M_only M_can M_next)) (wr := []) (rest := []) hx hb hml hg hown hK hA hI (kX8_isTwo l D cI cJ cZ m0 m1 m2 m3 m4 m5 m6 m7 m8 m9 m10 m11 m12 m13 M_posts M_roads M_size M_rows M_nextRows M_first M_second M_number_0 M_lists M_square M_fan M_trial M_touching M_having M_most M_only M_can M_next  o2 ho2) kvX8_isTwo wL_RX8_130 ⟨Nat.le_of_ble_eq_true rfl, Nat.le_of_ble_eq_true rfl⟩ rfl rfl [0, 1, 2, 3, 4, 5, 6, 7, 8, 9, 10, 11, 12, 13] [] rfl rfl rfl rfl (by decide) rfl rfl hl.1 (Nat.le_of_ble_eq_true rfl) dX8_two_6 ⟨Nat.zero_le _, Nat.zero_le _⟩ ⟨rfl, rfl⟩ (fun r u H locs hp hI => ?_)
  replace hp : r = o2 := hp
  rw [hp]
  clear hp
  replace hI : WI D A s.heap (wM cI cJ cZ m0 m1 m2 m3 m4 m5 m6 m7 m8 m9 m10 m11 m12 m13 M_posts M_roads M_size M_rows M_nextRows M_first M_second M_number_0 M_lists M_square M_fan M_trial M_touching M_having M_most M_only M_can M_next) H locs := hI
  refine lv_if_eq (tgt := 18) hx hb dX8_two_9 (by decide) (fun hc => ?_) (fun hc => ?_)
  · replace hf := ite_t hc hf
    refine lv_bipush (v := -2) hx hb dX8_two_18 (by decide) ?_
    replace hf := Option.some.inj hf
    subst hf
    replace hM : ((-2 : Int32), M_number_0) = out := hM
    subst hM
    exact rt_i (u := ()) hx hb hr hlocks rfl hI hAe rfl dX8_two_20
  · replace hf := ite_f hc hf
    refine lv_iload_n hx hb dX8_two_12 rfl (lv_at hl 0 rfl) ?_
    refine lv_bipush (v := 16) hx hb dX8_two_13 (by decide) ?_
    refine lv_icmp_le (tgt := 21) hx hb dX8_two_15 (by decide) (fun hc => ?_) (fun hc => ?_)
    · replace hf := ite_t hc hf
      refine lv_iconst (v := 0) hx hb dX8_two_21 (by decide) ?_
      refine lv_istore_n (lv' := [(2, .int (0 : Int32)), (1, .int o1), (0, .ref m0)]) hx hb dX8_two_22 rfl hl (by decide) rfl (fun ls hl => ?_)
      exact L23 o1 (M_number_0, (0 : Int32)) _ hf hM _ _ _ hI (lv_sub hl [2, 1, 0] rfl)
    · replace hf := ite_f hc hf
      refine lv_bipush (v := -2) hx hb dX8_two_18 (by decide) ?_
      replace hf := Option.some.inj hf
      subst hf
      replace hM : ((-2 : Int32), M_number_0) = out := hM
      subst hM
      exact rt_i (u := ()) hx hb hr hlocks rfl hI hAe rfl dX8_two_20
noncomputable def X8_haveIt_L4 (M_roads : Int32) (M_number : Nat → Int32) (l1 : Int32) (v : Int32 × Int32) : Option ((Int32 × Int32) ⊕ (Int32)) :=
  if M_roads ≤ v.2 then (some (.inr v.1)) else (rd M_number 24 v.2 (fun x1 => if x1 = l1 then (bnd (v.1 + (1 : Int32)) (fun x4 => bnd (v.2 + (1 : Int32)) (fun x5 => some (.inl (x4, x5))))) else (bnd (v.1 + (0 : Int32)) (fun x2 => bnd (v.2 + (1 : Int32)) (fun x3 => some (.inl (x2, x3)))))))
noncomputable def FX8_haveIt (M_roads : Int32) (M_number : Nat → Int32) (a1 : Int32) : Option (Int32) :=
  loopO (X8_haveIt_L4 M_roads M_number a1) ((0 : Int32), (0 : Int32))
abbrev GX8_haveIt (p : Program) (l : Launch) (e : Env) (s : State) (m : MethodId) (below : List Frame) (meth : Method) (c : Code) (D : va_G) (cI cJ cZ : ClassId) (m0 m1 m2 m3 m4 m5 m6 m7 m8 m9 m10 m11 m12 m13 : Nat) (M_posts : Int32) (M_roads : Int32) (M_size : Int32) (M_rows : Int32) (M_nextRows : Int32) (M_first : Nat → Int32) (M_second : Nat → Int32) (M_number : Nat → Int32) (M_lists : Nat → Int32) (M_square : Nat → Int32) (M_fan : Nat → Int32) (M_trial : Nat → Int32) (M_touching : Nat → Int32) (M_having : Nat → Int32) (M_most : Nat → Int32) (M_only : Nat → Int32) (M_can : Nat → Int32) (M_next : Nat → Int32) (a1 : Int32) (out : Int32) (H : Heap) (locs : List Loc) (g : JFrame) : Prop := W p l e (headSpec (Cond.code yX8_haveIt cX8_haveIt 4 (some .int) :: GW) { frames := 0, cells := 0, slots := 0, locals := 0 }).room s m ([.ref m0, .int a1] : List Value).toArray below meth c H locs 0 0 (MQ below (va_Qi (fun r (_ : Unit) => r = out) (BW D (wM cI cJ cZ m0 m1 m2 m3 m4 m5 m6 m7 m8 m9 m10 m11 m12 m13 M_posts M_roads M_size M_rows M_nextRows M_first M_second M_number M_lists M_square M_fan M_trial M_touching M_having M_most M_only M_can M_next) s.heap.size (fun _ => (wM cI cJ cZ m0 m1 m2 m3 m4 m5 m6 m7 m8 m9 m10 m11 m12 m13 M_posts M_roads M_size M_rows M_nextRows M_first M_second M_number M_lists M_square M_fan M_trial M_touching M_having M_most M_only M_can M_next))) (va_A (wM cI cJ cZ m0 m1 m2 m3 m4 m5 m6 m7 m8 m9 m10 m11 m12 m13 M_posts M_roads M_size M_rows M_nextRows M_first M_second M_number M_lists M_square M_fan M_trial M_touching M_having M_most M_only M_can M_next) s.heap.size)) ([.ref m0, .int a1] : List Value).toArray s 0 0 (va_A (wM cI cJ cZ m0 m1 m2 m3 m4 m5 m6 m7 m8 m9 m10 m11 m12 m13 M_posts M_roads M_size M_rows M_nextRows M_first M_second M_number M_lists M_square M_fan M_trial M_touching M_having M_most M_only M_can M_next) s.heap.size)) g
theorem kvX8_haveIt : CalV RX8 yX8_haveIt cX8_haveIt 4 (some .int) 1 := ⟨wC_yX8_haveIt, wM_yX8_haveIt, wS_yX8_haveIt, wI_RX8, by decide +kernel⟩
set_option maxHeartbeats 4000000 in
set_option maxRecDepth 100000 in
theorem kX8_haveIt (l : Launch) (D : va_G) (cI cJ cZ : ClassId) (m0 m1 m2 m3 m4 m5 m6 m7 m8 m9 m10 m11 m12 m13 : Nat) (M_posts : Int32) (M_roads : Int32) (M_size : Int32) (M_rows : Int32) (M_nextRows : Int32) (M_first : Nat → Int32) (M_second : Nat → Int32) (M_number : Nat → Int32) (M_lists : Nat → Int32) (M_square : Nat → Int32) (M_fan : Nat → Int32) (M_trial : Nat → Int32) (M_touching : Nat → Int32) (M_having : Nat → Int32) (M_most : Nat → Int32) (M_only : Nat → Int32) (M_can : Nat → Int32) (M_next : Nat → Int32) (a1 : Int32) (out : Int32) (hf : FX8_haveIt M_roads M_number a1 = some out) : MI l yX8_haveIt (Cond.code yX8_haveIt cX8_haveIt 4 (some .int) :: GW) { frames := 0, cells := 0, slots := 0, locals := 0 } D cI cJ cZ [.ref m0, .int a1] (wM cI cJ cZ m0 m1 m2 m3 m4 m5 m6 m7 m8 m9 m10 m11 m12 m13 M_posts M_roads M_size M_rows M_nextRows M_first M_second M_number M_lists M_square M_fan M_trial M_touching M_having M_most M_only M_can M_next) (fun r (_ : Unit) => r = out) (fun _ => (wM cI cJ cZ m0 m1 m2 m3 m4 m5 m6 m7 m8 m9 m10 m11 m12 m13 M_posts M_roads M_size M_rows M_nextRows M_first M_second M_number M_lists M_square M_fan M_trial M_touching M_having M_most M_only M_can M_next)) := by
  intro sz
  refine Met.ofW (cc := cX8_haveIt) (maxL := 4) (ret := (some .int)) (by decide +kernel) rfl ?_
  intro p e s m args below meth c s₁ B hml hv
  obtain ⟨rfl, hsz, hP, hK, hD0⟩ := hv
  have hx := B.exec
  have hb := B.bytes
  have hr := B.returns
  have hlocks := B.notSynchronized
  have hg : ∀ w ∈ GW, w.before _ s = true := fun w h => atoms_spec (ws := Cond.code yX8_haveIt cX8_haveIt 4 (some .int) :: GW) B.pre w (List.mem_cons_of_mem _ h)
  have hown : s.vm.findClass RX8 = some m.cls := findClass_of_methodNamed B.named
  subst hsz
  obtain ⟨A, hAe⟩ : ∃ A, A = va_A (wM cI cJ cZ m0 m1 m2 m3 m4 m5 m6 m7 m8 m9 m10 m11 m12 m13 M_posts M_roads M_size M_rows M_nextRows M_first M_second M_number M_lists M_square M_fan M_trial M_touching M_having M_most M_only M_can M_next) s.heap.size := ⟨_, rfl⟩
  have hA : ∀ q : Nat, s.heap.size ≤ q → A q := fun q h => by rw [hAe]; exact Or.inr h
  have hI : WI D A s.heap (wM cI cJ cZ m0 m1 m2 m3 m4 m5 m6 m7 m8 m9 m10 m11 m12 m13 M_posts M_roads M_size M_rows M_nextRows M_first M_second M_number M_lists M_square M_fan M_trial M_touching M_having M_most M_only M_can M_next) s.heap [] := ⟨hP, by rw [hAe]; exact hD0.self, va_S.rf⟩
  have hl := lv_entry [.ref m0, .int a1] (n := 4) (Nat.le_of_ble_eq_true rfl)
  rw [lg_entry_eq]
  generalize (lg_sl [.ref m0, .int a1] ++ List.replicate (4 - (lg_sl [.ref m0, .int a1]).length) Slot.unset).toArray = ls at hl ⊢
  replace hl : lv_has ls 4 [(0, .ref m0), (1, .int a1)] := hl
  have L4 : ∀ (l1 : Int32), ∀ (v : Int32 × Int32) (x : Int32), loopO (X8_haveIt_L4 M_roads M_number l1) v = some x → (fun z : Int32 => z = out) x → (fun (v : Int32 × Int32) => ∀ (H : Heap) (locs : List Loc) (ls : Array Slot), WI D A s.heap (wM cI cJ cZ m0 m1 m2 m3 m4 m5 m6 m7 m8 m9 m10 m11 m12 m13 M_posts M_roads M_size M_rows M_nextRows M_first M_second M_number M_lists M_square M_fan M_trial M_touching M_having M_most M_only M_can M_next) H locs → lv_has ls 4 [(0, .ref m0), (1, .int l1), (2, .int v.1), (3, .int v.2)] → GX8_haveIt p l e s m below meth c D cI cJ cZ m0 m1 m2 m3 m4 m5 m6 m7 m8 m9 m10 m11 m12 m13 M_posts M_roads M_size M_rows M_nextRows M_first M_second M_number M_lists M_square M_fan M_trial M_touching M_having M_most M_only M_can M_next a1 out H locs (F0 m 4 ls [])) v := by
    intro l1
    refine loopO_ind (fun (v : Int32 × Int32) => ∀ (H : Heap) (locs : List Loc) (ls : Array Slot), WI D A s.heap (wM cI cJ cZ m0 m1 m2 m3 m4 m5 m6 m7 m8 m9 m10 m11 m12 m13 M_posts M_roads M_size M_rows M_nextRows M_first M_second M_number M_lists M_square M_fan M_trial M_touching M_having M_most M_only M_can M_next) H locs → lv_has ls 4 [(0, .ref m0), (1, .int l1), (2, .int v.1), (3, .int v.2)] → GX8_haveIt p l e s m below meth c D cI cJ cZ m0 m1 m2 m3 m4 m5 m6 m7 m8 m9 m10 m11 m12 m13 M_posts M_roads M_size M_rows M_nextRows M_first M_second M_number M_lists M_square M_fan M_trial M_touching M_having M_most M_only M_can M_next a1 out H locs (F0 m 4 ls [])) (fun z : Int32 => z = out) ?_
    intro v x hf hM H locs ls hI hl
    refine lv_iload_n hx hb dX8_haveIt_4 rfl (lv_at hl 3 rfl) ?_
    refine lv_aload_n hx hb dX8_haveIt_5 rfl (lv_at hl 0 rfl) ?_
    refine w_get hx hb hg hown hK hI iX8 0 rfl rfl 1 (by decide) wF_RX8_57 rfl dX8_haveIt_6 ?_
    refine lv_icmp_ge (tgt := 36) hx hb dX8_haveIt_9 (by decide) (fun hc => ?_) (fun hc => ?_)
    · replace hf := ite_t hc hf
      refine lv_iload_n hx hb dX8_haveIt_36 rfl (lv_at hl 2 rfl) ?_
      replace hf := Option.some.inj hf
      subst hf
      replace hM : v.1 = out := hM
      subst hM
      exact rt_i (u := ()) hx hb hr hlocks rfl hI hAe rfl dX8_haveIt_37
    · replace hf := ite_f hc hf
      refine lv_iload_n hx hb dX8_haveIt_12 rfl (lv_at hl 2 rfl) ?_
      refine lv_aload_n hx hb dX8_haveIt_13 rfl (lv_at hl 0 rfl) ?_
      refine w_get hx hb hg hown hK hI iX8 0 rfl rfl 4 (by decide) wF_RX8_16 rfl dX8_haveIt_14 ?_
      refine lv_iload_n hx hb dX8_haveIt_17 rfl (lv_at hl 3 rfl) ?_
      obtain ⟨hin, hf⟩ := rd_e hf
      refine w_iald hx hb hK hI 3 rfl hin dX8_haveIt_18 (fun x1 ex1 => ?_)
      replace hf := hf x1 ex1
      refine lv_iload_n hx hb dX8_haveIt_19 rfl (lv_at hl 1 rfl) ?_
      refine lv_icmp_ne (tgt := 27) hx hb dX8_haveIt_20 (by decide) (fun hc => ?_) (fun hc => ?_)
      · replace hf := ite_f hc hf
        refine lv_iconst (v := 0) hx hb dX8_haveIt_27 (by decide) ?_
        refine lv_iadd hx hb dX8_haveIt_28 ?_
        refine lv_topi (fun x2 ex2 => ?_)
        replace hf := bnd_e hf x2 ex2
        refine lv_istore_n (lv' := [(2, .int x2), (0, .ref m0), (1, .int l1), (3, .int v.2)]) hx hb dX8_haveIt_29 rfl hl (by decide) rfl (fun ls hl => ?_)
        obtain ⟨x3, ex3⟩ : ∃ y : Int32, y = (v.2 + (1 : Int32)) := ⟨_, rfl⟩
        replace hf := bnd_e hf x3 ex3
        refine lv_iinc (v := x3) (lv' := [(3, .int x3), (2, .int x2), (0, .ref m0), (1, .int l1)]) hx hb dX8_haveIt_30 hl (k := 3) rfl (by rw [ex3]; rfl) (by decide) rfl (fun ls hl => ?_)
        refine lv_goto (tgt := 4) hx hb dX8_haveIt_33 (by decide) ?_
        replace hf := Option.some.inj hf
        subst hf
        exact hM _ _ _ hI (lv_sub hl [2, 3, 1, 0] rfl)
      · replace hf := ite_t hc hf
        refine lv_iconst (v := 1) hx hb dX8_haveIt_23 (by decide) ?_
        refine lv_goto (tgt := 28) hx hb dX8_haveIt_24 (by decide) ?_
        refine lv_iadd hx hb dX8_haveIt_28 ?_
        refine lv_topi (fun x4 ex4 => ?_)
        replace hf := bnd_e hf x4 ex4
        refine lv_istore_n (lv' := [(2, .int x4), (0, .ref m0), (1, .int l1), (3, .int v.2)]) hx hb dX8_haveIt_29 rfl hl (by decide) rfl (fun ls hl => ?_)
        obtain ⟨x5, ex5⟩ : ∃ y : Int32, y = (v.2 + (1 : Int32)) := ⟨_, rfl⟩
        replace hf := bnd_e hf x5 ex5
        refine lv_iinc (v := x5) (lv' := [(3, .int x5), (2, .int x4), (0, .ref m0), (1, .int l1)]) hx hb dX8_haveIt_30 hl (k := 3) rfl (by rw [ex5]; rfl) (by decide) rfl (fun ls hl => ?_)
        refine lv_goto (tgt := 4) hx hb dX8_haveIt_33 (by decide) ?_
        replace hf := Option.some.inj hf
        subst hf
        exact hM _ _ _ hI (lv_sub hl [2, 3, 1, 0] rfl)
  obtain ⟨x, hf, hM⟩ : ∃ x, FX8_haveIt M_roads M_number a1 = some x ∧ x = out := ⟨out, hf, rfl⟩
  refine lv_iconst (v := 0) hx hb dX8_haveIt_0 (by decide) ?_
  refine lv_istore_n (lv' := [(2, .int (0 : Int32)), (0, .ref m0), (1, .int a1)]) hx hb dX8_haveIt_1 rfl hl (by decide) rfl (fun ls hl => ?_)
  refine lv_iconst (v := 0) hx hb dX8_haveIt_2 (by decide) ?_
  refine lv_istore_n (lv' := [(3, .int (0 : Int32)), (2, .int (0 : Int32)), (0, .ref m0), (1, .int a1)]) hx hb dX8_haveIt_3 rfl hl (by decide) rfl (fun ls hl => ?_)
  exact L4 a1 ((0 : Int32), (0 : Int32)) _ hf hM _ _ _ hI (lv_sub hl [2, 3, 1, 0] rfl)
noncomputable def X8_even_J245 (M_roads : Int32) (M_first : Nat → Int32) (M_second : Nat → Int32) (M_number : Nat → Int32) (l1 : Int32) (l2 : Int32) (l3 : Int32) (l4 : Int32) (l5 : Int32) (l7 : Int32) (s0 : Int32) : Option (((Nat → Int32) × Int32 × Int32) ⊕ (((Nat → Int32) × Int32) ⊕ (Int32 × (Nat → Int32)))) :=
  if s0 = (0 : Int32) then (bnd (l5 + (1 : Int32)) (fun x8 => some (.inl (M_number, x8, s0)))) else ((FX8_swapped M_roads M_number l7 l3 l4).bind (fun o9 => bnd (l5 + (1 : Int32)) (fun x10 => some (.inl (o9, x10, s0)))))
noncomputable def X8_even_J235 (M_roads : Int32) (M_first : Nat → Int32) (M_second : Nat → Int32) (M_number : Nat → Int32) (l1 : Int32) (l2 : Int32) (l3 : Int32) (l4 : Int32) (l5 : Int32) (l7 : Int32) (l8 : Int32) : Option (((Nat → Int32) × Int32 × Int32) ⊕ (((Nat → Int32) × Int32) ⊕ (Int32 × (Nat → Int32)))) :=
  if l8 ≤ (0 : Int32) then (X8_even_J245 M_roads M_first M_second M_number l1 l2 l3 l4 l5 l7 (0 : Int32)) else (X8_even_J245 M_roads M_first M_second M_number l1 l2 l3 l4 l5 l7 (1 : Int32))
noncomputable def X8_even_L188 (M_roads : Int32) (M_first : Nat → Int32) (M_second : Nat → Int32) (M_number : Nat → Int32) (l1 : Int32) (l2 : Int32) (l3 : Int32) (l4 : Int32) (l5 : Int32) (l7 : Int32) (v : Int32 × Int32) : Option ((Int32 × Int32) ⊕ (((Nat → Int32) × Int32 × Int32) ⊕ (((Nat → Int32) × Int32) ⊕ (Int32 × (Nat → Int32))))) :=
  if M_roads ≤ v.2 then ((X8_even_J235 M_roads M_first M_second M_number l1 l2 l3 l4 l5 l7 v.1).map (fun z => (.inr z))) else (if ((l7 >>> (v.2 &&& (31 : Int32))) &&& (1 : Int32)) = (1 : Int32) then (rd M_number 24 v.2 (fun x12 => if x12 = l3 then (bnd (v.1 + (1 : Int32)) (fun x15 => bnd (v.2 + (1 : Int32)) (fun x16 => some (.inl (x15, x16))))) else (bnd (v.1 + (-1 : Int32)) (fun x13 => bnd (v.2 + (1 : Int32)) (fun x14 => some (.inl (x13, x14))))))) else (bnd (v.2 + (1 : Int32)) (fun x11 => some (.inl (v.1, x11)))))
noncomputable def X8_even_J171 (M_roads : Int32) (M_first : Nat → Int32) (M_second : Nat → Int32) (M_number : Nat → Int32) (l1 : Int32) (l2 : Int32) (l3 : Int32) (l4 : Int32) (l5 : Int32) : Option (((Nat → Int32) × Int32 × Int32) ⊕ (((Nat → Int32) × Int32) ⊕ (Int32 × (Nat → Int32)))) :=
  (FX8_chainOf M_roads M_first M_second M_number l5 l3 l4).bind (fun o7 => loopO (X8_even_L188 M_roads M_first M_second M_number l1 l2 l3 l4 l5 o7) ((0 : Int32), (0 : Int32)))
noncomputable def X8_even_L143 (M_roads : Int32) (M_first : Nat → Int32) (M_second : Nat → Int32) (l1 : Int32) (l2 : Int32) (l3 : Int32) (l4 : Int32) (v : (Nat → Int32) × Int32 × Int32) : Option (((Nat → Int32) × Int32 × Int32) ⊕ (((Nat → Int32) × Int32) ⊕ (Int32 × (Nat → Int32)))) :=
  if v.2.2 = (0 : Int32) then (rd v.1 24 v.2.1 (fun x6 => if x6 = l3 then (X8_even_J171 M_roads M_first M_second v.1 l1 l2 l3 l4 v.2.1) else (rd v.1 24 v.2.1 (fun x17 => if x17 = l4 then (X8_even_J171 M_roads M_first M_second v.1 l1 l2 l3 l4 v.2.1) else (bnd (v.2.1 + (1 : Int32)) (fun x18 => some (.inl (v.1, x18, v.2.2)))))))) else (bnd (l2 + (1 : Int32)) (fun x5 => some (.inr (.inl (v.1, x5)))))
noncomputable def X8_even_J119 (M_roads : Int32) (M_first : Nat → Int32) (M_second : Nat → Int32) (M_number : Nat → Int32) (l1 : Int32) (l2 : Int32) (l3 : Int32) (l4 : Int32) : Option (((Nat → Int32) × Int32) ⊕ (Int32 × (Nat → Int32))) :=
  (FX8_haveIt M_roads M_number l3).bind (fun o3 => (FX8_haveIt M_roads M_number l4).bind (fun o4 => if (o4 + (2 : Int32)) ≤ o3 then (loopO (X8_even_L143 M_roads M_first M_second l1 l2 l3 l4) (M_number, (0 : Int32), (0 : Int32))) else (some (.inr (l2, M_number)))))
noncomputable def X8_even_J94 (M_roads : Int32) (M_first : Nat → Int32) (M_second : Nat → Int32) (M_number : Nat → Int32) (l1 : Int32) (l2 : Int32) (l3 : Int32) (l4 : Int32) (l5 : Int32) : Option ((Int32 × Int32 × Int32) ⊕ (((Nat → Int32) × Int32) ⊕ (Int32 × (Nat → Int32)))) :=
  (FX8_haveIt M_roads M_number l5).bind (fun o21 => (FX8_haveIt M_roads M_number l4).bind (fun o22 => if o22 ≤ o21 then (bnd (l5 + (1 : Int32)) (fun x23 => some (.inl (l3, l4, x23)))) else (bnd (l5 + (1 : Int32)) (fun x24 => some (.inl (l3, l5, x24))))))
noncomputable def X8_even_L71 (M_roads : Int32) (M_first : Nat → Int32) (M_second : Nat → Int32) (M_number : Nat → Int32) (l1 : Int32) (l2 : Int32) (v : Int32 × Int32 × Int32) : Option ((Int32 × Int32 × Int32) ⊕ (((Nat → Int32) × Int32) ⊕ (Int32 × (Nat → Int32)))) :=
  if l1 ≤ v.2.2 then ((X8_even_J119 M_roads M_first M_second M_number l1 l2 v.1 v.2.1).map (fun z => (.inr z))) else ((FX8_haveIt M_roads M_number v.2.2).bind (fun o19 => (FX8_haveIt M_roads M_number v.1).bind (fun o20 => if o19 ≤ o20 then (X8_even_J94 M_roads M_first M_second M_number l1 l2 v.1 v.2.1 v.2.2) else (X8_even_J94 M_roads M_first M_second M_number l1 l2 v.2.2 v.2.1 v.2.2))))
noncomputable def X8_even_L63 (M_roads : Int32) (M_first : Nat → Int32) (M_second : Nat → Int32) (l1 : Int32) (v : (Nat → Int32) × Int32) : Option (((Nat → Int32) × Int32) ⊕ (Int32 × (Nat → Int32))) :=
  loopO (X8_even_L71 M_roads M_first M_second v.1 l1 v.2) ((0 : Int32), (0 : Int32), (0 : Int32))
noncomputable def X8_even_J51 (M_roads : Int32) (M_first : Nat → Int32) (M_second : Nat → Int32) (M_number : Nat → Int32) (l1 : Int32) : Option (Int32 × (Nat → Int32)) :=
  (FX8_clashing M_roads M_first M_second M_number).bind (fun o2 => if o2 < (0 : Int32) then (loopO (X8_even_L63 M_roads M_first M_second l1) (M_number, (0 : Int32))) else (some ((-2 : Int32), M_number)))
noncomputable def X8_even_L15 (M_roads : Int32) (M_first : Nat → Int32) (M_second : Nat → Int32) (M_number : Nat → Int32) (l1 : Int32) (v : Int32) : Option ((Int32) ⊕ (Int32 × (Nat → Int32))) :=
  if M_roads ≤ v then ((X8_even_J51 M_roads M_first M_second M_number l1).map (fun z => (.inr z))) else (rd M_number 24 v (fun x25 => if x25 < (0 : Int32) then (some (.inr ((-2 : Int32), M_number))) else (rd M_number 24 v (fun x26 => if x26 < l1 then (bnd (v + (1 : Int32)) (fun x27 => some (.inl x27))) else (some (.inr ((-2 : Int32), M_number)))))))
noncomputable def FX8_even (M_roads : Int32) (M_first : Nat → Int32) (M_second : Nat → Int32) (M_number_0 : Nat → Int32) (a1 : Int32) : Option (Int32 × (Nat → Int32)) :=
  (FX8_in a1 (1 : Int32) (16 : Int32)).bind (fun x1 => if x1 = (0 : Int32) then (some ((-2 : Int32), M_number_0)) else (loopO (X8_even_L15 M_roads M_first M_second M_number_0 a1) (0 : Int32)))
abbrev GX8_even (p : Program) (l : Launch) (e : Env) (s : State) (m : MethodId) (below : List Frame) (meth : Method) (c : Code) (D : va_G) (cI cJ cZ : ClassId) (m0 m1 m2 m3 m4 m5 m6 m7 m8 m9 m10 m11 m12 m13 : Nat) (M_posts : Int32) (M_roads : Int32) (M_size : Int32) (M_rows : Int32) (M_nextRows : Int32) (M_first : Nat → Int32) (M_second : Nat → Int32) (M_number_0 : Nat → Int32) (M_lists : Nat → Int32) (M_square : Nat → Int32) (M_fan : Nat → Int32) (M_trial : Nat → Int32) (M_touching : Nat → Int32) (M_having : Nat → Int32) (M_most : Nat → Int32) (M_only : Nat → Int32) (M_can : Nat → Int32) (M_next : Nat → Int32) (a1 : Int32) (out : Int32 × (Nat → Int32)) (H : Heap) (locs : List Loc) (g : JFrame) : Prop := W p l e (headSpec (Cond.code yX8_even cX8_even 10 (some .int) :: GW) { frames := 4, cells := 0, slots := 0, locals := 87 }).room s m ([.ref m0, .int a1] : List Value).toArray below meth c H locs 0 0 (MQ below (va_Qi (fun r (_ : Unit) => r = out.1) (BW D (wM cI cJ cZ m0 m1 m2 m3 m4 m5 m6 m7 m8 m9 m10 m11 m12 m13 M_posts M_roads M_size M_rows M_nextRows M_first M_second M_number_0 M_lists M_square M_fan M_trial M_touching M_having M_most M_only M_can M_next) s.heap.size (fun _ => (wM cI cJ cZ m0 m1 m2 m3 m4 m5 m6 m7 m8 m9 m10 m11 m12 m13 M_posts M_roads M_size M_rows M_nextRows M_first M_second out.2 M_lists M_square M_fan M_trial M_touching M_having M_most M_only M_can M_next))) (va_A (wM cI cJ cZ m0 m1 m2 m3 m4 m5 m6 m7 m8 m9 m10 m11 m12 m13 M_posts M_roads M_size M_rows M_nextRows M_first M_second M_number_0 M_lists M_square M_fan M_trial M_touching M_having M_most M_only M_can M_next) s.heap.size)) ([.ref m0, .int a1] : List Value).toArray s 0 0 (va_A (wM cI cJ cZ m0 m1 m2 m3 m4 m5 m6 m7 m8 m9 m10 m11 m12 m13 M_posts M_roads M_size M_rows M_nextRows M_first M_second M_number_0 M_lists M_square M_fan M_trial M_touching M_having M_most M_only M_can M_next) s.heap.size)) g
theorem kvX8_even : CalV RX8 yX8_even cX8_even 10 (some .int) 1 := ⟨wC_yX8_even, wM_yX8_even, wS_yX8_even, wI_RX8, by decide +kernel⟩
set_option maxHeartbeats 4000000 in
set_option maxRecDepth 100000 in
theorem kX8_even (l : Launch) (D : va_G) (cI cJ cZ : ClassId) (m0 m1 m2 m3 m4 m5 m6 m7 m8 m9 m10 m11 m12 m13 : Nat) (M_posts : Int32) (M_roads : Int32) (M_size : Int32) (M_rows : Int32) (M_nextRows : Int32) (M_first : Nat → Int32) (M_second : Nat → Int32) (M_number_0 : Nat → Int32) (M_lists : Nat → Int32) (M_square : Nat → Int32) (M_fan : Nat → Int32) (M_trial : Nat → Int32) (M_touching : Nat → Int32) (M_having : Nat → Int32) (M_most : Nat → Int32) (M_only : Nat → Int32) (M_can : Nat → Int32) (M_next : Nat → Int32) (a1 : Int32) (out : Int32 × (Nat → Int32)) (hf : FX8_even M_roads M_first M_second M_number_0 a1 = some out) : MI l yX8_even (Cond.code yX8_even cX8_even 10 (some .int) :: GW) { frames := 4, cells := 0, slots := 0, locals := 87 } D cI cJ cZ [.ref m0, .int a1] (wM cI cJ cZ m0 m1 m2 m3 m4 m5 m6 m7 m8 m9 m10 m11 m12 m13 M_posts M_roads M_size M_rows M_nextRows M_first M_second M_number_0 M_lists M_square M_fan M_trial M_touching M_having M_most M_only M_can M_next) (fun r (_ : Unit) => r = out.1) (fun _ => (wM cI cJ cZ m0 m1 m2 m3 m4 m5 m6 m7 m8 m9 m10 m11 m12 m13 M_posts M_roads M_size M_rows M_nextRows M_first M_second out.2 M_lists M_square M_fan M_trial M_touching M_having M_most M_only M_can M_next)) := by
  intro sz
  refine Met.ofW (cc := cX8_even) (maxL := 10) (ret := (some .int)) (by decide +kernel) rfl ?_
  intro p e s m args below meth c s₁ B hml hv
  obtain ⟨rfl, hsz, hP, hK, hD0⟩ := hv
  have hx := B.exec
  have hb := B.bytes
  have hr := B.returns
  have hlocks := B.notSynchronized
  have hg : ∀ w ∈ GW, w.before _ s = true := fun w h => atoms_spec (ws := Cond.code yX8_even cX8_even 10 (some .int) :: GW) B.pre w (List.mem_cons_of_mem _ h)
  have hown : s.vm.findClass RX8 = some m.cls := findClass_of_methodNamed B.named
  subst hsz
  obtain ⟨A, hAe⟩ : ∃ A, A = va_A (wM cI cJ cZ m0 m1 m2 m3 m4 m5 m6 m7 m8 m9 m10 m11 m12 m13 M_posts M_roads M_size M_rows M_nextRows M_first M_second M_number_0 M_lists M_square M_fan M_trial M_touching M_having M_most M_only M_can M_next) s.heap.size := ⟨_, rfl⟩
  have hA : ∀ q : Nat, s.heap.size ≤ q → A q := fun q h => by rw [hAe]; exact Or.inr h
  have hI : WI D A s.heap (wM cI cJ cZ m0 m1 m2 m3 m4 m5 m6 m7 m8 m9 m10 m11 m12 m13 M_posts M_roads M_size M_rows M_nextRows M_first M_second M_number_0 M_lists M_square M_fan M_trial M_touching M_having M_most M_only M_can M_next) s.heap [] := ⟨hP, by rw [hAe]; exact hD0.self, va_S.rf⟩
  have hl := lv_entry [.ref m0, .int a1] (n := 10) (Nat.le_of_ble_eq_true rfl)
  rw [lg_entry_eq]
  generalize (lg_sl [.ref m0, .int a1] ++ List.replicate (10 - (lg_sl [.ref m0, .int a1]).length) Slot.unset).toArray = ls at hl ⊢
  replace hl : lv_has ls 10 [(0, .ref m0), (1, .int a1)] := hl
  have J245 : ∀ (M_number : Nat → Int32) (l1 : Int32) (l2 : Int32) (l3 : Int32) (l4 : Int32) (l5 : Int32) (l7 : Int32) (s0 : Int32) (x : ((Nat → Int32) × Int32 × Int32) ⊕ (((Nat → Int32) × Int32) ⊕ (Int32 × (Nat → Int32)))), X8_even_J245 M_roads M_first M_second M_number l1 l2 l3 l4 l5 l7 s0 = some x → (fun z => Sum.elim (fun (v2 : (Nat → Int32) × Int32 × Int32) => ∀ (H : Heap) (locs : List Loc) (ls : Array Slot), WI D A s.heap (wM cI cJ cZ m0 m1 m2 m3 m4 m5 m6 m7 m8 m9 m10 m11 m12 m13 M_posts M_roads M_size M_rows M_nextRows M_first M_second v2.1 M_lists M_square M_fan M_trial M_touching M_having M_most M_only M_can M_next) H locs → lv_has ls 10 [(0, .ref m0), (1, .int l1), (2, .int l2), (3, .int l3), (4, .int l4), (5, .int v2.2.1), (6, .int v2.2.2)] → GX8_even p l e s m below meth c D cI cJ cZ m0 m1 m2 m3 m4 m5 m6 m7 m8 m9 m10 m11 m12 m13 M_posts M_roads M_size M_rows M_nextRows M_first M_second M_number_0 M_lists M_square M_fan M_trial M_touching M_having M_most M_only M_can M_next a1 out H locs (F0 m 143 ls [])) (fun z => Sum.elim (fun (v1 : (Nat → Int32) × Int32) => ∀ (H : Heap) (locs : List Loc) (ls : Array Slot), WI D A s.heap (wM cI cJ cZ m0 m1 m2 m3 m4 m5 m6 m7 m8 m9 m10 m11 m12 m13 M_posts M_roads M_size M_rows M_nextRows M_first M_second v1.1 M_lists M_square M_fan M_trial M_touching M_having M_most M_only M_can M_next) H locs → lv_has ls 10 [(0, .ref m0), (1, .int l1), (2, .int v1.2)] → GX8_even p l e s m below meth c D cI cJ cZ m0 m1 m2 m3 m4 m5 m6 m7 m8 m9 m10 m11 m12 m13 M_posts M_roads M_size M_rows M_nextRows M_first M_second M_number_0 M_lists M_square M_fan M_trial M_touching M_having M_most M_only M_can M_next a1 out H locs (F0 m 63 ls [])) (fun z : Int32 × (Nat → Int32) => z = out) z) z) x → ∀ (H : Heap) (locs : List Loc) (ls : Array Slot), WI D A s.heap (wM cI cJ cZ m0 m1 m2 m3 m4 m5 m6 m7 m8 m9 m10 m11 m12 m13 M_posts M_roads M_size M_rows M_nextRows M_first M_second M_number M_lists M_square M_fan M_trial M_touching M_having M_most M_only M_can M_next) H locs → lv_has ls 10 [(0, .ref m0), (1, .int l1), (2, .int l2), (3, .int l3), (4, .int l4), (5, .int l5), (7, .int l7)] → GX8_even p l e s m below meth c D cI cJ cZ m0 m1 m2 m3 m4 m5 m6 m7 m8 m9 m10 m11 m12 m13 M_posts M_roads M_size M_rows M_nextRows M_first M_second M_number_0 M_lists M_square M_fan M_trial M_touching M_having M_most M_only M_can M_next a1 out H locs (F0 m 245 ls [.int s0]) := by
    intro M_number l1 l2 l3 l4 l5 l7 s0 x hf hM H locs ls hI hl
    refine lv_istore (lv' := [(6, .int s0), (0, .ref m0), (1, .int l1), (2, .int l2), (3, .int l3), (4, .int l4), (5, .int l5), (7, .int l7)]) hx hb dX8_even_245 hl (by decide) rfl (fun ls hl => ?_)
    refine lv_iload hx hb dX8_even_247 (lv_at hl 0 rfl) ?_
    refine lv_if_eq (tgt := 261) hx hb dX8_even_249 (by decide) (fun hc => ?_) (fun hc => ?_)
    · replace hf := ite_t hc hf
      obtain ⟨x8, ex8⟩ : ∃ y : Int32, y = (l5 + (1 : Int32)) := ⟨_, rfl⟩
      replace hf := bnd_e hf x8 ex8
      refine lv_iinc (v := x8) (lv' := [(5, .int x8), (6, .int s0), (0, .ref m0), (1, .int l1), (2, .int l2), (3, .int l3), (4, .int l4), (7, .int l7)]) hx hb dX8_even_261 hl (k := 6) rfl (by rw [ex8]; rfl) (by decide) rfl (fun ls hl => ?_)
      refine lv_goto (tgt := 143) hx hb dX8_even_264 (by decide) ?_
      replace hf := Option.some.inj hf
      subst hf
      exact hM _ _ _ hI (lv_sub hl [2, 3, 4, 5, 6, 0, 1] rfl)
    · replace hf := ite_f hc hf
      refine lv_aload_n hx hb dX8_even_252 rfl (lv_at hl 1 rfl) ?_
      refine lv_iload hx hb dX8_even_253 (lv_at hl 7 rfl) ?_
      refine lv_iload_n hx hb dX8_even_255 rfl (lv_at hl 4 rfl) ?_
      refine lv_iload hx hb dX8_even_256 (lv_at hl 5 rfl) ?_
      obtain ⟨o9, ho9, hf⟩ := bd_e hf
      refine w_Vv0 (wc := (wM cI cJ cZ m0 m1 m2 m3 m4 m5 m6 m7 m8 m9 m10 m11 m12 m13 M_posts M_roads M_size M_rows M_nextRows M_first M_second M_number M_lists M_square M_fan M_trial M_touching M_having M_most M_only M_can M_next)) (wr := []) (rest := []) hx hb hml hg hown hK hA hI (kX8_swapped l D cI cJ cZ m0 m1 m2 m3 m4 m5 m6 m7 m8 m9 m10 m11 m12 m13 M_posts M_roads M_size M_rows M_nextRows M_first M_second M_number M_lists M_square M_fan M_trial M_touching M_having M_most M_only M_can M_next l7 l3 l4 o9 ho9) kvX8_swapped wL_RX8_110 ⟨Nat.le_of_ble_eq_true rfl, Nat.le_of_ble_eq_true rfl⟩ rfl rfl [0, 1, 2, 3, 4, 5, 6, 7, 8, 9, 10, 11, 12, 13] [] rfl rfl rfl rfl (by decide) rfl rfl hl.1 (Nat.le_of_ble_eq_true rfl) dX8_even_258 ⟨Nat.zero_le _, Nat.zero_le _⟩ ⟨rfl, rfl⟩ (fun  u H locs hp hI => ?_)
      replace hI : WI D A s.heap (wM cI cJ cZ m0 m1 m2 m3 m4 m5 m6 m7 m8 m9 m10 m11 m12 m13 M_posts M_roads M_size M_rows M_nextRows M_first M_second o9 M_lists M_square M_fan M_trial M_touching M_having M_most M_only M_can M_next) H locs := hI
      obtain ⟨x10, ex10⟩ : ∃ y : Int32, y = (l5 + (1 : Int32)) := ⟨_, rfl⟩
      replace hf := bnd_e hf x10 ex10
      refine lv_iinc (v := x10) (lv' := [(5, .int x10), (6, .int s0), (0, .ref m0), (1, .int l1), (2, .int l2), (3, .int l3), (4, .int l4), (7, .int l7)]) hx hb dX8_even_261 hl (k := 6) rfl (by rw [ex10]; rfl) (by decide) rfl (fun ls hl => ?_)
      refine lv_goto (tgt := 143) hx hb dX8_even_264 (by decide) ?_
      replace hf := Option.some.inj hf
      subst hf
      exact hM _ _ _ hI (lv_sub hl [2, 3, 4, 5, 6, 0, 1] rfl)
  have J235 : ∀ (M_number : Nat → Int32) (l1 : Int32) (l2 : Int32) (l3 : Int32) (l4 : Int32) (l5 : Int32) (l7 : Int32) (l8 : Int32) (x : ((Nat → Int32) × Int32 × Int32) ⊕ (((Nat → Int32) × Int32) ⊕ (Int32 × (Nat → Int32)))), X8_even_J235 M_roads M_first M_second M_number l1 l2 l3 l4 l5 l7 l8 = some x → (fun z => Sum.elim (fun (v2 : (Nat → Int32) × Int32 × Int32) => ∀ (H : Heap) (locs : List Loc) (ls : Array Slot), WI D A s.heap (wM cI cJ cZ m0 m1 m2 m3 m4 m5 m6 m7 m8 m9 m10 m11 m12 m13 M_posts M_roads M_size M_rows M_nextRows M_first M_second v2.1 M_lists M_square M_fan M_trial M_touching M_having M_most M_only M_can M_next) H locs → lv_has ls 10 [(0, .ref m0), (1, .int l1), (2, .int l2), (3, .int l3), (4, .int l4), (5, .int v2.2.1), (6, .int v2.2.2)] → GX8_even p l e s m below meth c D cI cJ cZ m0 m1 m2 m3 m4 m5 m6 m7 m8 m9 m10 m11 m12 m13 M_posts M_roads M_size M_rows M_nextRows M_first M_second M_number_0 M_lists M_square M_fan M_trial M_touching M_having M_most M_only M_can M_next a1 out H locs (F0 m 143 ls [])) (fun z => Sum.elim (fun (v1 : (Nat → Int32) × Int32) => ∀ (H : Heap) (locs : List Loc) (ls : Array Slot), WI D A s.heap (wM cI cJ cZ m0 m1 m2 m3 m4 m5 m6 m7 m8 m9 m10 m11 m12 m13 M_posts M_roads M_size M_rows M_nextRows M_first M_second v1.1 M_lists M_square M_fan M_trial M_touching M_having M_most M_only M_can M_next) H locs → lv_has ls 10 [(0, .ref m0), (1, .int l1), (2, .int v1.2)] → GX8_even p l e s m below meth c D cI cJ cZ m0 m1 m2 m3 m4 m5 m6 m7 m8 m9 m10 m11 m12 m13 M_posts M_roads M_size M_rows M_nextRows M_first M_second M_number_0 M_lists M_square M_fan M_trial M_touching M_having M_most M_only M_can M_next a1 out H locs (F0 m 63 ls [])) (fun z : Int32 × (Nat → Int32) => z = out) z) z) x → ∀ (H : Heap) (locs : List Loc) (ls : Array Slot), WI D A s.heap (wM cI cJ cZ m0 m1 m2 m3 m4 m5 m6 m7 m8 m9 m10 m11 m12 m13 M_posts M_roads M_size M_rows M_nextRows M_first M_second M_number M_lists M_square M_fan M_trial M_touching M_having M_most M_only M_can M_next) H locs → lv_has ls 10 [(0, .ref m0), (1, .int l1), (2, .int l2), (3, .int l3), (4, .int l4), (5, .int l5), (7, .int l7), (8, .int l8)] → GX8_even p l e s m below meth c D cI cJ cZ m0 m1 m2 m3 m4 m5 m6 m7 m8 m9 m10 m11 m12 m13 M_posts M_roads M_size M_rows M_nextRows M_first M_second M_number_0 M_lists M_square M_fan M_trial M_touching M_having M_most M_only M_can M_next a1 out H locs (F0 m 235 ls []) := by
    intro M_number l1 l2 l3 l4 l5 l7 l8 x hf hM H locs ls hI hl
    refine lv_iload hx hb dX8_even_235 (lv_at hl 7 rfl) ?_
    refine lv_if_le (tgt := 244) hx hb dX8_even_237 (by decide) (fun hc => ?_) (fun hc => ?_)
    · replace hf := ite_t hc hf
      refine lv_iconst (v := 0) hx hb dX8_even_244 (by decide) ?_
      exact J245 M_number l1 l2 l3 l4 l5 l7 (0 : Int32) _ hf hM _ _ _ hI (lv_sub hl [0, 1, 2, 3, 4, 5, 6] rfl)
    · replace hf := ite_f hc hf
      refine lv_iconst (v := 1) hx hb dX8_even_240 (by decide) ?_
      refine lv_goto (tgt := 245) hx hb dX8_even_241 (by decide) ?_
      exact J245 M_number l1 l2 l3 l4 l5 l7 (1 : Int32) _ hf hM _ _ _ hI (lv_sub hl [0, 1, 2, 3, 4, 5, 6] rfl)
  have L188 : ∀ (M_number : Nat → Int32) (l1 : Int32) (l2 : Int32) (l3 : Int32) (l4 : Int32) (l5 : Int32) (l7 : Int32), ∀ (v : Int32 × Int32) (x : ((Nat → Int32) × Int32 × Int32) ⊕ (((Nat → Int32) × Int32) ⊕ (Int32 × (Nat → Int32)))), loopO (X8_even_L188 M_roads M_first M_second M_number l1 l2 l3 l4 l5 l7) v = some x → (fun z => Sum.elim (fun (v2 : (Nat → Int32) × Int32 × Int32) => ∀ (H : Heap) (locs : List Loc) (ls : Array Slot), WI D A s.heap (wM cI cJ cZ m0 m1 m2 m3 m4 m5 m6 m7 m8 m9 m10 m11 m12 m13 M_posts M_roads M_size M_rows M_nextRows M_first M_second v2.1 M_lists M_square M_fan M_trial M_touching M_having M_most M_only M_can M_next) H locs → lv_has ls 10 [(0, .ref m0), (1, .int l1), (2, .int l2), (3, .int l3), (4, .int l4), (5, .int v2.2.1), (6, .int v2.2.2)] → GX8_even p l e s m below meth c D cI cJ cZ m0 m1 m2 m3 m4 m5 m6 m7 m8 m9 m10 m11 m12 m13 M_posts M_roads M_size M_rows M_nextRows M_first M_second M_number_0 M_lists M_square M_fan M_trial M_touching M_having M_most M_only M_can M_next a1 out H locs (F0 m 143 ls [])) (fun z => Sum.elim (fun (v1 : (Nat → Int32) × Int32) => ∀ (H : Heap) (locs : List Loc) (ls : Array Slot), WI D A s.heap (wM cI cJ cZ m0 m1 m2 m3 m4 m5 m6 m7 m8 m9 m10 m11 m12 m13 M_posts M_roads M_size M_rows M_nextRows M_first M_second v1.1 M_lists M_square M_fan M_trial M_touching M_having M_most M_only M_can M_next) H locs → lv_has ls 10 [(0, .ref m0), (1, .int l1), (2, .int v1.2)] → GX8_even p l e s m below meth c D cI cJ cZ m0 m1 m2 m3 m4 m5 m6 m7 m8 m9 m10 m11 m12 m13 M_posts M_roads M_size M_rows M_nextRows M_first M_second M_number_0 M_lists M_square M_fan M_trial M_touching M_having M_most M_only M_can M_next a1 out H locs (F0 m 63 ls [])) (fun z : Int32 × (Nat → Int32) => z = out) z) z) x → (fun (v : Int32 × Int32) => ∀ (H : Heap) (locs : List Loc) (ls : Array Slot), WI D A s.heap (wM cI cJ cZ m0 m1 m2 m3 m4 m5 m6 m7 m8 m9 m10 m11 m12 m13 M_posts M_roads M_size M_rows M_nextRows M_first M_second M_number M_lists M_square M_fan M_trial M_touching M_having M_most M_only M_can M_next) H locs → lv_has ls 10 [(0, .ref m0), (1, .int l1), (2, .int l2), (3, .int l3), (4, .int l4), (5, .int l5), (7, .int l7), (8, .int v.1), (9, .int v.2)] → GX8_even p l e s m below meth c D cI cJ cZ m0 m1 m2 m3 m4 m5 m6 m7 m8 m9 m10 m11 m12 m13 M_posts M_roads M_size M_rows M_nextRows M_first M_second M_number_0 M_lists M_square M_fan M_trial M_touching M_having M_most M_only M_can M_next a1 out H locs (F0 m 188 ls [])) v := by
    intro M_number l1 l2 l3 l4 l5 l7
    refine loopO_ind (fun (v : Int32 × Int32) => ∀ (H : Heap) (locs : List Loc) (ls : Array Slot), WI D A s.heap (wM cI cJ cZ m0 m1 m2 m3 m4 m5 m6 m7 m8 m9 m10 m11 m12 m13 M_posts M_roads M_size M_rows M_nextRows M_first M_second M_number M_lists M_square M_fan M_trial M_touching M_having M_most M_only M_can M_next) H locs → lv_has ls 10 [(0, .ref m0), (1, .int l1), (2, .int l2), (3, .int l3), (4, .int l4), (5, .int l5), (7, .int l7), (8, .int v.1), (9, .int v.2)] → GX8_even p l e s m below meth c D cI cJ cZ m0 m1 m2 m3 m4 m5 m6 m7 m8 m9 m10 m11 m12 m13 M_posts M_roads M_size M_rows M_nextRows M_first M_second M_number_0 M_lists M_square M_fan M_trial M_touching M_having M_most M_only M_can M_next a1 out H locs (F0 m 188 ls [])) (fun z => Sum.elim (fun (v2 : (Nat → Int32) × Int32 × Int32) => ∀ (H : Heap) (locs : List Loc) (ls : Array Slot), WI D A s.heap (wM cI cJ cZ m0 m1 m2 m3 m4 m5 m6 m7 m8 m9 m10 m11 m12 m13 M_posts M_roads M_size M_rows M_nextRows M_first M_second v2.1 M_lists M_square M_fan M_trial M_touching M_having M_most M_only M_can M_next) H locs → lv_has ls 10 [(0, .ref m0), (1, .int l1), (2, .int l2), (3, .int l3), (4, .int l4), (5, .int v2.2.1), (6, .int v2.2.2)] → GX8_even p l e s m below meth c D cI cJ cZ m0 m1 m2 m3 m4 m5 m6 m7 m8 m9 m10 m11 m12 m13 M_posts M_roads M_size M_rows M_nextRows M_first M_second M_number_0 M_lists M_square M_fan M_trial M_touching M_having M_most M_only M_can M_next a1 out H locs (F0 m 143 ls [])) (fun z => Sum.elim (fun (v1 : (Nat → Int32) × Int32) => ∀ (H : Heap) (locs : List Loc) (ls : Array Slot), WI D A s.heap (wM cI cJ cZ m0 m1 m2 m3 m4 m5 m6 m7 m8 m9 m10 m11 m12 m13 M_posts M_roads M_size M_rows M_nextRows M_first M_second v1.1 M_lists M_square M_fan M_trial M_touching M_having M_most M_only M_can M_next) H locs → lv_has ls 10 [(0, .ref m0), (1, .int l1), (2, .int v1.2)] → GX8_even p l e s m below meth c D cI cJ cZ m0 m1 m2 m3 m4 m5 m6 m7 m8 m9 m10 m11 m12 m13 M_posts M_roads M_size M_rows M_nextRows M_first M_second M_number_0 M_lists M_square M_fan M_trial M_touching M_having M_most M_only M_can M_next a1 out H locs (F0 m 63 ls [])) (fun z : Int32 × (Nat → Int32) => z = out) z) z) ?_
    intro v x hf hM H locs ls hI hl
    refine lv_iload hx hb dX8_even_188 (lv_at hl 8 rfl) ?_
    refine lv_aload_n hx hb dX8_even_190 rfl (lv_at hl 0 rfl) ?_
    refine w_get hx hb hg hown hK hI iX8 0 rfl rfl 1 (by decide) wF_RX8_57 rfl dX8_even_191 ?_
    refine lv_icmp_ge (tgt := 235) hx hb dX8_even_194 (by decide) (fun hc => ?_) (fun hc => ?_)
    · replace hf := ite_t hc hf
      obtain ⟨z, hf2, ez⟩ := mp_e hf
      clear hf
      subst ez
      exact J235 M_number l1 l2 l3 l4 l5 l7 v.1 _ hf2 hM _ _ _ hI (lv_sub hl [0, 1, 2, 3, 4, 5, 6, 7] rfl)
    · replace hf := ite_f hc hf
      refine lv_iload hx hb dX8_even_197 (lv_at hl 6 rfl) ?_
      refine lv_iload hx hb dX8_even_199 (lv_at hl 8 rfl) ?_
      refine lv_ishr hx hb dX8_even_201 ?_
      refine lv_iconst (v := 1) hx hb dX8_even_202 (by decide) ?_
      refine lv_iand hx hb dX8_even_203 ?_
      refine lv_iconst (v := 1) hx hb dX8_even_204 (by decide) ?_
      refine lv_icmp_ne (tgt := 229) hx hb dX8_even_205 (by decide) (fun hc => ?_) (fun hc => ?_)
      · replace hf := ite_f hc hf
        obtain ⟨x11, ex11⟩ : ∃ y : Int32, y = (v.2 + (1 : Int32)) := ⟨_, rfl⟩
        replace hf := bnd_e hf x11 ex11
        refine lv_iinc (v := x11) (lv' := [(9, .int x11), (0, .ref m0), (1, .int l1), (2, .int l2), (3, .int l3), (4, .int l4), (5, .int l5), (7, .int l7), (8, .int v.1)]) hx hb dX8_even_229 hl (k := 8) rfl (by rw [ex11]; rfl) (by decide) rfl (fun ls hl => ?_)
        refine lv_goto (tgt := 188) hx hb dX8_even_232 (by decide) ?_
        replace hf := Option.some.inj hf
        subst hf
        exact hM _ _ _ hI (lv_sub hl [1, 2, 3, 4, 5, 6, 7, 8, 0] rfl)
      · replace hf := ite_t hc hf
        refine lv_iload hx hb dX8_even_208 (lv_at hl 7 rfl) ?_
        refine lv_aload_n hx hb dX8_even_210 rfl (lv_at hl 0 rfl) ?_
        refine w_get hx hb hg hown hK hI iX8 0 rfl rfl 4 (by decide) wF_RX8_16 rfl dX8_even_211 ?_
        refine lv_iload hx hb dX8_even_214 (lv_at hl 8 rfl) ?_
        obtain ⟨hin, hf⟩ := rd_e hf
        refine w_iald hx hb hK hI 3 rfl hin dX8_even_216 (fun x12 ex12 => ?_)
        replace hf := hf x12 ex12
        refine lv_iload_n hx hb dX8_even_217 rfl (lv_at hl 3 rfl) ?_
        refine lv_icmp_ne (tgt := 225) hx hb dX8_even_218 (by decide) (fun hc => ?_) (fun hc => ?_)
        · replace hf := ite_f hc hf
          refine lv_iconst (v := -1) hx hb dX8_even_225 (by decide) ?_
          refine lv_iadd hx hb dX8_even_226 ?_
          refine lv_topi (fun x13 ex13 => ?_)
          replace hf := bnd_e hf x13 ex13
          refine lv_istore (lv' := [(8, .int x13), (0, .ref m0), (1, .int l1), (2, .int l2), (3, .int l3), (4, .int l4), (5, .int l5), (7, .int l7), (9, .int v.2)]) hx hb dX8_even_227 hl (by decide) rfl (fun ls hl => ?_)
          obtain ⟨x14, ex14⟩ : ∃ y : Int32, y = (v.2 + (1 : Int32)) := ⟨_, rfl⟩
          replace hf := bnd_e hf x14 ex14
          refine lv_iinc (v := x14) (lv' := [(9, .int x14), (8, .int x13), (0, .ref m0), (1, .int l1), (2, .int l2), (3, .int l3), (4, .int l4), (5, .int l5), (7, .int l7)]) hx hb dX8_even_229 hl (k := 8) rfl (by rw [ex14]; rfl) (by decide) rfl (fun ls hl => ?_)
          refine lv_goto (tgt := 188) hx hb dX8_even_232 (by decide) ?_
          replace hf := Option.some.inj hf
          subst hf
          exact hM _ _ _ hI (lv_sub hl [2, 3, 4, 5, 6, 7, 8, 1, 0] rfl)
        · replace hf := ite_t hc hf
          refine lv_iconst (v := 1) hx hb dX8_even_221 (by decide) ?_
          refine lv_goto (tgt := 226) hx hb dX8_even_222 (by decide) ?_
          refine lv_iadd hx hb dX8_even_226 ?_
          refine lv_topi (fun x15 ex15 => ?_)
          replace hf := bnd_e hf x15 ex15
          refine lv_istore (lv' := [(8, .int x15), (0, .ref m0), (1, .int l1), (2, .int l2), (3, .int l3), (4, .int l4), (5, .int l5), (7, .int l7), (9, .int v.2)]) hx hb dX8_even_227 hl (by decide) rfl (fun ls hl => ?_)
          obtain ⟨x16, ex16⟩ : ∃ y : Int32, y = (v.2 + (1 : Int32)) := ⟨_, rfl⟩
          replace hf := bnd_e hf x16 ex16
          refine lv_iinc (v := x16) (lv' := [(9, .int x16), (8, .int x15), (0, .ref m0), (1, .int l1), (2, .int l2), (3, .int l3), (4, .int l4), (5, .int l5), (7, .int l7)]) hx hb dX8_even_229 hl (k := 8) rfl (by rw [ex16]; rfl) (by decide) rfl (fun ls hl => ?_)
          refine lv_goto (tgt := 188) hx hb dX8_even_232 (by decide) ?_
          replace hf := Option.some.inj hf
          subst hf
          exact hM _ _ _ hI (lv_sub hl [2, 3, 4, 5, 6, 7, 8, 1, 0] rfl)
  have J171 : ∀ (M_number : Nat → Int32) (l1 : Int32) (l2 : Int32) (l3 : Int32) (l4 : Int32) (l5 : Int32) (x : ((Nat → Int32) × Int32 × Int32) ⊕ (((Nat → Int32) × Int32) ⊕ (Int32 × (Nat → Int32)))), X8_even_J171 M_roads M_first M_second M_number l1 l2 l3 l4 l5 = some x → (fun z => Sum.elim (fun (v2 : (Nat → Int32) × Int32 × Int32) => ∀ (H : Heap) (locs : List Loc) (ls : Array Slot), WI D A s.heap (wM cI cJ cZ m0 m1 m2 m3 m4 m5 m6 m7 m8 m9 m10 m11 m12 m13 M_posts M_roads M_size M_rows M_nextRows M_first M_second v2.1 M_lists M_square M_fan M_trial M_touching M_having M_most M_only M_can M_next) H locs → lv_has ls 10 [(0, .ref m0), (1, .int l1), (2, .int l2), (3, .int l3), (4, .int l4), (5, .int v2.2.1), (6, .int v2.2.2)] → GX8_even p l e s m below meth c D cI cJ cZ m0 m1 m2 m3 m4 m5 m6 m7 m8 m9 m10 m11 m12 m13 M_posts M_roads M_size M_rows M_nextRows M_first M_second M_number_0 M_lists M_square M_fan M_trial M_touching M_having M_most M_only M_can M_next a1 out H locs (F0 m 143 ls [])) (fun z => Sum.elim (fun (v1 : (Nat → Int32) × Int32) => ∀ (H : Heap) (locs : List Loc) (ls : Array Slot), WI D A s.heap (wM cI cJ cZ m0 m1 m2 m3 m4 m5 m6 m7 m8 m9 m10 m11 m12 m13 M_posts M_roads M_size M_rows M_nextRows M_first M_second v1.1 M_lists M_square M_fan M_trial M_touching M_having M_most M_only M_can M_next) H locs → lv_has ls 10 [(0, .ref m0), (1, .int l1), (2, .int v1.2)] → GX8_even p l e s m below meth c D cI cJ cZ m0 m1 m2 m3 m4 m5 m6 m7 m8 m9 m10 m11 m12 m13 M_posts M_roads M_size M_rows M_nextRows M_first M_second M_number_0 M_lists M_square M_fan M_trial M_touching M_having M_most M_only M_can M_next a1 out H locs (F0 m 63 ls [])) (fun z : Int32 × (Nat → Int32) => z = out) z) z) x → ∀ (H : Heap) (locs : List Loc) (ls : Array Slot), WI D A s.heap (wM cI cJ cZ m0 m1 m2 m3 m4 m5 m6 m7 m8 m9 m10 m11 m12 m13 M_posts M_roads M_size M_rows M_nextRows M_first M_second M_number M_lists M_square M_fan M_trial M_touching M_having M_most M_only M_can M_next) H locs → lv_has ls 10 [(0, .ref m0), (1, .int l1), (2, .int l2), (3, .int l3), (4, .int l4), (5, .int l5)] → GX8_even p l e s m below meth c D cI cJ cZ m0 m1 m2 m3 m4 m5 m6 m7 m8 m9 m10 m11 m12 m13 M_posts M_roads M_size M_rows M_nextRows M_first M_second M_number_0 M_lists M_square M_fan M_trial M_touching M_having M_most M_only M_can M_next a1 out H locs (F0 m 171 ls []) := by
    intro M_number l1 l2 l3 l4 l5 x hf hM H locs ls hI hl
    refine lv_aload_n hx hb dX8_even_171 rfl (lv_at hl 0 rfl) ?_
    refine lv_iload hx hb dX8_even_172 (lv_at hl 5 rfl) ?_
    refine lv_iload_n hx hb dX8_even_174 rfl (lv_at hl 3 rfl) ?_
    refine lv_iload hx hb dX8_even_175 (lv_at hl 4 rfl) ?_
    obtain ⟨o7, ho7, hf⟩ := bd_e hf
    refine w_Vi0 (wc := (wM cI cJ cZ m0 m1 m2 m3 m4 m5 m6 m7 m8 m9 m10 m11 m12 m13 M_posts M_roads M_size M_rows M_nextRows M_first M_second M_number M_lists M_square M_fan M_trial M_touching M_having M_most M_only M_can M_next)) (wr := []) (rest := []) hx hb hml hg hown hK hA hI (kX8_chainOf l D cI cJ cZ m0 m1 m2 m3 m4 m5 m6 m7 m8 m9 m10 m11 m12 m13 M_posts M_roads M_size M_rows M_nextRows M_first M_second M_number M_lists M_square M_fan M_trial M_touching M_having M_most M_only M_can M_next l5 l3 l4 o7 ho7) kvX8_chainOf wL_RX8_103 ⟨Nat.le_of_ble_eq_true rfl, Nat.le_of_ble_eq_true rfl⟩ rfl rfl [0, 1, 2, 3, 4, 5, 6, 7, 8, 9, 10, 11, 12, 13] [] rfl rfl rfl rfl (by decide) rfl rfl hl.1 (Nat.le_of_ble_eq_true rfl) dX8_even_177 ⟨Nat.zero_le _, Nat.zero_le _⟩ ⟨rfl, rfl⟩ (fun r u H locs hp hI => ?_)
    replace hp : r = o7 := hp
    rw [hp]
    clear hp
    replace hI : WI D A s.heap (wM cI cJ cZ m0 m1 m2 m3 m4 m5 m6 m7 m8 m9 m10 m11 m12 m13 M_posts M_roads M_size M_rows M_nextRows M_first M_second M_number M_lists M_square M_fan M_trial M_touching M_having M_most M_only M_can M_next) H locs := hI
    refine lv_istore (lv' := [(7, .int o7), (0, .ref m0), (1, .int l1), (2, .int l2), (3, .int l3), (4, .int l4), (5, .int l5)]) hx hb dX8_even_180 hl (by decide) rfl (fun ls hl => ?_)
    refine lv_iconst (v := 0) hx hb dX8_even_182 (by decide) ?_
    refine lv_istore (lv' := [(8, .int (0 : Int32)), (7, .int o7), (0, .ref m0), (1, .int l1), (2, .int l2), (3, .int l3), (4, .int l4), (5, .int l5)]) hx hb dX8_even_183 hl (by decide) rfl (fun ls hl => ?_)
    refine lv_iconst (v := 0) hx hb dX8_even_185 (by decide) ?_
    refine lv_istore (lv' := [(9, .int (0 : Int32)), (8, .int (0 : Int32)), (7, .int o7), (0, .ref m0), (1, .int l1), (2, .int l2), (3, .int l3), (4, .int l4), (5, .int l5)]) hx hb dX8_even_186 hl (by decide) rfl (fun ls hl => ?_)
    exact L188 M_number l1 l2 l3 l4 l5 o7 ((0 : Int32), (0 : Int32)) _ hf hM _ _ _ hI (lv_sub hl [3, 4, 5, 6, 7, 8, 2, 1, 0] rfl)
  have L143 : ∀ (l1 : Int32) (l2 : Int32) (l3 : Int32) (l4 : Int32), ∀ (v : (Nat → Int32) × Int32 × Int32) (x : ((Nat → Int32) × Int32) ⊕ (Int32 × (Nat → Int32))), loopO (X8_even_L143 M_roads M_first M_second l1 l2 l3 l4) v = some x → (fun z => Sum.elim (fun (v1 : (Nat → Int32) × Int32) => ∀ (H : Heap) (locs : List Loc) (ls : Array Slot), WI D A s.heap (wM cI cJ cZ m0 m1 m2 m3 m4 m5 m6 m7 m8 m9 m10 m11 m12 m13 M_posts M_roads M_size M_rows M_nextRows M_first M_second v1.1 M_lists M_square M_fan M_trial M_touching M_having M_most M_only M_can M_next) H locs → lv_has ls 10 [(0, .ref m0), (1, .int l1), (2, .int v1.2)] → GX8_even p l e s m below meth c D cI cJ cZ m0 m1 m2 m3 m4 m5 m6 m7 m8 m9 m10 m11 m12 m13 M_posts M_roads M_size M_rows M_nextRows M_first M_second M_number_0 M_lists M_square M_fan M_trial M_touching M_having M_most M_only M_can M_next a1 out H locs (F0 m 63 ls [])) (fun z : Int32 × (Nat → Int32) => z = out) z) x → (fun (v : (Nat → Int32) × Int32 × Int32) => ∀ (H : Heap) (locs : List Loc) (ls : Array Slot), WI D A s.heap (wM cI cJ cZ m0 m1 m2 m3 m4 m5 m6 m7 m8 m9 m10 m11 m12 m13 M_posts M_roads M_size M_rows M_nextRows M_first M_second v.1 M_lists M_square M_fan M_trial M_touching M_having M_most M_only M_can M_next) H locs → lv_has ls 10 [(0, .ref m0), (1, .int l1), (2, .int l2), (3, .int l3), (4, .int l4), (5, .int v.2.1), (6, .int v.2.2)] → GX8_even p l e s m below meth c D cI cJ cZ m0 m1 m2 m3 m4 m5 m6 m7 m8 m9 m10 m11 m12 m13 M_posts M_roads M_size M_rows M_nextRows M_first M_second M_number_0 M_lists M_square M_fan M_trial M_touching M_having M_most M_only M_can M_next a1 out H locs (F0 m 143 ls [])) v := by
    intro l1 l2 l3 l4
    refine loopO_ind (fun (v : (Nat → Int32) × Int32 × Int32) => ∀ (H : Heap) (locs : List Loc) (ls : Array Slot), WI D A s.heap (wM cI cJ cZ m0 m1 m2 m3 m4 m5 m6 m7 m8 m9 m10 m11 m12 m13 M_posts M_roads M_size M_rows M_nextRows M_first M_second v.1 M_lists M_square M_fan M_trial M_touching M_having M_most M_only M_can M_next) H locs → lv_has ls 10 [(0, .ref m0), (1, .int l1), (2, .int l2), (3, .int l3), (4, .int l4), (5, .int v.2.1), (6, .int v.2.2)] → GX8_even p l e s m below meth c D cI cJ cZ m0 m1 m2 m3 m4 m5 m6 m7 m8 m9 m10 m11 m12 m13 M_posts M_roads M_size M_rows M_nextRows M_first M_second M_number_0 M_lists M_square M_fan M_trial M_touching M_having M_most M_only M_can M_next a1 out H locs (F0 m 143 ls [])) (fun z => Sum.elim (fun (v1 : (Nat → Int32) × Int32) => ∀ (H : Heap) (locs : List Loc) (ls : Array Slot), WI D A s.heap (wM cI cJ cZ m0 m1 m2 m3 m4 m5 m6 m7 m8 m9 m10 m11 m12 m13 M_posts M_roads M_size M_rows M_nextRows M_first M_second v1.1 M_lists M_square M_fan M_trial M_touching M_having M_most M_only M_can M_next) H locs → lv_has ls 10 [(0, .ref m0), (1, .int l1), (2, .int v1.2)] → GX8_even p l e s m below meth c D cI cJ cZ m0 m1 m2 m3 m4 m5 m6 m7 m8 m9 m10 m11 m12 m13 M_posts M_roads M_size M_rows M_nextRows M_first M_second M_number_0 M_lists M_square M_fan M_trial M_touching M_having M_most M_only M_can M_next a1 out H locs (F0 m 63 ls [])) (fun z : Int32 × (Nat → Int32) => z = out) z) ?_
    intro v x hf hM H locs ls hI hl
    refine lv_iload hx hb dX8_even_143 (lv_at hl 6 rfl) ?_
    refine lv_if_ne (tgt := 267) hx hb dX8_even_145 (by decide) (fun hc => ?_) (fun hc => ?_)
    · replace hf := ite_f hc hf
      obtain ⟨x5, ex5⟩ : ∃ y : Int32, y = (l2 + (1 : Int32)) := ⟨_, rfl⟩
      replace hf := bnd_e hf x5 ex5
      refine lv_iinc (v := x5) (lv' := [(2, .int x5), (0, .ref m0), (1, .int l1), (3, .int l3), (4, .int l4), (5, .int v.2.1), (6, .int v.2.2)]) hx hb dX8_even_267 hl (k := 2) rfl (by rw [ex5]; rfl) (by decide) rfl (fun ls hl => ?_)
      refine lv_goto (tgt := 63) hx hb dX8_even_270 (by decide) ?_
      replace hf := Option.some.inj hf
      subst hf
      exact hM _ _ _ hI (lv_sub hl [1, 2, 0] rfl)
    · replace hf := ite_t hc hf
      refine lv_aload_n hx hb dX8_even_148 rfl (lv_at hl 0 rfl) ?_
      refine w_get hx hb hg hown hK hI iX8 0 rfl rfl 4 (by decide) wF_RX8_16 rfl dX8_even_149 ?_
      refine lv_iload hx hb dX8_even_152 (lv_at hl 5 rfl) ?_
      obtain ⟨hin, hf⟩ := rd_e hf
      refine w_iald hx hb hK hI 3 rfl hin dX8_even_154 (fun x6 ex6 => ?_)
      replace hf := hf x6 ex6
      refine lv_iload_n hx hb dX8_even_155 rfl (lv_at hl 3 rfl) ?_
      refine lv_icmp_eq (tgt := 171) hx hb dX8_even_156 (by decide) (fun hc => ?_) (fun hc => ?_)
      · replace hf := ite_t hc hf
        exact J171 v.1 l1 l2 l3 l4 v.2.1 _ hf hM _ _ _ hI (lv_sub hl [0, 1, 2, 3, 4, 5] rfl)
      · replace hf := ite_f hc hf
        refine lv_aload_n hx hb dX8_even_159 rfl (lv_at hl 0 rfl) ?_
        refine w_get hx hb hg hown hK hI iX8 0 rfl rfl 4 (by decide) wF_RX8_16 rfl dX8_even_160 ?_
        refine lv_iload hx hb dX8_even_163 (lv_at hl 5 rfl) ?_
        obtain ⟨hin, hf⟩ := rd_e hf
        refine w_iald hx hb hK hI 3 rfl hin dX8_even_165 (fun x17 ex17 => ?_)
        replace hf := hf x17 ex17
        refine lv_iload hx hb dX8_even_166 (lv_at hl 4 rfl) ?_
        refine lv_icmp_ne (tgt := 261) hx hb dX8_even_168 (by decide) (fun hc => ?_) (fun hc => ?_)
        · replace hf := ite_f hc hf
          obtain ⟨x18, ex18⟩ : ∃ y : Int32, y = (v.2.1 + (1 : Int32)) := ⟨_, rfl⟩
          replace hf := bnd_e hf x18 ex18
          refine lv_iinc (v := x18) (lv' := [(5, .int x18), (0, .ref m0), (1, .int l1), (2, .int l2), (3, .int l3), (4, .int l4), (6, .int v.2.2)]) hx hb dX8_even_261 hl (k := 5) rfl (by rw [ex18]; rfl) (by decide) rfl (fun ls hl => ?_)
          refine lv_goto (tgt := 143) hx hb dX8_even_264 (by decide) ?_
          replace hf := Option.some.inj hf
          subst hf
          exact hM _ _ _ hI (lv_sub hl [1, 2, 3, 4, 5, 0, 6] rfl)
        · replace hf := ite_t hc hf
          exact J171 v.1 l1 l2 l3 l4 v.2.1 _ hf hM _ _ _ hI (lv_sub hl [0, 1, 2, 3, 4, 5] rfl)
  have J119 : ∀ (M_number : Nat → Int32) (l1 : Int32) (l2 : Int32) (l3 : Int32) (l4 : Int32) (x : ((Nat → Int32) × Int32) ⊕ (Int32 × (Nat → Int32))), X8_even_J119 M_roads M_first M_second M_number l1 l2 l3 l4 = some x → (fun z => Sum.elim (fun (v1 : (Nat → Int32) × Int32) => ∀ (H : Heap) (locs : List Loc) (ls : Array Slot), WI D A s.heap (wM cI cJ cZ m0 m1 m2 m3 m4 m5 m6 m7 m8 m9 m10 m11 m12 m13 M_posts M_roads M_size M_rows M_nextRows M_first M_second v1.1 M_lists M_square M_fan M_trial M_touching M_having M_most M_only M_can M_next) H locs → lv_has ls 10 [(0, .ref m0), (1, .int l1), (2, .int v1.2)] → GX8_even p l e s m below meth c D cI cJ cZ m0 m1 m2 m3 m4 m5 m6 m7 m8 m9 m10 m11 m12 m13 M_posts M_roads M_size M_rows M_nextRows M_first M_second M_number_0 M_lists M_square M_fan M_trial M_touching M_having M_most M_only M_can M_next a1 out H locs (F0 m 63 ls [])) (fun z : Int32 × (Nat → Int32) => z = out) z) x → ∀ (H : Heap) (locs : List Loc) (ls : Array Slot), WI D A s.heap (wM cI cJ cZ m0 m1 m2 m3 m4 m5 m6 m7 m8 m9 m10 m11 m12 m13 M_posts M_roads M_size M_rows M_nextRows M_first M_second M_number M_lists M_square M_fan M_trial M_touching M_having M_most M_only M_can M_next) H locs → lv_has ls 10 [(0, .ref m0), (1, .int l1), (2, .int l2), (3, .int l3), (4, .int l4)] → GX8_even p l e s m below meth c D cI cJ cZ m0 m1 m2 m3 m4 m5 m6 m7 m8 m9 m10 m11 m12 m13 M_posts M_roads M_size M_rows M_nextRows M_first M_second M_number_0 M_lists M_square M_fan M_trial M_touching M_having M_most M_only M_can M_next a1 out H locs (F0 m 119 ls []) := by
    intro M_number l1 l2 l3 l4 x hf hM H locs ls hI hl
    refine lv_aload_n hx hb dX8_even_119 rfl (lv_at hl 0 rfl) ?_
    refine lv_iload_n hx hb dX8_even_120 rfl (lv_at hl 3 rfl) ?_
    obtain ⟨o3, ho3, hf⟩ := bd_e hf
    refine w_Vi0 (wc := (wM cI cJ cZ m0 m1 m2 m3 m4 m5 m6 m7 m8 m9 m10 m11 m12 m13 M_posts M_roads M_size M_rows M_nextRows M_first M_second M_number M_lists M_square M_fan M_trial M_touching M_having M_most M_only M_can M_next)) (wr := []) (rest := []) hx hb hml hg hown hK hA hI (kX8_haveIt l D cI cJ cZ m0 m1 m2 m3 m4 m5 m6 m7 m8 m9 m10 m11 m12 m13 M_posts M_roads M_size M_rows M_nextRows M_first M_second M_number M_lists M_square M_fan M_trial M_touching M_having M_most M_only M_can M_next l3 o3 ho3) kvX8_haveIt wL_RX8_133 ⟨Nat.le_of_ble_eq_true rfl, Nat.le_of_ble_eq_true rfl⟩ rfl rfl [0, 1, 2, 3, 4, 5, 6, 7, 8, 9, 10, 11, 12, 13] [] rfl rfl rfl rfl (by decide) rfl rfl hl.1 (Nat.le_of_ble_eq_true rfl) dX8_even_121 ⟨Nat.zero_le _, Nat.zero_le _⟩ ⟨rfl, rfl⟩ (fun r u H locs hp hI => ?_)
    replace hp : r = o3 := hp
    rw [hp]
    clear hp
    replace hI : WI D A s.heap (wM cI cJ cZ m0 m1 m2 m3 m4 m5 m6 m7 m8 m9 m10 m11 m12 m13 M_posts M_roads M_size M_rows M_nextRows M_first M_second M_number M_lists M_square M_fan M_trial M_touching M_having M_most M_only M_can M_next) H locs := hI
    refine lv_aload_n hx hb dX8_even_124 rfl (lv_at hl 0 rfl) ?_
    refine lv_iload hx hb dX8_even_125 (lv_at hl 4 rfl) ?_
    obtain ⟨o4, ho4, hf⟩ := bd_e hf
    refine w_Vi0 (wc := (wM cI cJ cZ m0 m1 m2 m3 m4 m5 m6 m7 m8 m9 m10 m11 m12 m13 M_posts M_roads M_size M_rows M_nextRows M_first M_second M_number M_lists M_square M_fan M_trial M_touching M_having M_most M_only M_can M_next)) (wr := []) (rest := [.int o3]) hx hb hml hg hown hK hA hI (kX8_haveIt l D cI cJ cZ m0 m1 m2 m3 m4 m5 m6 m7 m8 m9 m10 m11 m12 m13 M_posts M_roads M_size M_rows M_nextRows M_first M_second M_number M_lists M_square M_fan M_trial M_touching M_having M_most M_only M_can M_next l4 o4 ho4) kvX8_haveIt wL_RX8_133 ⟨Nat.le_of_ble_eq_true rfl, Nat.le_of_ble_eq_true rfl⟩ rfl rfl [0, 1, 2, 3, 4, 5, 6, 7, 8, 9, 10, 11, 12, 13] [] rfl rfl rfl rfl (by decide) rfl rfl hl.1 (Nat.le_of_ble_eq_true rfl) dX8_even_127 ⟨Nat.zero_le _, Nat.zero_le _⟩ ⟨rfl, rfl⟩ (fun r u H locs hp hI => ?_)
    replace hp : r = o4 := hp
    rw [hp]
    clear hp
    replace hI : WI D A s.heap (wM cI cJ cZ m0 m1 m2 m3 m4 m5 m6 m7 m8 m9 m10 m11 m12 m13 M_posts M_roads M_size M_rows M_nextRows M_first M_second M_number M_lists M_square M_fan M_trial M_touching M_having M_most M_only M_can M_next) H locs := hI
    refine lv_iconst (v := 2) hx hb dX8_even_130 (by decide) ?_
    refine lv_iadd hx hb dX8_even_131 ?_
    refine lv_icmp_ge (tgt := 137) hx hb dX8_even_132 (by decide) (fun hc => ?_) (fun hc => ?_)
    · replace hf := ite_t hc hf
      refine lv_iconst (v := 0) hx hb dX8_even_137 (by decide) ?_
      refine lv_istore (lv' := [(5, .int (0 : Int32)), (0, .ref m0), (1, .int l1), (2, .int l2), (3, .int l3), (4, .int l4)]) hx hb dX8_even_138 hl (by decide) rfl (fun ls hl => ?_)
      refine lv_iconst (v := 0) hx hb dX8_even_140 (by decide) ?_
      refine lv_istore (lv' := [(6, .int (0 : Int32)), (5, .int (0 : Int32)), (0, .ref m0), (1, .int l1), (2, .int l2), (3, .int l3), (4, .int l4)]) hx hb dX8_even_141 hl (by decide) rfl (fun ls hl => ?_)
      exact L143 l1 l2 l3 l4 (M_number, (0 : Int32), (0 : Int32)) _ hf hM _ _ _ hI (lv_sub hl [2, 3, 4, 5, 6, 1, 0] rfl)
    · replace hf := ite_f hc hf
      refine lv_iload_n hx hb dX8_even_135 rfl (lv_at hl 2 rfl) ?_
      replace hf := Option.some.inj hf
      subst hf
      replace hM : (l2, M_number) = out := hM
      subst hM
      exact rt_i (u := ()) hx hb hr hlocks rfl hI hAe rfl dX8_even_136
  have J94 : ∀ (M_number : Nat → Int32) (l1 : Int32) (l2 : Int32) (l3 : Int32) (l4 : Int32) (l5 : Int32) (x : (Int32 × Int32 × Int32) ⊕ (((Nat → Int32) × Int32) ⊕ (Int32 × (Nat → Int32)))), X8_even_J94 M_roads M_first M_second M_number l1 l2 l3 l4 l5 = some x → (fun z => Sum.elim (fun (v2 : Int32 × Int32 × Int32) => ∀ (H : Heap) (locs : List Loc) (ls : Array Slot), WI D A s.heap (wM cI cJ cZ m0 m1 m2 m3 m4 m5 m6 m7 m8 m9 m10 m11 m12 m13 M_posts M_roads M_size M_rows M_nextRows M_first M_second M_number M_lists M_square M_fan M_trial M_touching M_having M_most M_only M_can M_next) H locs → lv_has ls 10 [(0, .ref m0), (1, .int l1), (2, .int l2), (3, .int v2.1), (4, .int v2.2.1), (5, .int v2.2.2)] → GX8_even p l e s m below meth c D cI cJ cZ m0 m1 m2 m3 m4 m5 m6 m7 m8 m9 m10 m11 m12 m13 M_posts M_roads M_size M_rows M_nextRows M_first M_second M_number_0 M_lists M_square M_fan M_trial M_touching M_having M_most M_only M_can M_next a1 out H locs (F0 m 71 ls [])) (fun z => Sum.elim (fun (v1 : (Nat → Int32) × Int32) => ∀ (H : Heap) (locs : List Loc) (ls : Array Slot), WI D A s.heap (wM cI cJ cZ m0 m1 m2 m3 m4 m5 m6 m7 m8 m9 m10 m11 m12 m13 M_posts M_roads M_size M_rows M_nextRows M_first M_second v1.1 M_lists M_square M_fan M_trial M_touching M_having M_most M_only M_can M_next) H locs → lv_has ls 10 [(0, .ref m0), (1, .int l1), (2, .int v1.2)] → GX8_even p l e s m below meth c D cI cJ cZ m0 m1 m2 m3 m4 m5 m6 m7 m8 m9 m10 m11 m12 m13 M_posts M_roads M_size M_rows M_nextRows M_first M_second M_number_0 M_lists M_square M_fan M_trial M_touching M_having M_most M_only M_can M_next a1 out H locs (F0 m 63 ls [])) (fun z : Int32 × (Nat → Int32) => z = out) z) z) x → ∀ (H : Heap) (locs : List Loc) (ls : Array Slot), WI D A s.heap (wM cI cJ cZ m0 m1 m2 m3 m4 m5 m6 m7 m8 m9 m10 m11 m12 m13 M_posts M_roads M_size M_rows M_nextRows M_first M_second M_number M_lists M_square M_fan M_trial M_touching M_having M_most M_only M_can M_next) H locs → lv_has ls 10 [(0, .ref m0), (1, .int l1), (2, .int l2), (3, .int l3), (4, .int l4), (5, .int l5)] → GX8_even p l e s m below meth c D cI cJ cZ m0 m1 m2 m3 m4 m5 m6 m7 m8 m9 m10 m11 m12 m13 M_posts M_roads M_size M_rows M_nextRows M_first M_second M_number_0 M_lists M_square M_fan M_trial M_touching M_having M_most M_only M_can M_next a1 out H locs (F0 m 94 ls []) := by
    intro M_number l1 l2 l3 l4 l5 x hf hM H locs ls hI hl
    refine lv_aload_n hx hb dX8_even_94 rfl (lv_at hl 0 rfl) ?_
    refine lv_iload hx hb dX8_even_95 (lv_at hl 5 rfl) ?_
    obtain ⟨o21, ho21, hf⟩ := bd_e hf
    refine w_Vi0 (wc := (wM cI cJ cZ m0 m1 m2 m3 m4 m5 m6 m7 m8 m9 m10 m11 m12 m13 M_posts M_roads M_size M_rows M_nextRows M_first M_second M_number M_lists M_square M_fan M_trial M_touching M_having M_most M_only M_can M_next)) (wr := []) (rest := []) hx hb hml hg hown hK hA hI (kX8_haveIt l D cI cJ cZ m0 m1 m2 m3 m4 m5 m6 m7 m8 m9 m10 m11 m12 m13 M_posts M_roads M_size M_rows M_nextRows M_first M_second M_number M_lists M_square M_fan M_trial M_touching M_having M_most M_only M_can M_next l5 o21 ho21) kvX8_haveIt wL_RX8_133 ⟨Nat.le_of_ble_eq_true rfl, Nat.le_of_ble_eq_true rfl⟩ rfl rfl [0, 1, 2, 3, 4, 5, 6, 7, 8, 9, 10, 11, 12, 13] [] rfl rfl rfl rfl (by decide) rfl rfl hl.1 (Nat.le_of_ble_eq_true rfl) dX8_even_97 ⟨Nat.zero_le _, Nat.zero_le _⟩ ⟨rfl, rfl⟩ (fun r u H locs hp hI => ?_)
    replace hp : r = o21 := hp
    rw [hp]
    clear hp
    replace hI : WI D A s.heap (wM cI cJ cZ m0 m1 m2 m3 m4 m5 m6 m7 m8 m9 m10 m11 m12 m13 M_posts M_roads M_size M_rows M_nextRows M_first M_second M_number M_lists M_square M_fan M_trial M_touching M_having M_most M_only M_can M_next) H locs := hI
    refine lv_aload_n hx hb dX8_even_100 rfl (lv_at hl 0 rfl) ?_
    refine lv_iload hx hb dX8_even_101 (lv_at hl 4 rfl) ?_
    obtain ⟨o22, ho22, hf⟩ := bd_e hf
    refine w_Vi0 (wc := (wM cI cJ cZ m0 m1 m2 m3 m4 m5 m6 m7 m8 m9 m10 m11 m12 m13 M_posts M_roads M_size M_rows M_nextRows M_first M_second M_number M_lists M_square M_fan M_trial M_touching M_having M_most M_only M_can M_next)) (wr := []) (rest := [.int o21]) hx hb hml hg hown hK hA hI (kX8_haveIt l D cI cJ cZ m0 m1 m2 m3 m4 m5 m6 m7 m8 m9 m10 m11 m12 m13 M_posts M_roads M_size M_rows M_nextRows M_first M_second M_number M_lists M_square M_fan M_trial M_touching M_having M_most M_only M_can M_next l4 o22 ho22) kvX8_haveIt wL_RX8_133 ⟨Nat.le_of_ble_eq_true rfl, Nat.le_of_ble_eq_true rfl⟩ rfl rfl [0, 1, 2, 3, 4, 5, 6, 7, 8, 9, 10, 11, 12, 13] [] rfl rfl rfl rfl (by decide) rfl rfl hl.1 (Nat.le_of_ble_eq_true rfl) dX8_even_103 ⟨Nat.zero_le _, Nat.zero_le _⟩ ⟨rfl, rfl⟩ (fun r u H locs hp hI => ?_)
    replace hp : r = o22 := hp
    rw [hp]
    clear hp
    replace hI : WI D A s.heap (wM cI cJ cZ m0 m1 m2 m3 m4 m5 m6 m7 m8 m9 m10 m11 m12 m13 M_posts M_roads M_size M_rows M_nextRows M_first M_second M_number M_lists M_square M_fan M_trial M_touching M_having M_most M_only M_can M_next) H locs := hI
    refine lv_icmp_ge (tgt := 113) hx hb dX8_even_106 (by decide) (fun hc => ?_) (fun hc => ?_)
    · replace hf := ite_t hc hf
      obtain ⟨x23, ex23⟩ : ∃ y : Int32, y = (l5 + (1 : Int32)) := ⟨_, rfl⟩
      replace hf := bnd_e hf x23 ex23
      refine lv_iinc (v := x23) (lv' := [(5, .int x23), (0, .ref m0), (1, .int l1), (2, .int l2), (3, .int l3), (4, .int l4)]) hx hb dX8_even_113 hl (k := 5) rfl (by rw [ex23]; rfl) (by decide) rfl (fun ls hl => ?_)
      refine lv_goto (tgt := 71) hx hb dX8_even_116 (by decide) ?_
      replace hf := Option.some.inj hf
      subst hf
      exact hM _ _ _ hI (lv_sub hl [1, 2, 3, 4, 5, 0] rfl)
    · replace hf := ite_f hc hf
      refine lv_iload hx hb dX8_even_109 (lv_at hl 5 rfl) ?_
      refine lv_istore (lv' := [(4, .int l5), (0, .ref m0), (1, .int l1), (2, .int l2), (3, .int l3), (5, .int l5)]) hx hb dX8_even_111 hl (by decide) rfl (fun ls hl => ?_)
      obtain ⟨x24, ex24⟩ : ∃ y : Int32, y = (l5 + (1 : Int32)) := ⟨_, rfl⟩
      replace hf := bnd_e hf x24 ex24
      refine lv_iinc (v := x24) (lv' := [(5, .int x24), (4, .int l5), (0, .ref m0), (1, .int l1), (2, .int l2), (3, .int l3)]) hx hb dX8_even_113 hl (k := 5) rfl (by rw [ex24]; rfl) (by decide) rfl (fun ls hl => ?_)
      refine lv_goto (tgt := 71) hx hb dX8_even_116 (by decide) ?_
      replace hf := Option.some.inj hf
      subst hf
      exact hM _ _ _ hI (lv_sub hl [2, 3, 4, 5, 1, 0] rfl)
  have L71 : ∀ (M_number : Nat → Int32) (l1 : Int32) (l2 : Int32), ∀ (v : Int32 × Int32 × Int32) (x : ((Nat → Int32) × Int32) ⊕ (Int32 × (Nat → Int32))), loopO (X8_even_L71 M_roads M_first M_second M_number l1 l2) v = some x → (fun z => Sum.elim (fun (v1 : (Nat → Int32) × Int32) => ∀ (H : Heap) (locs : List Loc) (ls : Array Slot), WI D A s.heap (wM cI cJ cZ m0 m1 m2 m3 m4 m5 m6 m7 m8 m9 m10 m11 m12 m13 M_posts M_roads M_size M_rows M_nextRows M_first M_second v1.1 M_lists M_square M_fan M_trial M_touching M_having M_most M_only M_can M_next) H locs → lv_has ls 10 [(0, .ref m0), (1, .int l1), (2, .int v1.2)] → GX8_even p l e s m below meth c D cI cJ cZ m0 m1 m2 m3 m4 m5 m6 m7 m8 m9 m10 m11 m12 m13 M_posts M_roads M_size M_rows M_nextRows M_first M_second M_number_0 M_lists M_square M_fan M_trial M_touching M_having M_most M_only M_can M_next a1 out H locs (F0 m 63 ls [])) (fun z : Int32 × (Nat → Int32) => z = out) z) x → (fun (v : Int32 × Int32 × Int32) => ∀ (H : Heap) (locs : List Loc) (ls : Array Slot), WI D A s.heap (wM cI cJ cZ m0 m1 m2 m3 m4 m5 m6 m7 m8 m9 m10 m11 m12 m13 M_posts M_roads M_size M_rows M_nextRows M_first M_second M_number M_lists M_square M_fan M_trial M_touching M_having M_most M_only M_can M_next) H locs → lv_has ls 10 [(0, .ref m0), (1, .int l1), (2, .int l2), (3, .int v.1), (4, .int v.2.1), (5, .int v.2.2)] → GX8_even p l e s m below meth c D cI cJ cZ m0 m1 m2 m3 m4 m5 m6 m7 m8 m9 m10 m11 m12 m13 M_posts M_roads M_size M_rows M_nextRows M_first M_second M_number_0 M_lists M_square M_fan M_trial M_touching M_having M_most M_only M_can M_next a1 out H locs (F0 m 71 ls [])) v := by
    intro M_number l1 l2
    refine loopO_ind (fun (v : Int32 × Int32 × Int32) => ∀ (H : Heap) (locs : List Loc) (ls : Array Slot), WI D A s.heap (wM cI cJ cZ m0 m1 m2 m3 m4 m5 m6 m7 m8 m9 m10 m11 m12 m13 M_posts M_roads M_size M_rows M_nextRows M_first M_second M_number M_lists M_square M_fan M_trial M_touching M_having M_most M_only M_can M_next) H locs → lv_has ls 10 [(0, .ref m0), (1, .int l1), (2, .int l2), (3, .int v.1), (4, .int v.2.1), (5, .int v.2.2)] → GX8_even p l e s m below meth c D cI cJ cZ m0 m1 m2 m3 m4 m5 m6 m7 m8 m9 m10 m11 m12 m13 M_posts M_roads M_size M_rows M_nextRows M_first M_second M_number_0 M_lists M_square M_fan M_trial M_touching M_having M_most M_only M_can M_next a1 out H locs (F0 m 71 ls [])) (fun z => Sum.elim (fun (v1 : (Nat → Int32) × Int32) => ∀ (H : Heap) (locs : List Loc) (ls : Array Slot), WI D A s.heap (wM cI cJ cZ m0 m1 m2 m3 m4 m5 m6 m7 m8 m9 m10 m11 m12 m13 M_posts M_roads M_size M_rows M_nextRows M_first M_second v1.1 M_lists M_square M_fan M_trial M_touching M_having M_most M_only M_can M_next) H locs → lv_has ls 10 [(0, .ref m0), (1, .int l1), (2, .int v1.2)] → GX8_even p l e s m below meth c D cI cJ cZ m0 m1 m2 m3 m4 m5 m6 m7 m8 m9 m10 m11 m12 m13 M_posts M_roads M_size M_rows M_nextRows M_first M_second M_number_0 M_lists M_square M_fan M_trial M_touching M_having M_most M_only M_can M_next a1 out H locs (F0 m 63 ls [])) (fun z : Int32 × (Nat → Int32) => z = out) z) ?_
    intro v x hf hM H locs ls hI hl
    refine lv_iload hx hb dX8_even_71 (lv_at hl 5 rfl) ?_
    refine lv_iload_n hx hb dX8_even_73 rfl (lv_at hl 1 rfl) ?_
    refine lv_icmp_ge (tgt := 119) hx hb dX8_even_74 (by decide) (fun hc => ?_) (fun hc => ?_)
    · replace hf := ite_t hc hf
      obtain ⟨z, hf2, ez⟩ := mp_e hf
      clear hf
      subst ez
      exact J119 M_number l1 l2 v.1 v.2.1 _ hf2 hM _ _ _ hI (lv_sub hl [0, 1, 2, 3, 4] rfl)
    · replace hf := ite_f hc hf
      refine lv_aload_n hx hb dX8_even_77 rfl (lv_at hl 0 rfl) ?_
      refine lv_iload hx hb dX8_even_78 (lv_at hl 5 rfl) ?_
      obtain ⟨o19, ho19, hf⟩ := bd_e hf
      refine w_Vi0 (wc := (wM cI cJ cZ m0 m1 m2 m3 m4 m5 m6 m7 m8 m9 m10 m11 m12 m13 M_posts M_roads M_size M_rows M_nextRows M_first M_second M_number M_lists M_square M_fan M_trial M_touching M_having M_most M_only M_can M_next)) (wr := []) (rest := []) hx hb hml hg hown hK hA hI (kX8_haveIt l D cI cJ cZ m0 m1 m2 m3 m4 m5 m6 m7 m8 m9 m10 m11 m12 m13 M_posts M_roads M_size M_rows M_nextRows M_first M_second M_number M_lists M_square M_fan M_trial M_touching M_having M_most M_only M_can M_next v.2.2 o19 ho19) kvX8_haveIt wL_RX8_133 ⟨Nat.le_of_ble_eq_true rfl, Nat.le_of_ble_eq_true rfl⟩ rfl rfl [0, 1, 2, 3, 4, 5, 6, 7, 8, 9, 10, 11, 12, 13] [] rfl rfl rfl rfl (by decide) rfl rfl hl.1 (Nat.le_of_ble_eq_true rfl) dX8_even_80 ⟨Nat.zero_le _, Nat.zero_le _⟩ ⟨rfl, rfl⟩ (fun r u H locs hp hI => ?_)
      replace hp : r = o19 := hp
      rw [hp]
      clear hp
      replace hI : WI D A s.heap (wM cI cJ cZ m0 m1 m2 m3 m4 m5 m6 m7 m8 m9 m10 m11 m12 m13 M_posts M_roads M_size M_rows M_nextRows M_first M_second M_number M_lists M_square M_fan M_trial M_touching M_having M_most M_only M_can M_next) H locs := hI
      refine lv_aload_n hx hb dX8_even_83 rfl (lv_at hl 0 rfl) ?_
      refine lv_iload_n hx hb dX8_even_84 rfl (lv_at hl 3 rfl) ?_
      obtain ⟨o20, ho20, hf⟩ := bd_e hf
      refine w_Vi0 (wc := (wM cI cJ cZ m0 m1 m2 m3 m4 m5 m6 m7 m8 m9 m10 m11 m12 m13 M_posts M_roads M_size M_rows M_nextRows M_first M_second M_number M_lists M_square M_fan M_trial M_touching M_having M_most M_only M_can M_next)) (wr := []) (rest := [.int o19]) hx hb hml hg hown hK hA hI (kX8_haveIt l D cI cJ cZ m0 m1 m2 m3 m4 m5 m6 m7 m8 m9 m10 m11 m12 m13 M_posts M_roads M_size M_rows M_nextRows M_first M_second M_number M_lists M_square M_fan M_trial M_touching M_having M_most M_only M_can M_next v.1 o20 ho20) kvX8_haveIt wL_RX8_133 ⟨Nat.le_of_ble_eq_true rfl, Nat.le_of_ble_eq_true rfl⟩ rfl rfl [0, 1, 2, 3, 4, 5, 6, 7, 8, 9, 10, 11, 12, 13] [] rfl rfl rfl rfl (by decide) rfl rfl hl.1 (Nat.le_of_ble_eq_true rfl) dX8_even_85 ⟨Nat.zero_le _, Nat.zero_le _⟩ ⟨rfl, rfl⟩ (fun r u H locs hp hI => ?_)
      replace hp : r = o20 := hp
      rw [hp]
      clear hp
      replace hI : WI D A s.heap (wM cI cJ cZ m0 m1 m2 m3 m4 m5 m6 m7 m8 m9 m10 m11 m12 m13 M_posts M_roads M_size M_rows M_nextRows M_first M_second M_number M_lists M_square M_fan M_trial M_touching M_having M_most M_only M_can M_next) H locs := hI
      refine lv_icmp_le (tgt := 94) hx hb dX8_even_88 (by decide) (fun hc => ?_) (fun hc => ?_)
      · replace hf := ite_t hc hf
        exact J94 M_number l1 l2 v.1 v.2.1 v.2.2 _ hf hM _ _ _ hI (lv_sub hl [0, 1, 2, 3, 4, 5] rfl)
      · replace hf := ite_f hc hf
        refine lv_iload hx hb dX8_even_91 (lv_at hl 5 rfl) ?_
        refine lv_istore_n (lv' := [(3, .int v.2.2), (0, .ref m0), (1, .int l1), (2, .int l2), (4, .int v.2.1), (5, .int v.2.2)]) hx hb dX8_even_93 rfl hl (by decide) rfl (fun ls hl => ?_)
        exact J94 M_number l1 l2 v.2.2 v.2.1 v.2.2 _ hf hM _ _ _ hI (lv_sub hl [1, 2, 3, 0, 4, 5] rfl)
  have L63 : ∀ (l1 : Int32), ∀ (v : (Nat → Int32) × Int32) (x : Int32 × (Nat → Int32)), loopO (X8_even_L63 M_roads M_first M_second l1) v = some x → (fun z : Int32 × (Nat → Int32) => z = out) x → (fun (v : (Nat → Int32) × Int32) => ∀ (H : Heap) (locs : List Loc) (ls : Array Slot), WI D A s.heap (wM cI cJ cZ m0 m1 m2 m3 m4 m5 m6 m7 m8 m9 m10 m11 m12 m13 M_posts M_roads M_size M_rows M_nextRows M_first M_second v.1 M_lists M_square M_fan M_trial M_touching M_having M_most M_only M_can M_next) H locs → lv_has ls 10 [(0, .ref m0), (1, .int l1), (2, .int v.2)] → GX8_even p l e s m below meth c D cI cJ cZ m0 m1 m2 m3 m4 m5 m6 m7 m8 m9 m10 m11 m12 m13 M_posts M_roads M_size M_rows M_nextRows M_first M_second M_number_0 M_lists M_square M_fan M_trial M_touching M_having M_most M_only M_can M_next a1 out H locs (F0 m 63 ls [])) v := by
    intro l1
    refine loopO_ind (fun (v : (Nat → Int32) × Int32) => ∀ (H : Heap) (locs : List Loc) (ls : Array Slot), WI D A s.heap (wM cI cJ cZ m0 m1 m2 m3 m4 m5 m6 m7 m8 m9 m10 m11 m12 m13 M_posts M_roads M_size M_rows M_nextRows M_first M_second v.1 M_lists M_square M_fan M_trial M_touching M_having M_most M_only M_can M_next) H locs → lv_has ls 10 [(0, .ref m0), (1, .int l1), (2, .int v.2)] → GX8_even p l e s m below meth c D cI cJ cZ m0 m1 m2 m3 m4 m5 m6 m7 m8 m9 m10 m11 m12 m13 M_posts M_roads M_size M_rows M_nextRows M_first M_second M_number_0 M_lists M_square M_fan M_trial M_touching M_having M_most M_only M_can M_next a1 out H locs (F0 m 63 ls [])) (fun z : Int32 × (Nat → Int32) => z = out) ?_
    intro v x hf hM H locs ls hI hl
    refine lv_iconst (v := 0) hx hb dX8_even_63 (by decide) ?_
    refine lv_istore_n (lv' := [(3, .int (0 : Int32)), (0, .ref m0), (1, .int l1), (2, .int v.2)]) hx hb dX8_even_64 rfl hl (by decide) rfl (fun ls hl => ?_)
    refine lv_iconst (v := 0) hx hb dX8_even_65 (by decide) ?_
    refine lv_istore (lv' := [(4, .int (0 : Int32)), (3, .int (0 : Int32)), (0, .ref m0), (1, .int l1), (2, .int v.2)]) hx hb dX8_even_66 hl (by decide) rfl (fun ls hl => ?_)
    refine lv_iconst (v := 0) hx hb dX8_even_68 (by decide) ?_
    refine lv_istore (lv' := [(5, .int (0 : Int32)), (4, .int (0 : Int32)), (3, .int (0 : Int32)), (0, .ref m0), (1, .int l1), (2, .int v.2)]) hx hb dX8_even_69 hl (by decide) rfl (fun ls hl => ?_)
    exact L71 v.1 l1 v.2 ((0 : Int32), (0 : Int32), (0 : Int32)) _ hf hM _ _ _ hI (lv_sub hl [3, 4, 5, 2, 1, 0] rfl)
  have J51 : ∀ (M_number : Nat → Int32) (l1 : Int32) (x : Int32 × (Nat → Int32)), X8_even_J51 M_roads M_first M_second M_number l1 = some x → (fun z : Int32 × (Nat → Int32) => z = out) x → ∀ (H : Heap) (locs : List Loc) (ls : Array Slot), WI D A s.heap (wM cI cJ cZ m0 m1 m2 m3 m4 m5 m6 m7 m8 m9 m10 m11 m12 m13 M_posts M_roads M_size M_rows M_nextRows M_first M_second M_number M_lists M_square M_fan M_trial M_touching M_having M_most M_only M_can M_next) H locs → lv_has ls 10 [(0, .ref m0), (1, .int l1)] → GX8_even p l e s m below meth c D cI cJ cZ m0 m1 m2 m3 m4 m5 m6 m7 m8 m9 m10 m11 m12 m13 M_posts M_roads M_size M_rows M_nextRows M_first M_second M_number_0 M_lists M_square M_fan M_trial M_touching M_having M_most M_only M_can M_next a1 out H locs (F0 m 51 ls []) := by
    intro M_number l1 x hf hM H locs ls hI hl
    refine lv_aload_n hx hb dX8_even_51 rfl (lv_at hl 0 rfl) ?_
    obtain ⟨o2, ho2, hf⟩ := bd_e hf
    refine w_Vi0 (wc := (wM cI cJ cZ m0 m1 m2 m3 m4 m5 m6 m7 m8 m9 m10 m11 m12 m13 M_posts M_roads M_size M_rows M_nextRows M_first M_second M_number M_lists M_square M_fan M_trial M_touching M_having M_most M_only M_can M_next)) (wr := []) (rest := []) hx hb hml hg hown hK hA hI (kX8_clashing l D cI cJ cZ m0 m1 m2 m3 m4 m5 m6 m7 m8 m9 m10 m11 m12 m13 M_posts M_roads M_size M_rows M_nextRows M_first M_second M_number M_lists M_square M_fan M_trial M_touching M_having M_most M_only M_can M_next  o2 ho2) kvX8_clashing wL_RX8_97 ⟨Nat.le_of_ble_eq_true rfl, Nat.le_of_ble_eq_true rfl⟩ rfl rfl [0, 1, 2, 3, 4, 5, 6, 7, 8, 9, 10, 11, 12, 13] [] rfl rfl rfl rfl (by decide) rfl rfl hl.1 (Nat.le_of_ble_eq_true rfl) dX8_even_52 ⟨Nat.zero_le _, Nat.zero_le _⟩ ⟨rfl, rfl⟩ (fun r u H locs hp hI => ?_)
    replace hp : r = o2 := hp
    rw [hp]
    clear hp
    replace hI : WI D A s.heap (wM cI cJ cZ m0 m1 m2 m3 m4 m5 m6 m7 m8 m9 m10 m11 m12 m13 M_posts M_roads M_size M_rows M_nextRows M_first M_second M_number M_lists M_square M_fan M_trial M_touching M_having M_most M_only M_can M_next) H locs := hI
    refine lv_if_lt (tgt := 61) hx hb dX8_even_55 (by decide) (fun hc => ?_) (fun hc => ?_)
    · replace hf := ite_t hc hf
      refine lv_iconst (v := 0) hx hb dX8_even_61 (by decide) ?_
      refine lv_istore_n (lv' := [(2, .int (0 : Int32)), (0, .ref m0), (1, .int l1)]) hx hb dX8_even_62 rfl hl (by decide) rfl (fun ls hl => ?_)
      exact L63 l1 (M_number, (0 : Int32)) _ hf hM _ _ _ hI (lv_sub hl [1, 2, 0] rfl)
    · replace hf := ite_f hc hf
      refine lv_bipush (v := -2) hx hb dX8_even_58 (by decide) ?_
      replace hf := Option.some.inj hf
      subst hf
      replace hM : ((-2 : Int32), M_number) = out := hM
      subst hM
      exact rt_i (u := ()) hx hb hr hlocks rfl hI hAe rfl dX8_even_60
  have L15 : ∀ (M_number : Nat → Int32) (l1 : Int32), ∀ (v : Int32) (x : Int32 × (Nat → Int32)), loopO (X8_even_L15 M_roads M_first M_second M_number l1) v = some x → (fun z : Int32 × (Nat → Int32) => z = out) x → (fun (v : Int32) => ∀ (H : Heap) (locs : List Loc) (ls : Array Slot), WI D A s.heap (wM cI cJ cZ m0 m1 m2 m3 m4 m5 m6 m7 m8 m9 m10 m11 m12 m13 M_posts M_roads M_size M_rows M_nextRows M_first M_second M_number M_lists M_square M_fan M_trial M_touching M_having M_most M_only M_can M_next) H locs → lv_has ls 10 [(0, .ref m0), (1, .int l1), (2, .int v)] → GX8_even p l e s m below meth c D cI cJ cZ m0 m1 m2 m3 m4 m5 m6 m7 m8 m9 m10 m11 m12 m13 M_posts M_roads M_size M_rows M_nextRows M_first M_second M_number_0 M_lists M_square M_fan M_trial M_touching M_having M_most M_only M_can M_next a1 out H locs (F0 m 15 ls [])) v := by
    intro M_number l1
    refine loopO_ind (fun (v : Int32) => ∀ (H : Heap) (locs : List Loc) (ls : Array Slot), WI D A s.heap (wM cI cJ cZ m0 m1 m2 m3 m4 m5 m6 m7 m8 m9 m10 m11 m12 m13 M_posts M_roads M_size M_rows M_nextRows M_first M_second M_number M_lists M_square M_fan M_trial M_touching M_having M_most M_only M_can M_next) H locs → lv_has ls 10 [(0, .ref m0), (1, .int l1), (2, .int v)] → GX8_even p l e s m below meth c D cI cJ cZ m0 m1 m2 m3 m4 m5 m6 m7 m8 m9 m10 m11 m12 m13 M_posts M_roads M_size M_rows M_nextRows M_first M_second M_number_0 M_lists M_square M_fan M_trial M_touching M_having M_most M_only M_can M_next a1 out H locs (F0 m 15 ls [])) (fun z : Int32 × (Nat → Int32) => z = out) ?_
    intro v x hf hM H locs ls hI hl
    refine lv_iload_n hx hb dX8_even_15 rfl (lv_at hl 2 rfl) ?_
    refine lv_aload_n hx hb dX8_even_16 rfl (lv_at hl 0 rfl) ?_
    refine w_get hx hb hg hown hK hI iX8 0 rfl rfl 1 (by decide) wF_RX8_57 rfl dX8_even_17 ?_
    refine lv_icmp_ge (tgt := 51) hx hb dX8_even_20 (by decide) (fun hc => ?_) (fun hc => ?_)
    · replace hf := ite_t hc hf
      obtain ⟨z, hf2, ez⟩ := mp_e hf
      clear hf
      subst ez
      exact J51 M_number l1 _ hf2 hM _ _ _ hI (lv_sub hl [0, 1] rfl)
    · replace hf := ite_f hc hf
      refine lv_aload_n hx hb dX8_even_23 rfl (lv_at hl 0 rfl) ?_
      refine w_get hx hb hg hown hK hI iX8 0 rfl rfl 4 (by decide) wF_RX8_16 rfl dX8_even_24 ?_
      refine lv_iload_n hx hb dX8_even_27 rfl (lv_at hl 2 rfl) ?_
      obtain ⟨hin, hf⟩ := rd_e hf
      refine w_iald hx hb hK hI 3 rfl hin dX8_even_28 (fun x25 ex25 => ?_)
      replace hf := hf x25 ex25
      refine lv_if_lt (tgt := 42) hx hb dX8_even_29 (by decide) (fun hc => ?_) (fun hc => ?_)
      · replace hf := ite_t hc hf
        refine lv_bipush (v := -2) hx hb dX8_even_42 (by decide) ?_
        replace hf := Option.some.inj hf
        subst hf
        replace hM : ((-2 : Int32), M_number) = out := hM
        subst hM
        exact rt_i (u := ()) hx hb hr hlocks rfl hI hAe rfl dX8_even_44
      · replace hf := ite_f hc hf
        refine lv_aload_n hx hb dX8_even_32 rfl (lv_at hl 0 rfl) ?_
        refine w_get hx hb hg hown hK hI iX8 0 rfl rfl 4 (by decide) wF_RX8_16 rfl dX8_even_33 ?_
        refine lv_iload_n hx hb dX8_even_36 rfl (lv_at hl 2 rfl) ?_
        obtain ⟨hin, hf⟩ := rd_e hf
        refine w_iald hx hb hK hI 3 rfl hin dX8_even_37 (fun x26 ex26 => ?_)
        replace hf := hf x26 ex26
        refine lv_iload_n hx hb dX8_even_38 rfl (lv_at hl 1 rfl) ?_
        refine lv_icmp_lt (tgt := 45) hx hb dX8_even_39 (by decide) (fun hc => ?_) (fun hc => ?_)
        · replace hf := ite_t hc hf
          obtain ⟨x27, ex27⟩ : ∃ y : Int32, y = (v + (1 : Int32)) := ⟨_, rfl⟩
          replace hf := bnd_e hf x27 ex27
          refine lv_iinc (v := x27) (lv' := [(2, .int x27), (0, .ref m0), (1, .int l1)]) hx hb dX8_even_45 hl (k := 2) rfl (by rw [ex27]; rfl) (by decide) rfl (fun ls hl => ?_)
          refine lv_goto (tgt := 15) hx hb dX8_even_48 (by decide) ?_
          replace hf := Option.some.inj hf
          subst hf
          exact hM _ _ _ hI (lv_sub hl [1, 2, 0] rfl)
        · replace hf := ite_f hc hf
          refine lv_bipush (v := -2) hx hb dX8_even_42 (by decide) ?_
          replace hf := Option.some.inj hf
          subst hf
          replace hM : ((-2 : Int32), M_number) = out := hM
          subst hM
          exact rt_i (u := ()) hx hb hr hlocks rfl hI hAe rfl dX8_even_44
  obtain ⟨x, hf, hM⟩ : ∃ x, FX8_even M_roads M_first M_second M_number_0 a1 = some x ∧ x = out := ⟨out, hf, rfl⟩
  refine lv_iload_n hx hb dX8_even_0 rfl (lv_at hl 1 rfl) ?_
  refine lv_iconst (v := 1) hx hb dX8_even_1 (by decide) ?_
  refine lv_bipush (v := 16) hx hb dX8_even_2 (by decide) ?_
  obtain ⟨x1, hx1, hf⟩ := bd_e hf
  refine w_S (rest := []) hx hb hml hg hown hK (kX8_in l D cI cJ cZ a1 (1 : Int32) (16 : Int32) x1 hx1) ksX8_in wL_RX8_60 ⟨Nat.le_of_ble_eq_true rfl, Nat.le_of_ble_eq_true rfl⟩ ⟨rfl, rfl⟩ rfl rfl hl.1 (Nat.le_of_ble_eq_true rfl) dX8_even_4 ⟨Nat.zero_le _, Nat.zero_le _⟩ ?_
  refine lv_if_ne (tgt := 13) hx hb dX8_even_7 (by decide) (fun hc => ?_) (fun hc => ?_)
  · replace hf := ite_f hc hf
    refine lv_iconst (v := 0) hx hb dX8_even_13 (by decide) ?_
    refine lv_istore_n (lv' := [(2, .int (0 : Int32)), (0, .ref m0), (1, .int a1)]) hx hb dX8_even_14 rfl hl (by decide) rfl (fun ls hl => ?_)
    exact L15 M_number_0 a1 (0 : Int32) _ hf hM _ _ _ hI (lv_sub hl [1, 2, 0] rfl)
  · replace hf := ite_t hc hf
    refine lv_bipush (v := -2) hx hb dX8_even_10 (by decide) ?_
    replace hf := Option.some.inj hf
    subst hf
    replace hM : ((-2 : Int32), M_number_0) = out := hM
    subst hM
    exact rt_i (u := ()) hx hb hr hlocks rfl hI hAe rfl dX8_even_12
noncomputable def X8_lookAtRoads_J83 (M_trial : Nat → Int32) (M_touching : Nat → Int32) (M_having : Nat → Int32) (M_most : Nat → Int32) : Option ((Nat → Int32) × (Nat → Int32) × (Nat → Int32) × (Nat → Int32)) :=
  wr M_most 25 (0 : Int32) (0 : Int32) (fun g1 => some (M_trial, M_touching, M_having, g1))
noncomputable def X8_lookAtRoads_J63 (M_roads : Int32) (M_first : Nat → Int32) (M_second : Nat → Int32) (M_trial : Nat → Int32) (M_touching : Nat → Int32) (M_having : Nat → Int32) (M_most : Nat → Int32) (l1 : Int32) : Option (((Nat → Int32) × (Nat → Int32) × (Nat → Int32) × Int32) ⊕ ((Nat → Int32) × (Nat → Int32) × (Nat → Int32) × (Nat → Int32))) :=
  wr M_having 24 l1 (0 : Int32) (fun g3 => wr M_trial 24 l1 (-1 : Int32) (fun g4 => bnd (l1 + (1 : Int32)) (fun x5 => some (.inl (g4, M_touching, g3, x5)))))
noncomputable def X8_lookAtRoads_J55 (M_roads : Int32) (M_first : Nat → Int32) (M_second : Nat → Int32) (M_trial : Nat → Int32) (M_touching : Nat → Int32) (M_having : Nat → Int32) (M_most : Nat → Int32) (l1 : Int32) (l2 : Int32) (s1 : Int32) (s2 : Int32) (s3 : Int32) : Option (((Nat → Int32) × Int32) ⊕ (((Nat → Int32) × (Nat → Int32) × (Nat → Int32) × Int32) ⊕ ((Nat → Int32) × (Nat → Int32) × (Nat → Int32) × (Nat → Int32)))) :=
  wr M_touching 24 s1 (s2 ||| s3) (fun g7 => bnd (l2 + (1 : Int32)) (fun x8 => some (.inl (g7, x8))))
noncomputable def X8_lookAtRoads_J54 (M_roads : Int32) (M_first : Nat → Int32) (M_second : Nat → Int32) (M_trial : Nat → Int32) (M_touching : Nat → Int32) (M_having : Nat → Int32) (M_most : Nat → Int32) (l1 : Int32) (l2 : Int32) (s1 : Int32) (s2 : Int32) : Option (((Nat → Int32) × Int32) ⊕ (((Nat → Int32) × (Nat → Int32) × (Nat → Int32) × Int32) ⊕ ((Nat → Int32) × (Nat → Int32) × (Nat → Int32) × (Nat → Int32)))) :=
  X8_lookAtRoads_J55 M_roads M_first M_second M_trial M_touching M_having M_most l1 l2 s1 s2 (0 : Int32)
noncomputable def X8_lookAtRoads_L19 (M_roads : Int32) (M_first : Nat → Int32) (M_second : Nat → Int32) (M_trial : Nat → Int32) (M_having : Nat → Int32) (M_most : Nat → Int32) (l1 : Int32) (v : (Nat → Int32) × Int32) : Option (((Nat → Int32) × Int32) ⊕ (((Nat → Int32) × (Nat → Int32) × (Nat → Int32) × Int32) ⊕ ((Nat → Int32) × (Nat → Int32) × (Nat → Int32) × (Nat → Int32)))) :=
  if M_roads ≤ v.2 then ((X8_lookAtRoads_J63 M_roads M_first M_second M_trial v.1 M_having M_most l1).map (fun z => (.inr z))) else (rd v.1 24 l1 (fun x6 => if v.2 = l1 then (X8_lookAtRoads_J54 M_roads M_first M_second M_trial v.1 M_having M_most l1 v.2 l1 x6) else ((FX8_meet M_first M_second l1 v.2).bind (fun o9 => if o9 = (0 : Int32) then (X8_lookAtRoads_J54 M_roads M_first M_second M_trial v.1 M_having M_most l1 v.2 l1 x6) else (X8_lookAtRoads_J55 M_roads M_first M_second M_trial v.1 M_having M_most l1 v.2 l1 x6 ((1 : Int32) <<< (v.2 &&& (31 : Int32))))))))
noncomputable def X8_lookAtRoads_L2 (M_roads : Int32) (M_first : Nat → Int32) (M_second : Nat → Int32) (M_most : Nat → Int32) (v : (Nat → Int32) × (Nat → Int32) × (Nat → Int32) × Int32) : Option (((Nat → Int32) × (Nat → Int32) × (Nat → Int32) × Int32) ⊕ ((Nat → Int32) × (Nat → Int32) × (Nat → Int32) × (Nat → Int32))) :=
  if M_roads ≤ v.2.2.2 then ((X8_lookAtRoads_J83 v.1 v.2.1 v.2.2.1 M_most).map (fun z => (.inr z))) else (wr v.2.1 24 v.2.2.2 (0 : Int32) (fun g2 => loopO (X8_lookAtRoads_L19 M_roads M_first M_second v.1 v.2.2.1 M_most v.2.2.2) (g2, (0 : Int32))))
noncomputable def FX8_lookAtRoads (M_roads : Int32) (M_first : Nat → Int32) (M_second : Nat → Int32) (M_trial_0 : Nat → Int32) (M_touching_0 : Nat → Int32) (M_having_0 : Nat → Int32) (M_most_0 : Nat → Int32)  : Option ((Nat → Int32) × (Nat → Int32) × (Nat → Int32) × (Nat → Int32)) :=
  loopO (X8_lookAtRoads_L2 M_roads M_first M_second M_most_0) (M_trial_0, M_touching_0, M_having_0, (0 : Int32))
abbrev GX8_lookAtRoads (p : Program) (l : Launch) (e : Env) (s : State) (m : MethodId) (below : List Frame) (meth : Method) (c : Code) (D : va_G) (cI cJ cZ : ClassId) (m0 m1 m2 m3 m4 m5 m6 m7 m8 m9 m10 m11 m12 m13 : Nat) (M_posts : Int32) (M_roads : Int32) (M_size : Int32) (M_rows : Int32) (M_nextRows : Int32) (M_first : Nat → Int32) (M_second : Nat → Int32) (M_number : Nat → Int32) (M_lists : Nat → Int32) (M_square : Nat → Int32) (M_fan : Nat → Int32) (M_trial_0 : Nat → Int32) (M_touching_0 : Nat → Int32) (M_having_0 : Nat → Int32) (M_most_0 : Nat → Int32) (M_only : Nat → Int32) (M_can : Nat → Int32) (M_next : Nat → Int32)  (out : (Nat → Int32) × (Nat → Int32) × (Nat → Int32) × (Nat → Int32)) (H : Heap) (locs : List Loc) (g : JFrame) : Prop := W p l e (headSpec (Cond.code yX8_lookAtRoads cX8_lookAtRoads 3 none :: GW) { frames := 2, cells := 0, slots := 0, locals := 44 }).room s m ([.ref m0] : List Value).toArray below meth c H locs 0 0 (MQ below (va_Qv (fun (_ : Unit) => True) (BW D (wM cI cJ cZ m0 m1 m2 m3 m4 m5 m6 m7 m8 m9 m10 m11 m12 m13 M_posts M_roads M_size M_rows M_nextRows M_first M_second M_number M_lists M_square M_fan M_trial_0 M_touching_0 M_having_0 M_most_0 M_only M_can M_next) s.heap.size (fun _ => (wM cI cJ cZ m0 m1 m2 m3 m4 m5 m6 m7 m8 m9 m10 m11 m12 m13 M_posts M_roads M_size M_rows M_nextRows M_first M_second M_number M_lists M_square M_fan out.1 out.2.1 out.2.2.1 out.2.2.2 M_only M_can M_next))) (va_A (wM cI cJ cZ m0 m1 m2 m3 m4 m5 m6 m7 m8 m9 m10 m11 m12 m13 M_posts M_roads M_size M_rows M_nextRows M_first M_second M_number M_lists M_square M_fan M_trial_0 M_touching_0 M_having_0 M_most_0 M_only M_can M_next) s.heap.size)) ([.ref m0] : List Value).toArray s 0 0 (va_A (wM cI cJ cZ m0 m1 m2 m3 m4 m5 m6 m7 m8 m9 m10 m11 m12 m13 M_posts M_roads M_size M_rows M_nextRows M_first M_second M_number M_lists M_square M_fan M_trial_0 M_touching_0 M_having_0 M_most_0 M_only M_can M_next) s.heap.size)) g
theorem kvX8_lookAtRoads : CalV RX8 yX8_lookAtRoads cX8_lookAtRoads 3 none 0 := ⟨wC_yX8_lookAtRoads, wM_yX8_lookAtRoads, wS_yX8_lookAtRoads, wI_RX8, by decide +kernel⟩
set_option maxHeartbeats 4000000 in
set_option maxRecDepth 100000 in
theorem kX8_lookAtRoads (l : Launch) (D : va_G) (cI cJ cZ : ClassId) (m0 m1 m2 m3 m4 m5 m6 m7 m8 m9 m10 m11 m12 m13 : Nat) (M_posts : Int32) (M_roads : Int32) (M_size : Int32) (M_rows : Int32) (M_nextRows : Int32) (M_first : Nat → Int32) (M_second : Nat → Int32) (M_number : Nat → Int32) (M_lists : Nat → Int32) (M_square : Nat → Int32) (M_fan : Nat → Int32) (M_trial_0 : Nat → Int32) (M_touching_0 : Nat → Int32) (M_having_0 : Nat → Int32) (M_most_0 : Nat → Int32) (M_only : Nat → Int32) (M_can : Nat → Int32) (M_next : Nat → Int32)  (out : (Nat → Int32) × (Nat → Int32) × (Nat → Int32) × (Nat → Int32)) (hf : FX8_lookAtRoads M_roads M_first M_second M_trial_0 M_touching_0 M_having_0 M_most_0 = some out) : MV l yX8_lookAtRoads (Cond.code yX8_lookAtRoads cX8_lookAtRoads 3 none :: GW) { frames := 2, cells := 0, slots := 0, locals := 44 } D cI cJ cZ [.ref m0] (wM cI cJ cZ m0 m1 m2 m3 m4 m5 m6 m7 m8 m9 m10 m11 m12 m13 M_posts M_roads M_size M_rows M_nextRows M_first M_second M_number M_lists M_square M_fan M_trial_0 M_touching_0 M_having_0 M_most_0 M_only M_can M_next) (fun (_ : Unit) => True) (fun _ => (wM cI cJ cZ m0 m1 m2 m3 m4 m5 m6 m7 m8 m9 m10 m11 m12 m13 M_posts M_roads M_size M_rows M_nextRows M_first M_second M_number M_lists M_square M_fan out.1 out.2.1 out.2.2.1 out.2.2.2 M_only M_can M_next)) := by
  intro sz
  refine Met.ofW (cc := cX8_lookAtRoads) (maxL := 3) (ret := none) (by decide +kernel) rfl ?_
  intro p e s m args below meth c s₁ B hml hv
  obtain ⟨rfl, hsz, hP, hK, hD0⟩ := hv
  have hx := B.exec
  have hb := B.bytes
  have hr := B.returns
  have hlocks := B.notSynchronized
  have hg : ∀ w ∈ GW, w.before _ s = true := fun w h => atoms_spec (ws := Cond.code yX8_lookAtRoads cX8_lookAtRoads 3 none :: GW) B.pre w (List.mem_cons_of_mem _ h)
  have hown : s.vm.findClass RX8 = some m.cls := findClass_of_methodNamed B.named
  subst hsz
  obtain ⟨A, hAe⟩ : ∃ A, A = va_A (wM cI cJ cZ m0 m1 m2 m3 m4 m5 m6 m7 m8 m9 m10 m11 m12 m13 M_posts M_roads M_size M_rows M_nextRows M_first M_second M_number M_lists M_square M_fan M_trial_0 M_touching_0 M_having_0 M_most_0 M_only M_can M_next) s.heap.size := ⟨_, rfl⟩
  have hA : ∀ q : Nat, s.heap.size ≤ q → A q := fun q h => by rw [hAe]; exact Or.inr h
  have hI : WI D A s.heap (wM cI cJ cZ m0 m1 m2 m3 m4 m5 m6 m7 m8 m9 m10 m11 m12 m13 M_posts M_roads M_size M_rows M_nextRows M_first M_second M_number M_lists M_square M_fan M_trial_0 M_touching_0 M_having_0 M_most_0 M_only M_can M_next) s.heap [] := ⟨hP, by rw [hAe]; exact hD0.self, va_S.rf⟩
  have hl := lv_entry [.ref m0] (n := 3) (Nat.le_of_ble_eq_true rfl)
  rw [lg_entry_eq]
  generalize (lg_sl [.ref m0] ++ List.replicate (3 - (lg_sl [.ref m0]).length) Slot.unset).toArray = ls at hl ⊢
  replace hl : lv_has ls 3 [(0, .ref m0)] := hl
  have J83 : ∀ (M_trial : Nat → Int32) (M_touching : Nat → Int32) (M_having : Nat → Int32) (M_most : Nat → Int32) (x : (Nat → Int32) × (Nat → Int32) × (Nat → Int32) × (Nat → Int32)), X8_lookAtRoads_J83 M_trial M_touching M_having M_most = some x → (fun z : (Nat → Int32) × (Nat → Int32) × (Nat → Int32) × (Nat → Int32) => z = out) x → ∀ (H : Heap) (locs : List Loc) (ls : Array Slot), WI D A s.heap (wM cI cJ cZ m0 m1 m2 m3 m4 m5 m6 m7 m8 m9 m10 m11 m12 m13 M_posts M_roads M_size M_rows M_nextRows M_first M_second M_number M_lists M_square M_fan M_trial M_touching M_having M_most M_only M_can M_next) H locs → lv_has ls 3 [(0, .ref m0)] → GX8_lookAtRoads p l e s m below meth c D cI cJ cZ m0 m1 m2 m3 m4 m5 m6 m7 m8 m9 m10 m11 m12 m13 M_posts M_roads M_size M_rows M_nextRows M_first M_second M_number M_lists M_square M_fan M_trial_0 M_touching_0 M_having_0 M_most_0 M_only M_can M_next  out H locs (F0 m 83 ls []) := by
    intro M_trial M_touching M_having M_most x hf hM H locs ls hI hl
    refine lv_aload_n hx hb dX8_lookAtRoads_83 rfl (lv_at hl 0 rfl) ?_
    refine w_get hx hb hg hown hK hI iX8 0 rfl rfl 14 (by decide) wF_RX8_44 rfl dX8_lookAtRoads_84 ?_
    refine lv_iconst (v := 0) hx hb dX8_lookAtRoads_87 (by decide) ?_
    refine lv_iconst (v := 0) hx hb dX8_lookAtRoads_88 (by decide) ?_
    obtain ⟨hin, hf⟩ := wr_e hf
    obtain ⟨g1, eg1⟩ : ∃ g : Nat → Int32, g = upd M_most ((0 : Int32)).toNatClampNeg (0 : Int32) := ⟨_, rfl⟩
    replace hf := hf g1 eg1
    refine w_iast (g := g1) (W1 := (wM cI cJ cZ m0 m1 m2 m3 m4 m5 m6 m7 m8 m9 m10 m11 m12 m13 M_posts M_roads M_size M_rows M_nextRows M_first M_second M_number M_lists M_square M_fan M_trial M_touching M_having g1 M_only M_can M_next)) hx hb hK hI 10 rfl hin eg1 dX8_lookAtRoads_89 rfl (fun H locs hI => ?_)
    replace hf := Option.some.inj hf
    subst hf
    replace hM : (M_trial, M_touching, M_having, g1) = out := hM
    subst hM
    exact rt_v (u := ()) hx hb hr hlocks hI hAe trivial dX8_lookAtRoads_90
  have J63 : ∀ (M_trial : Nat → Int32) (M_touching : Nat → Int32) (M_having : Nat → Int32) (M_most : Nat → Int32) (l1 : Int32) (x : ((Nat → Int32) × (Nat → Int32) × (Nat → Int32) × Int32) ⊕ ((Nat → Int32) × (Nat → Int32) × (Nat → Int32) × (Nat → Int32))), X8_lookAtRoads_J63 M_roads M_first M_second M_trial M_touching M_having M_most l1 = some x → (fun z => Sum.elim (fun (v1 : (Nat → Int32) × (Nat → Int32) × (Nat → Int32) × Int32) => ∀ (H : Heap) (locs : List Loc) (ls : Array Slot), WI D A s.heap (wM cI cJ cZ m0 m1 m2 m3 m4 m5 m6 m7 m8 m9 m10 m11 m12 m13 M_posts M_roads M_size M_rows M_nextRows M_first M_second M_number M_lists M_square M_fan v1.1 v1.2.1 v1.2.2.1 M_most M_only M_can M_next) H locs → lv_has ls 3 [(0, .ref m0), (1, .int v1.2.2.2)] → GX8_lookAtRoads p l e s m below meth c D cI cJ cZ m0 m1 m2 m3 m4 m5 m6 m7 m8 m9 m10 m11 m12 m13 M_posts M_roads M_size M_rows M_nextRows M_first M_second M_number M_lists M_square M_fan M_trial_0 M_touching_0 M_having_0 M_most_0 M_only M_can M_next  out H locs (F0 m 2 ls [])) (fun z : (Nat → Int32) × (Nat → Int32) × (Nat → Int32) × (Nat → Int32) => z = out) z) x → ∀ (H : Heap) (locs : List Loc) (ls : Array Slot), WI D A s.heap (wM cI cJ cZ m0 m1 m2 m3 m4 m5 m6 m7 m8 m9 m10 m11 m12 m13 M_posts M_roads M_size M_rows M_nextRows M_first M_second M_number M_lists M_square M_fan M_trial M_touching M_having M_most M_only M_can M_next) H locs → lv_has ls 3 [(0, .ref m0), (1, .int l1)] → GX8_lookAtRoads p l e s m below meth c D cI cJ cZ m0 m1 m2 m3 m4 m5 m6 m7 m8 m9 m10 m11 m12 m13 M_posts M_roads M_size M_rows M_nextRows M_first M_second M_number M_lists M_square M_fan M_trial_0 M_touching_0 M_having_0 M_most_0 M_only M_can M_next  out H locs (F0 m 63 ls []) := by
    intro M_trial M_touching M_having M_most l1 x hf hM H locs ls hI hl
    refine lv_aload_n hx hb dX8_lookAtRoads_63 rfl (lv_at hl 0 rfl) ?_
    refine w_get hx hb hg hown hK hI iX8 0 rfl rfl 13 (by decide) wF_RX8_41 rfl dX8_lookAtRoads_64 ?_
    refine lv_iload_n hx hb dX8_lookAtRoads_67 rfl (lv_at hl 1 rfl) ?_
    refine lv_iconst (v := 0) hx hb dX8_lookAtRoads_68 (by decide) ?_
    obtain ⟨hin, hf⟩ := wr_e hf
    obtain ⟨g3, eg3⟩ : ∃ g : Nat → Int32, g = upd M_having (l1).toNatClampNeg (0 : Int32) := ⟨_, rfl⟩
    replace hf := hf g3 eg3
    refine w_iast (g := g3) (W1 := (wM cI cJ cZ m0 m1 m2 m3 m4 m5 m6 m7 m8 m9 m10 m11 m12 m13 M_posts M_roads M_size M_rows M_nextRows M_first M_second M_number M_lists M_square M_fan M_trial M_touching g3 M_most M_only M_can M_next)) hx hb hK hI 9 rfl hin eg3 dX8_lookAtRoads_69 rfl (fun H locs hI => ?_)
    refine lv_aload_n hx hb dX8_lookAtRoads_70 rfl (lv_at hl 0 rfl) ?_
    refine w_get hx hb hg hown hK hI iX8 0 rfl rfl 11 (by decide) wF_RX8_35 rfl dX8_lookAtRoads_71 ?_
    refine lv_iload_n hx hb dX8_lookAtRoads_74 rfl (lv_at hl 1 rfl) ?_
    refine lv_iconst (v := -1) hx hb dX8_lookAtRoads_75 (by decide) ?_
    obtain ⟨hin, hf⟩ := wr_e hf
    obtain ⟨g4, eg4⟩ : ∃ g : Nat → Int32, g = upd M_trial (l1).toNatClampNeg (-1 : Int32) := ⟨_, rfl⟩
    replace hf := hf g4 eg4
    refine w_iast (g := g4) (W1 := (wM cI cJ cZ m0 m1 m2 m3 m4 m5 m6 m7 m8 m9 m10 m11 m12 m13 M_posts M_roads M_size M_rows M_nextRows M_first M_second M_number M_lists M_square M_fan g4 M_touching g3 M_most M_only M_can M_next)) hx hb hK hI 7 rfl hin eg4 dX8_lookAtRoads_76 rfl (fun H locs hI => ?_)
    obtain ⟨x5, ex5⟩ : ∃ y : Int32, y = (l1 + (1 : Int32)) := ⟨_, rfl⟩
    replace hf := bnd_e hf x5 ex5
    refine lv_iinc (v := x5) (lv' := [(1, .int x5), (0, .ref m0)]) hx hb dX8_lookAtRoads_77 hl (k := 1) rfl (by rw [ex5]; rfl) (by decide) rfl (fun ls hl => ?_)
    refine lv_goto (tgt := 2) hx hb dX8_lookAtRoads_80 (by decide) ?_
    replace hf := Option.some.inj hf
    subst hf
    exact hM _ _ _ hI (lv_sub hl [1, 0] rfl)
  have J55 : ∀ (M_trial : Nat → Int32) (M_touching : Nat → Int32) (M_having : Nat → Int32) (M_most : Nat → Int32) (l1 : Int32) (l2 : Int32) (s1 : Int32) (s2 : Int32) (s3 : Int32) (x : ((Nat → Int32) × Int32) ⊕ (((Nat → Int32) × (Nat → Int32) × (Nat → Int32) × Int32) ⊕ ((Nat → Int32) × (Nat → Int32) × (Nat → Int32) × (Nat → Int32)))), X8_lookAtRoads_J55 M_roads M_first M_second M_trial M_touching M_having M_most l1 l2 s1 s2 s3 = some x → (fun z => Sum.elim (fun (v2 : (Nat → Int32) × Int32) => ∀ (H : Heap) (locs : List Loc) (ls : Array Slot), WI D A s.heap (wM cI cJ cZ m0 m1 m2 m3 m4 m5 m6 m7 m8 m9 m10 m11 m12 m13 M_posts M_roads M_size M_rows M_nextRows M_first M_second M_number M_lists M_square M_fan M_trial v2.1 M_having M_most M_only M_can M_next) H locs → lv_has ls 3 [(0, .ref m0), (1, .int l1), (2, .int v2.2)] → GX8_lookAtRoads p l e s m below meth c D cI cJ cZ m0 m1 m2 m3 m4 m5 m6 m7 m8 m9 m10 m11 m12 m13 M_posts M_roads M_size M_rows M_nextRows M_first M_second M_number M_lists M_square M_fan M_trial_0 M_touching_0 M_having_0 M_most_0 M_only M_can M_next  out H locs (F0 m 19 ls [])) (fun z => Sum.elim (fun (v1 : (Nat → Int32) × (Nat → Int32) × (Nat → Int32) × Int32) => ∀ (H : Heap) (locs : List Loc) (ls : Array Slot), WI D A s.heap (wM cI cJ cZ m0 m1 m2 m3 m4 m5 m6 m7 m8 m9 m10 m11 m12 m13 M_posts M_roads M_size M_rows M_nextRows M_first M_second M_number M_lists M_square M_fan v1.1 v1.2.1 v1.2.2.1 M_most M_only M_can M_next) H locs → lv_has ls 3 [(0, .ref m0), (1, .int v1.2.2.2)] → GX8_lookAtRoads p l e s m below meth c D cI cJ cZ m0 m1 m2 m3 m4 m5 m6 m7 m8 m9 m10 m11 m12 m13 M_posts M_roads M_size M_rows M_nextRows M_first M_second M_number M_lists M_square M_fan M_trial_0 M_touching_0 M_having_0 M_most_0 M_only M_can M_next  out H locs (F0 m 2 ls [])) (fun z : (Nat → Int32) × (Nat → Int32) × (Nat → Int32) × (Nat → Int32) => z = out) z) z) x → ∀ (H : Heap) (locs : List Loc) (ls : Array Slot), WI D A s.heap (wM cI cJ cZ m0 m1 m2 m3 m4 m5 m6 m7 m8 m9 m10 m11 m12 m13 M_posts M_roads M_size M_rows M_nextRows M_first M_second M_number M_lists M_square M_fan M_trial M_touching M_having M_most M_only M_can M_next) H locs → lv_has ls 3 [(0, .ref m0), (1, .int l1), (2, .int l2)] → GX8_lookAtRoads p l e s m below meth c D cI cJ cZ m0 m1 m2 m3 m4 m5 m6 m7 m8 m9 m10 m11 m12 m13 M_posts M_roads M_size M_rows M_nextRows M_first M_second M_number M_lists M_square M_fan M_trial_0 M_touching_0 M_having_0 M_most_0 M_only M_can M_next  out H locs (F0 m 55 ls [.int s3, .int s2, .int s1, .ref m8]) := by
    intro M_trial M_touching M_having M_most l1 l2 s1 s2 s3 x hf hM H locs ls hI hl
    refine lv_ior hx hb dX8_lookAtRoads_55 ?_
    obtain ⟨hin, hf⟩ := wr_e hf
    obtain ⟨g7, eg7⟩ : ∃ g : Nat → Int32, g = upd M_touching (s1).toNatClampNeg (s2 ||| s3) := ⟨_, rfl⟩
    replace hf := hf g7 eg7
    refine w_iast (g := g7) (W1 := (wM cI cJ cZ m0 m1 m2 m3 m4 m5 m6 m7 m8 m9 m10 m11 m12 m13 M_posts M_roads M_size M_rows M_nextRows M_first M_second M_number M_lists M_square M_fan M_trial g7 M_having M_most M_only M_can M_next)) hx hb hK hI 8 rfl hin eg7 dX8_lookAtRoads_56 rfl (fun H locs hI => ?_)
    obtain ⟨x8, ex8⟩ : ∃ y : Int32, y = (l2 + (1 : Int32)) := ⟨_, rfl⟩
    replace hf := bnd_e hf x8 ex8
    refine lv_iinc (v := x8) (lv' := [(2, .int x8), (0, .ref m0), (1, .int l1)]) hx hb dX8_lookAtRoads_57 hl (k := 2) rfl (by rw [ex8]; rfl) (by decide) rfl (fun ls hl => ?_)
    refine lv_goto (tgt := 19) hx hb dX8_lookAtRoads_60 (by decide) ?_
    replace hf := Option.some.inj hf
    subst hf
    exact hM _ _ _ hI (lv_sub hl [1, 2, 0] rfl)
  have J54 : ∀ (M_trial : Nat → Int32) (M_touching : Nat → Int32) (M_having : Nat → Int32) (M_most : Nat → Int32) (l1 : Int32) (l2 : Int32) (s1 : Int32) (s2 : Int32) (x : ((Nat → Int32) × Int32) ⊕ (((Nat → Int32) × (Nat → Int32) × (Nat → Int32) × Int32) ⊕ ((Nat → Int32) × (Nat → Int32) × (Nat → Int32) × (Nat → Int32)))), X8_lookAtRoads_J54 M_roads M_first M_second M_trial M_touching M_having M_most l1 l2 s1 s2 = some x → (fun z => Sum.elim (fun (v2 : (Nat → Int32) × Int32) => ∀ (H : Heap) (locs : List Loc) (ls : Array Slot), WI D A s.heap (wM cI cJ cZ m0 m1 m2 m3 m4 m5 m6 m7 m8 m9 m10 m11 m12 m13 M_posts M_roads M_size M_rows M_nextRows M_first M_second M_number M_lists M_square M_fan M_trial v2.1 M_having M_most M_only M_can M_next) H locs → lv_has ls 3 [(0, .ref m0), (1, .int l1), (2, .int v2.2)] → GX8_lookAtRoads p l e s m below meth c D cI cJ cZ m0 m1 m2 m3 m4 m5 m6 m7 m8 m9 m10 m11 m12 m13 M_posts M_roads M_size M_rows M_nextRows M_first M_second M_number M_lists M_square M_fan M_trial_0 M_touching_0 M_having_0 M_most_0 M_only M_can M_next  out H locs (F0 m 19 ls [])) (fun z => Sum.elim (fun (v1 : (Nat → Int32) × (Nat → Int32) × (Nat → Int32) × Int32) => ∀ (H : Heap) (locs : List Loc) (ls : Array Slot), WI D A s.heap (wM cI cJ cZ m0 m1 m2 m3 m4 m5 m6 m7 m8 m9 m10 m11 m12 m13 M_posts M_roads M_size M_rows M_nextRows M_first M_second M_number M_lists M_square M_fan v1.1 v1.2.1 v1.2.2.1 M_most M_only M_can M_next) H locs → lv_has ls 3 [(0, .ref m0), (1, .int v1.2.2.2)] → GX8_lookAtRoads p l e s m below meth c D cI cJ cZ m0 m1 m2 m3 m4 m5 m6 m7 m8 m9 m10 m11 m12 m13 M_posts M_roads M_size M_rows M_nextRows M_first M_second M_number M_lists M_square M_fan M_trial_0 M_touching_0 M_having_0 M_most_0 M_only M_can M_next  out H locs (F0 m 2 ls [])) (fun z : (Nat → Int32) × (Nat → Int32) × (Nat → Int32) × (Nat → Int32) => z = out) z) z) x → ∀ (H : Heap) (locs : List Loc) (ls : Array Slot), WI D A s.heap (wM cI cJ cZ m0 m1 m2 m3 m4 m5 m6 m7 m8 m9 m10 m11 m12 m13 M_posts M_roads M_size M_rows M_nextRows M_first M_second M_number M_lists M_square M_fan M_trial M_touching M_having M_most M_only M_can M_next) H locs → lv_has ls 3 [(0, .ref m0), (1, .int l1), (2, .int l2)] → GX8_lookAtRoads p l e s m below meth c D cI cJ cZ m0 m1 m2 m3 m4 m5 m6 m7 m8 m9 m10 m11 m12 m13 M_posts M_roads M_size M_rows M_nextRows M_first M_second M_number M_lists M_square M_fan M_trial_0 M_touching_0 M_having_0 M_most_0 M_only M_can M_next  out H locs (F0 m 54 ls [.int s2, .int s1, .ref m8]) := by
    intro M_trial M_touching M_having M_most l1 l2 s1 s2 x hf hM H locs ls hI hl
    refine lv_iconst (v := 0) hx hb dX8_lookAtRoads_54 (by decide) ?_
    exact J55 M_trial M_touching M_having M_most l1 l2 s1 s2 (0 : Int32) _ hf hM _ _ _ hI (lv_sub hl [0, 1, 2] rfl)
  have L19 : ∀ (M_trial : Nat → Int32) (M_having : Nat → Int32) (M_most : Nat → Int32) (l1 : Int32), ∀ (v : (Nat → Int32) × Int32) (x : ((Nat → Int32) × (Nat → Int32) × (Nat → Int32) × Int32) ⊕ ((Nat → Int32) × (Nat → Int32) × (Nat → Int32) × (Nat → Int32))), loopO (X8_lookAtRoads_L19 M_roads M_first M_second M_trial M_having M_most l1) v = some x → (fun z => Sum.elim (fun (v1 : (Nat → Int32) × (Nat → Int32) × (Nat → Int32) × Int32) => ∀ (H : Heap) (locs : List Loc) (ls : Array Slot), WI D A s.heap (wM cI cJ cZ m0 m1 m2 m3 m4 m5 m6 m7 m8 m9 m10 m11 m12 m13 M_posts M_roads M_size M_rows M_nextRows M_first M_second M_number M_lists M_square M_fan v1.1 v1.2.1 v1.2.2.1 M_most M_only M_can M_next) H locs → lv_has ls 3 [(0, .ref m0), (1, .int v1.2.2.2)] → GX8_lookAtRoads p l e s m below meth c D cI cJ cZ m0 m1 m2 m3 m4 m5 m6 m7 m8 m9 m10 m11 m12 m13 M_posts M_roads M_size M_rows M_nextRows M_first M_second M_number M_lists M_square M_fan M_trial_0 M_touching_0 M_having_0 M_most_0 M_only M_can M_next  out H locs (F0 m 2 ls [])) (fun z : (Nat → Int32) × (Nat → Int32) × (Nat → Int32) × (Nat → Int32) => z = out) z) x → (fun (v : (Nat → Int32) × Int32) => ∀ (H : Heap) (locs : List Loc) (ls : Array Slot), WI D A s.heap (wM cI cJ cZ m0 m1 m2 m3 m4 m5 m6 m7 m8 m9 m10 m11 m12 m13 M_posts M_roads M_size M_rows M_nextRows M_first M_second M_number M_lists M_square M_fan M_trial v.1 M_having M_most M_only M_can M_next) H locs → lv_has ls 3 [(0, .ref m0), (1, .int l1), (2, .int v.2)] → GX8_lookAtRoads p l e s m below meth c D cI cJ cZ m0 m1 m2 m3 m4 m5 m6 m7 m8 m9 m10 m11 m12 m13 M_posts M_roads M_size M_rows M_nextRows M_first M_second M_number M_lists M_square M_fan M_trial_0 M_touching_0 M_having_0 M_most_0 M_only M_can M_next  out H locs (F0 m 19 ls [])) v := by
    intro M_trial M_having M_most l1
    refine loopO_ind (fun (v : (Nat → Int32) × Int32) => ∀ (H : Heap) (locs : List Loc) (ls : Array Slot), WI D A s.heap (wM cI cJ cZ m0 m1 m2 m3 m4 m5 m6 m7 m8 m9 m10 m11 m12 m13 M_posts M_roads M_size M_rows M_nextRows M_first M_second M_number M_lists M_square M_fan M_trial v.1 M_having M_most M_only M_can M_next) H locs → lv_has ls 3 [(0, .ref m0), (1, .int l1), (2, .int v.2)] → GX8_lookAtRoads p l e s m below meth c D cI cJ cZ m0 m1 m2 m3 m4 m5 m6 m7 m8 m9 m10 m11 m12 m13 M_posts M_roads M_size M_rows M_nextRows M_first M_second M_number M_lists M_square M_fan M_trial_0 M_touching_0 M_having_0 M_most_0 M_only M_can M_next  out H locs (F0 m 19 ls [])) (fun z => Sum.elim (fun (v1 : (Nat → Int32) × (Nat → Int32) × (Nat → Int32) × Int32) => ∀ (H : Heap) (locs : List Loc) (ls : Array Slot), WI D A s.heap (wM cI cJ cZ m0 m1 m2 m3 m4 m5 m6 m7 m8 m9 m10 m11 m12 m13 M_posts M_roads M_size M_rows M_nextRows M_first M_second M_number M_lists M_square M_fan v1.1 v1.2.1 v1.2.2.1 M_most M_only M_can M_next) H locs → lv_has ls 3 [(0, .ref m0), (1, .int v1.2.2.2)] → GX8_lookAtRoads p l e s m below meth c D cI cJ cZ m0 m1 m2 m3 m4 m5 m6 m7 m8 m9 m10 m11 m12 m13 M_posts M_roads M_size M_rows M_nextRows M_first M_second M_number M_lists M_square M_fan M_trial_0 M_touching_0 M_having_0 M_most_0 M_only M_can M_next  out H locs (F0 m 2 ls [])) (fun z : (Nat → Int32) × (Nat → Int32) × (Nat → Int32) × (Nat → Int32) => z = out) z) ?_
    intro v x hf hM H locs ls hI hl
    refine lv_iload_n hx hb dX8_lookAtRoads_19 rfl (lv_at hl 2 rfl) ?_
    refine lv_aload_n hx hb dX8_lookAtRoads_20 rfl (lv_at hl 0 rfl) ?_
    refine w_get hx hb hg hown hK hI iX8 0 rfl rfl 1 (by decide) wF_RX8_57 rfl dX8_lookAtRoads_21 ?_
    refine lv_icmp_ge (tgt := 63) hx hb dX8_lookAtRoads_24 (by decide) (fun hc => ?_) (fun hc => ?_)
    · replace hf := ite_t hc hf
      obtain ⟨z, hf2, ez⟩ := mp_e hf
      clear hf
      subst ez
      exact J63 M_trial v.1 M_having M_most l1 _ hf2 hM _ _ _ hI (lv_sub hl [0, 1] rfl)
    · replace hf := ite_f hc hf
      refine lv_aload_n hx hb dX8_lookAtRoads_27 rfl (lv_at hl 0 rfl) ?_
      refine w_get hx hb hg hown hK hI iX8 0 rfl rfl 12 (by decide) wF_RX8_38 rfl dX8_lookAtRoads_28 ?_
      refine lv_iload_n hx hb dX8_lookAtRoads_31 rfl (lv_at hl 1 rfl) ?_
      refine lv_dup2_11 hx hb dX8_lookAtRoads_32 rfl rfl ?_
      obtain ⟨hin, hf⟩ := rd_e hf
      refine w_iald hx hb hK hI 8 rfl hin dX8_lookAtRoads_33 (fun x6 ex6 => ?_)
      replace hf := hf x6 ex6
      refine lv_iload_n hx hb dX8_lookAtRoads_34 rfl (lv_at hl 2 rfl) ?_
      refine lv_iload_n hx hb dX8_lookAtRoads_35 rfl (lv_at hl 1 rfl) ?_
      refine lv_icmp_eq (tgt := 54) hx hb dX8_lookAtRoads_36 (by decide) (fun hc => ?_) (fun hc => ?_)
      · replace hf := ite_t hc hf
        exact J54 M_trial v.1 M_having M_most l1 v.2 l1 x6 _ hf hM _ _ _ hI (lv_sub hl [0, 1, 2] rfl)
      · replace hf := ite_f hc hf
        refine lv_aload_n hx hb dX8_lookAtRoads_39 rfl (lv_at hl 0 rfl) ?_
        refine lv_iload_n hx hb dX8_lookAtRoads_40 rfl (lv_at hl 1 rfl) ?_
        refine lv_iload_n hx hb dX8_lookAtRoads_41 rfl (lv_at hl 2 rfl) ?_
        obtain ⟨o9, ho9, hf⟩ := bd_e hf
        refine w_Vi0 (wc := (wM cI cJ cZ m0 m1 m2 m3 m4 m5 m6 m7 m8 m9 m10 m11 m12 m13 M_posts M_roads M_size M_rows M_nextRows M_first M_second M_number M_lists M_square M_fan M_trial v.1 M_having M_most M_only M_can M_next)) (wr := []) (rest := [.int x6, .int l1, .ref m8]) hx hb hml hg hown hK hA hI (kX8_meet l D cI cJ cZ m0 m1 m2 m3 m4 m5 m6 m7 m8 m9 m10 m11 m12 m13 M_posts M_roads M_size M_rows M_nextRows M_first M_second M_number M_lists M_square M_fan M_trial v.1 M_having M_most M_only M_can M_next l1 v.2 o9 ho9) kvX8_meet wL_RX8_91 ⟨Nat.le_of_ble_eq_true rfl, Nat.le_of_ble_eq_true rfl⟩ rfl rfl [0, 1, 2, 3, 4, 5, 6, 7, 8, 9, 10, 11, 12, 13] [] rfl rfl rfl rfl (by decide) rfl rfl hl.1 (Nat.le_of_ble_eq_true rfl) dX8_lookAtRoads_42 ⟨Nat.zero_le _, Nat.zero_le _⟩ ⟨rfl, rfl⟩ (fun r u H locs hp hI => ?_)
        replace hp : r = o9 := hp
        rw [hp]
        clear hp
        replace hI : WI D A s.heap (wM cI cJ cZ m0 m1 m2 m3 m4 m5 m6 m7 m8 m9 m10 m11 m12 m13 M_posts M_roads M_size M_rows M_nextRows M_first M_second M_number M_lists M_square M_fan M_trial v.1 M_having M_most M_only M_can M_next) H locs := hI
        refine lv_if_eq (tgt := 54) hx hb dX8_lookAtRoads_45 (by decide) (fun hc => ?_) (fun hc => ?_)
        · replace hf := ite_t hc hf
          exact J54 M_trial v.1 M_having M_most l1 v.2 l1 x6 _ hf hM _ _ _ hI (lv_sub hl [0, 1, 2] rfl)
        · replace hf := ite_f hc hf
          refine lv_iconst (v := 1) hx hb dX8_lookAtRoads_48 (by decide) ?_
          refine lv_iload_n hx hb dX8_lookAtRoads_49 rfl (lv_at hl 2 rfl) ?_
          refine lv_ishl hx hb dX8_lookAtRoads_50 ?_
          refine lv_goto (tgt := 55) hx hb dX8_lookAtRoads_51 (by decide) ?_
          exact J55 M_trial v.1 M_having M_most l1 v.2 l1 x6 ((1 : Int32) <<< (v.2 &&& (31 : Int32))) _ hf hM _ _ _ hI (lv_sub hl [0, 1, 2] rfl)
  have L2 : ∀ (M_most : Nat → Int32), ∀ (v : (Nat → Int32) × (Nat → Int32) × (Nat → Int32) × Int32) (x : (Nat → Int32) × (Nat → Int32) × (Nat → Int32) × (Nat → Int32)), loopO (X8_lookAtRoads_L2 M_roads M_first M_second M_most) v = some x → (fun z : (Nat → Int32) × (Nat → Int32) × (Nat → Int32) × (Nat → Int32) => z = out) x → (fun (v : (Nat → Int32) × (Nat → Int32) × (Nat → Int32) × Int32) => ∀ (H : Heap) (locs : List Loc) (ls : Array Slot), WI D A s.heap (wM cI cJ cZ m0 m1 m2 m3 m4 m5 m6 m7 m8 m9 m10 m11 m12 m13 M_posts M_roads M_size M_rows M_nextRows M_first M_second M_number M_lists M_square M_fan v.1 v.2.1 v.2.2.1 M_most M_only M_can M_next) H locs → lv_has ls 3 [(0, .ref m0), (1, .int v.2.2.2)] → GX8_lookAtRoads p l e s m below meth c D cI cJ cZ m0 m1 m2 m3 m4 m5 m6 m7 m8 m9 m10 m11 m12 m13 M_posts M_roads M_size M_rows M_nextRows M_first M_second M_number M_lists M_square M_fan M_trial_0 M_touching_0 M_having_0 M_most_0 M_only M_can M_next  out H locs (F0 m 2 ls [])) v := by
    intro M_most
    refine loopO_ind (fun (v : (Nat → Int32) × (Nat → Int32) × (Nat → Int32) × Int32) => ∀ (H : Heap) (locs : List Loc) (ls : Array Slot), WI D A s.heap (wM cI cJ cZ m0 m1 m2 m3 m4 m5 m6 m7 m8 m9 m10 m11 m12 m13 M_posts M_roads M_size M_rows M_nextRows M_first M_second M_number M_lists M_square M_fan v.1 v.2.1 v.2.2.1 M_most M_only M_can M_next) H locs → lv_has ls 3 [(0, .ref m0), (1, .int v.2.2.2)] → GX8_lookAtRoads p l e s m below meth c D cI cJ cZ m0 m1 m2 m3 m4 m5 m6 m7 m8 m9 m10 m11 m12 m13 M_posts M_roads M_size M_rows M_nextRows M_first M_second M_number M_lists M_square M_fan M_trial_0 M_touching_0 M_having_0 M_most_0 M_only M_can M_next  out H locs (F0 m 2 ls [])) (fun z : (Nat → Int32) × (Nat → Int32) × (Nat → Int32) × (Nat → Int32) => z = out) ?_
    intro v x hf hM H locs ls hI hl
    refine lv_iload_n hx hb dX8_lookAtRoads_2 rfl (lv_at hl 1 rfl) ?_
    refine lv_aload_n hx hb dX8_lookAtRoads_3 rfl (lv_at hl 0 rfl) ?_
    refine w_get hx hb hg hown hK hI iX8 0 rfl rfl 1 (by decide) wF_RX8_57 rfl dX8_lookAtRoads_4 ?_
    refine lv_icmp_ge (tgt := 83) hx hb dX8_lookAtRoads_7 (by decide) (fun hc => ?_) (fun hc => ?_)
    · replace hf := ite_t hc hf
      obtain ⟨z, hf2, ez⟩ := mp_e hf
      clear hf
      subst ez
      exact J83 v.1 v.2.1 v.2.2.1 M_most _ hf2 hM _ _ _ hI (lv_sub hl [0] rfl)
    · replace hf := ite_f hc hf
      refine lv_aload_n hx hb dX8_lookAtRoads_10 rfl (lv_at hl 0 rfl) ?_
      refine w_get hx hb hg hown hK hI iX8 0 rfl rfl 12 (by decide) wF_RX8_38 rfl dX8_lookAtRoads_11 ?_
      refine lv_iload_n hx hb dX8_lookAtRoads_14 rfl (lv_at hl 1 rfl) ?_
      refine lv_iconst (v := 0) hx hb dX8_lookAtRoads_15 (by decide) ?_
      obtain ⟨hin, hf⟩ := wr_e hf
      obtain ⟨g2, eg2⟩ : ∃ g : Nat → Int32, g = upd v.2.1 (v.2.2.2).toNatClampNeg (0 : Int32) := ⟨_, rfl⟩
      replace hf := hf g2 eg2
      refine w_iast (g := g2) (W1 := (wM cI cJ cZ m0 m1 m2 m3 m4 m5 m6 m7 m8 m9 m10 m11 m12 m13 M_posts M_roads M_size M_rows M_nextRows M_first M_second M_number M_lists M_square M_fan v.1 g2 v.2.2.1 M_most M_only M_can M_next)) hx hb hK hI 8 rfl hin eg2 dX8_lookAtRoads_16 rfl (fun H locs hI => ?_)
      refine lv_iconst (v := 0) hx hb dX8_lookAtRoads_17 (by decide) ?_
      refine lv_istore_n (lv' := [(2, .int (0 : Int32)), (0, .ref m0), (1, .int v.2.2.2)]) hx hb dX8_lookAtRoads_18 rfl hl (by decide) rfl (fun ls hl => ?_)
      exact L19 v.1 v.2.2.1 M_most v.2.2.2 (g2, (0 : Int32)) _ hf hM _ _ _ hI (lv_sub hl [1, 2, 0] rfl)
  obtain ⟨x, hf, hM⟩ : ∃ x, FX8_lookAtRoads M_roads M_first M_second M_trial_0 M_touching_0 M_having_0 M_most_0 = some x ∧ x = out := ⟨out, hf, rfl⟩
  refine lv_iconst (v := 0) hx hb dX8_lookAtRoads_0 (by decide) ?_
  refine lv_istore_n (lv' := [(1, .int (0 : Int32)), (0, .ref m0)]) hx hb dX8_lookAtRoads_1 rfl hl (by decide) rfl (fun ls hl => ?_)
  exact L2 M_most_0 (M_trial_0, M_touching_0, M_having_0, (0 : Int32)) _ hf hM _ _ _ hI (lv_sub hl [1, 0] rfl)
