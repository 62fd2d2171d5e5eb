noncomputable def X8_goesOn_J80 (M_trial : Nat → Int32) (M_having : Nat → Int32) (M_most : Nat → Int32) (l1 : Int32) : Option (Int32 × (Nat → Int32) × (Nat → Int32) × (Nat → Int32)) :=
  wr M_trial 24 l1 (-1 : Int32) (fun g3 => some ((0 : Int32), g3, M_having, M_most))
noncomputable def X8_goesOn_J137 (M_trial : Nat → Int32) (M_having : Nat → Int32) (M_most : Nat → Int32) (s1 : Int32) (s2 : Int32) : Option (Int32 × (Nat → Int32) × (Nat → Int32) × (Nat → Int32)) :=
  wr M_most 25 s1 s2 (fun g10 => some ((1 : Int32), M_trial, M_having, g10))
noncomputable def X8_goesOn_J65 (M_trial : Nat → Int32) (M_having : Nat → Int32) (M_most : Nat → Int32) (l1 : Int32) (l2 : Int32) (l3 : Int32) : Option (Int32 × (Nat → Int32) × (Nat → Int32) × (Nat → Int32)) :=
  if l2 ≤ l3 then (X8_goesOn_J80 M_trial M_having M_most l1) else (rd M_most 25 l1 (fun x4 => if l3 ≤ x4 then (wr M_trial 24 l1 l3 (fun g5 => rd M_having 24 l3 (fun x6 => wr M_having 24 l3 (x6 ||| ((1 : Int32) <<< (l1 &&& (31 : Int32)))) (fun g7 => rd M_most 25 l1 (fun x8 => if l3 = x8 then (X8_goesOn_J137 g5 g7 M_most (l1 + (1 : Int32)) (l3 + (1 : Int32))) else (rd M_most 25 l1 (fun x9 => X8_goesOn_J137 g5 g7 M_most (l1 + (1 : Int32)) x9))))))) else (X8_goesOn_J80 M_trial M_having M_most l1)))
noncomputable def X8_goesOn_L28 (M_trial : Nat → Int32) (M_touching : Nat → Int32) (M_having : Nat → Int32) (M_most : Nat → Int32) (l1 : Int32) (l2 : Int32) (v : Int32) : Option ((Int32) ⊕ (Int32 × (Nat → Int32) × (Nat → Int32) × (Nat → Int32))) :=
  if l2 ≤ v then ((X8_goesOn_J65 M_trial M_having M_most l1 l2 v).map (fun z => (.inr z))) else (rd M_most 25 l1 (fun x11 => if x11 < v then ((X8_goesOn_J65 M_trial M_having M_most l1 l2 v).map (fun z => (.inr z))) else (rd M_having 24 v (fun x12 => rd M_touching 24 l1 (fun x13 => if (x12 &&& x13) = (0 : Int32) then ((X8_goesOn_J65 M_trial M_having M_most l1 l2 v).map (fun z => (.inr z))) else (bnd (v + (1 : Int32)) (fun x14 => some (.inl x14))))))))
noncomputable def FX8_goesOn (M_trial_0 : Nat → Int32) (M_touching : Nat → Int32) (M_having_0 : Nat → Int32) (M_most_0 : Nat → Int32) (a1 : Int32) (a2 : Int32) : Option (Int32 × (Nat → Int32) × (Nat → Int32) × (Nat → Int32)) :=
  rd M_trial_0 24 a1 (fun x1 => if x1 < (0 : Int32) then (bnd (x1 + (1 : Int32)) (fun x2 => loopO (X8_goesOn_L28 M_trial_0 M_touching M_having_0 M_most_0 a1 a2) x2)) else (rd M_having_0 24 x1 (fun x15 => wr M_having_0 24 x1 (x15 &&& (((1 : Int32) <<< (a1 &&& (31 : Int32))) ^^^ (-1 : Int32))) (fun g16 => bnd (x1 + (1 : Int32)) (fun x17 => loopO (X8_goesOn_L28 M_trial_0 M_touching g16 M_most_0 a1 a2) x17)))))
abbrev GX8_goesOn (p : Program) (l : Launch) (e : Env) (s : State) (m : MethodId) (below : List Frame) (meth : Method) (c : Code) (D : va_G) (cI cJ cZ : ClassId) (m0 m1 m2 m3 m4 m5 m6 m7 m8 m9 m10 m11 m12 m13 : Nat) (M_posts : Int32) (M_roads : Int32) (M_size : Int32) (M_rows : Int32) (M_nextRows : Int32) (M_first : Nat → Int32) (M_second : Nat → Int32) (M_number : Nat → Int32) (M_lists : Nat → Int32) (M_square : Nat → Int32) (M_fan : Nat → Int32) (M_trial_0 : Nat → Int32) (M_touching : Nat → Int32) (M_having_0 : Nat → Int32) (M_most_0 : Nat → Int32) (M_only : Nat → Int32) (M_can : Nat → Int32) (M_next : Nat → Int32) (a1 : Int32) (a2 : Int32) (out : Int32 × (Nat → Int32) × (Nat → Int32) × (Nat → Int32)) (H : Heap) (locs : List Loc) (g : JFrame) : Prop := W p l e (headSpec (Cond.code yX8_goesOn cX8_goesOn 4 (some .boolean) :: GW) { frames := 0, cells := 0, slots := 0, locals := 0 }).room s m ([.ref m0, .int a1, .int a2] : List Value).toArray below meth c H locs 0 0 (MQ below (va_Qi (fun r (_ : Unit) => r = out.1) (BW D (wM cI cJ cZ m0 m1 m2 m3 m4 m5 m6 m7 m8 m9 m10 m11 m12 m13 M_posts M_roads M_size M_rows M_nextRows M_first M_second M_number M_lists M_square M_fan M_trial_0 M_touching M_having_0 M_most_0 M_only M_can M_next) s.heap.size (fun _ => (wM cI cJ cZ m0 m1 m2 m3 m4 m5 m6 m7 m8 m9 m10 m11 m12 m13 M_posts M_roads M_size M_rows M_nextRows M_first M_second M_number M_lists M_square M_fan out.2.1 M_touching out.2.2.1 out.2.2.2 M_only M_can M_next))) (va_A (wM cI cJ cZ m0 m1 m2 m3 m4 m5 m6 m7 m8 m9 m10 m11 m12 m13 M_posts M_roads M_size M_rows M_nextRows M_first M_second M_number M_lists M_square M_fan M_trial_0 M_touching M_having_0 M_most_0 M_only M_can M_next) s.heap.size)) ([.ref m0, .int a1, .int a2] : List Value).toArray s 0 0 (va_A (wM cI cJ cZ m0 m1 m2 m3 m4 m5 m6 m7 m8 m9 m10 m11 m12 m13 M_posts M_roads M_size M_rows M_nextRows M_first M_second M_number M_lists M_square M_fan M_trial_0 M_touching M_having_0 M_most_0 M_only M_can M_next) s.heap.size)) g
theorem kvX8_goesOn : CalV RX8 yX8_goesOn cX8_goesOn 4 (some .boolean) 2 := ⟨wC_yX8_goesOn, wM_yX8_goesOn, wS_yX8_goesOn, wI_RX8, by decide +kernel⟩
set_option maxHeartbeats 4000000 in
set_option maxRecDepth 100000 in
theorem kX8_goesOn (l : Launch) (D : va_G) (cI cJ cZ : ClassId) (m0 m1 m2 m3 m4 m5 m6 m7 m8 m9 m10 m11 m12 m13 : Nat) (M_posts : Int32) (M_roads : Int32) (M_size : Int32) (M_rows : Int32) (M_nextRows : Int32) (M_first : Nat → Int32) (M_second : Nat → Int32) (M_number : Nat → Int32) (M_lists : Nat → Int32) (M_square : Nat → Int32) (M_fan : Nat → Int32) (M_trial_0 : Nat → Int32) (M_touching : Nat → Int32) (M_having_0 : Nat → Int32) (M_most_0 : Nat → Int32) (M_only : Nat → Int32) (M_can : Nat → Int32) (M_next : Nat → Int32) (a1 : Int32) (a2 : Int32) (out : Int32 × (Nat → Int32) × (Nat → Int32) × (Nat → Int32)) (hf : FX8_goesOn M_trial_0 M_touching M_having_0 M_most_0 a1 a2 = some out) : MI l yX8_goesOn (Cond.code yX8_goesOn cX8_goesOn 4 (some .boolean) :: GW) { frames := 0, cells := 0, slots := 0, locals := 0 } D cI cJ cZ [.ref m0, .int a1, .int a2] (wM cI cJ cZ m0 m1 m2 m3 m4 m5 m6 m7 m8 m9 m10 m11 m12 m13 M_posts M_roads M_size M_rows M_nextRows M_first M_second M_number M_lists M_square M_fan M_trial_0 M_touching M_having_0 M_most_0 M_only M_can M_next) (fun r (_ : Unit) => r = out.1) (fun _ => (wM cI cJ cZ m0 m1 m2 m3 m4 m5 m6 m7 m8 m9 m10 m11 m12 m13 M_posts M_roads M_size M_rows M_nextRows M_first M_second M_number M_lists M_square M_fan out.2.1 M_touching out.2.2.1 out.2.2.2 M_only M_can M_next)) := by
  intro sz
  refine Met.ofW (cc := cX8_goesOn) (maxL := 4) (ret := (some .boolean)) (by decide +kernel) rfl ?_
  intro p e s m args below meth c s₁ B hml hv
  obtain ⟨rfl, hsz, hP, hK, hD0⟩ := hv
  have hx := B.exec
  have hb := B.bytes
  have hr := B.returns
  have hlocks := B.notSynchronized
  have hg : ∀ w ∈ GW, w.before _ s = true := fun w h => atoms_spec (ws := Cond.code yX8_goesOn cX8_goesOn 4 (some .boolean) :: GW) B.pre w (List.mem_cons_of_mem _ h)
  have hown : s.vm.findClass RX8 = some m.cls := findClass_of_methodNamed B.named
  subst hsz
  obtain ⟨A, hAe⟩ : ∃ A, A = va_A (wM cI cJ cZ m0 m1 m2 m3 m4 m5 m6 m7 m8 m9 m10 m11 m12 m13 M_posts M_roads M_size M_rows M_nextRows M_first M_second M_number M_lists M_square M_fan M_trial_0 M_touching M_having_0 M_most_0 M_only M_can M_next) s.heap.size := ⟨_, rfl⟩
  have hA : ∀ q : Nat, s.heap.size ≤ q → A q := fun q h => by rw [hAe]; exact Or.inr h
  have hI : WI D A s.heap (wM cI cJ cZ m0 m1 m2 m3 m4 m5 m6 m7 m8 m9 m10 m11 m12 m13 M_posts M_roads M_size M_rows M_nextRows M_first M_second M_number M_lists M_square M_fan M_trial_0 M_touching M_having_0 M_most_0 M_only M_can M_next) s.heap [] := ⟨hP, by rw [hAe]; exact hD0.self, va_S.rf⟩
  have hl := lv_entry [.ref m0, .int a1, .int a2] (n := 4) (Nat.le_of_ble_eq_true rfl)
  rw [lg_entry_eq]
  generalize (lg_sl [.ref m0, .int a1, .int a2] ++ List.replicate (4 - (lg_sl [.ref m0, .int a1, .int a2]).length) Slot.unset).toArray = ls at hl ⊢
  replace hl : lv_has ls 4 [(0, .ref m0), (1, .int a1), (2, .int a2)] := hl
  have J80 : ∀ (M_trial : Nat → Int32) (M_having : Nat → Int32) (M_most : Nat → Int32) (l1 : Int32) (x : Int32 × (Nat → Int32) × (Nat → Int32) × (Nat → Int32)), X8_goesOn_J80 M_trial M_having M_most l1 = some x → (fun z : Int32 × (Nat → Int32) × (Nat → Int32) × (Nat → Int32) => z = out) x → ∀ (H : Heap) (locs : List Loc) (ls : Array Slot), WI D A s.heap (wM cI cJ cZ m0 m1 m2 m3 m4 m5 m6 m7 m8 m9 m10 m11 m12 m13 M_posts M_roads M_size M_rows M_nextRows M_first M_second M_number M_lists M_square M_fan M_trial M_touching M_having M_most M_only M_can M_next) H locs → lv_has ls 4 [(0, .ref m0), (1, .int l1)] → GX8_goesOn p l e s m below meth c D cI cJ cZ m0 m1 m2 m3 m4 m5 m6 m7 m8 m9 m10 m11 m12 m13 M_posts M_roads M_size M_rows M_nextRows M_first M_second M_number M_lists M_square M_fan M_trial_0 M_touching M_having_0 M_most_0 M_only M_can M_next a1 a2 out H locs (F0 m 80 ls []) := by
    intro M_trial M_having M_most l1 x hf hM H locs ls hI hl
    refine lv_aload_n hx hb dX8_goesOn_80 rfl (lv_at hl 0 rfl) ?_
    refine w_get hx hb hg hown hK hI iX8 0 rfl rfl 11 (by decide) wF_RX8_35 rfl dX8_goesOn_81 ?_
    refine lv_iload_n hx hb dX8_goesOn_84 rfl (lv_at hl 1 rfl) ?_
    refine lv_iconst (v := -1) hx hb dX8_goesOn_85 (by decide) ?_
    obtain ⟨hin, hf⟩ := wr_e hf
    obtain ⟨g3, eg3⟩ : ∃ g : Nat → Int32, g = upd M_trial (l1).toNatClampNeg (-1 : Int32) := ⟨_, rfl⟩
    replace hf := hf g3 eg3
    refine w_iast (g := g3) (W1 := (wM cI cJ cZ m0 m1 m2 m3 m4 m5 m6 m7 m8 m9 m10 m11 m12 m13 M_posts M_roads M_size M_rows M_nextRows M_first M_second M_number M_lists M_square M_fan g3 M_touching M_having M_most M_only M_can M_next)) hx hb hK hI 7 rfl hin eg3 dX8_goesOn_86 rfl (fun H locs hI => ?_)
    refine lv_iconst (v := 0) hx hb dX8_goesOn_87 (by decide) ?_
    replace hf := Option.some.inj hf
    subst hf
    replace hM : ((0 : Int32), g3, M_having, M_most) = out := hM
    subst hM
    exact rt_i (u := ()) hx hb hr hlocks (by decide) hI hAe rfl dX8_goesOn_88
  have J137 : ∀ (M_trial : Nat → Int32) (M_having : Nat → Int32) (M_most : Nat → Int32) (s1 : Int32) (s2 : Int32) (x : Int32 × (Nat → Int32) × (Nat → Int32) × (Nat → Int32)), X8_goesOn_J137 M_trial M_having M_most s1 s2 = some x → (fun z : Int32 × (Nat → Int32) × (Nat → Int32) × (Nat → Int32) => z = out) x → ∀ (H : Heap) (locs : List Loc) (ls : Array Slot), WI D A s.heap (wM cI cJ cZ m0 m1 m2 m3 m4 m5 m6 m7 m8 m9 m10 m11 m12 m13 M_posts M_roads M_size M_rows M_nextRows M_first M_second M_number M_lists M_square M_fan M_trial M_touching M_having M_most M_only M_can M_next) H locs → lv_has ls 4 [] → GX8_goesOn p l e s m below meth c D cI cJ cZ m0 m1 m2 m3 m4 m5 m6 m7 m8 m9 m10 m11 m12 m13 M_posts M_roads M_size M_rows M_nextRows M_first M_second M_number M_lists M_square M_fan M_trial_0 M_touching M_having_0 M_most_0 M_only M_can M_next a1 a2 out H locs (F0 m 137 ls [.int s2, .int s1, .ref m10]) := by
    intro M_trial M_having M_most s1 s2 x hf hM H locs ls hI hl
    obtain ⟨hin, hf⟩ := wr_e hf
    obtain ⟨g10, eg10⟩ : ∃ g : Nat → Int32, g = upd M_most (s1).toNatClampNeg s2 := ⟨_, rfl⟩
    replace hf := hf g10 eg10
    refine w_iast (g := g10) (W1 := (wM cI cJ cZ m0 m1 m2 m3 m4 m5 m6 m7 m8 m9 m10 m11 m12 m13 M_posts M_roads M_size M_rows M_nextRows M_first M_second M_number M_lists M_square M_fan M_trial M_touching M_having g10 M_only M_can M_next)) hx hb hK hI 10 rfl hin eg10 dX8_goesOn_137 rfl (fun H locs hI => ?_)
    refine lv_iconst (v := 1) hx hb dX8_goesOn_138 (by decide) ?_
    replace hf := Option.some.inj hf
    subst hf
    replace hM : ((1 : Int32), M_trial, M_having, g10) = out := hM
    subst hM
    exact rt_i (u := ()) hx hb hr hlocks (by decide) hI hAe rfl dX8_goesOn_139
  have J65 : ∀ (M_trial : Nat → Int32) (M_having : Nat → Int32) (M_most : Nat → Int32) (l1 : Int32) (l2 : Int32) (l3 : Int32) (x : Int32 × (Nat → Int32) × (Nat → Int32) × (Nat → Int32)), X8_goesOn_J65 M_trial M_having M_most l1 l2 l3 = some x → (fun z : Int32 × (Nat → Int32) × (Nat → Int32) × (Nat → Int32) => z = out) x → ∀ (H : Heap) (locs : List Loc) (ls : Array Slot), WI D A s.heap (wM cI cJ cZ m0 m1 m2 m3 m4 m5 m6 m7 m8 m9 m10 m11 m12 m13 M_posts M_roads M_size M_rows M_nextRows M_first M_second M_number M_lists M_square M_fan M_trial M_touching M_having M_most M_only M_can M_next) H locs → lv_has ls 4 [(0, .ref m0), (1, .int l1), (2, .int l2), (3, .int l3)] → GX8_goesOn p l e s m below meth c D cI cJ cZ m0 m1 m2 m3 m4 m5 m6 m7 m8 m9 m10 m11 m12 m13 M_posts M_roads M_size M_rows M_nextRows M_first M_second M_number M_lists M_square M_fan M_trial_0 M_touching M_having_0 M_most_0 M_only M_can M_next a1 a2 out H locs (F0 m 65 ls []) := by
    intro M_trial M_having M_most l1 l2 l3 x hf hM H locs ls hI hl
    refine lv_iload_n hx hb dX8_goesOn_65 rfl (lv_at hl 3 rfl) ?_
    refine lv_iload_n hx hb dX8_goesOn_66 rfl (lv_at hl 2 rfl) ?_
    refine lv_icmp_ge (tgt := 80) hx hb dX8_goesOn_67 (by decide) (fun hc => ?_) (fun hc => ?_)
    · replace hf := ite_t hc hf
      exact J80 M_trial M_having M_most l1 _ hf hM _ _ _ hI (lv_sub hl [0, 1] rfl)
    · replace hf := ite_f hc hf
      refine lv_iload_n hx hb dX8_goesOn_70 rfl (lv_at hl 3 rfl) ?_
      refine lv_aload_n hx hb dX8_goesOn_71 rfl (lv_at hl 0 rfl) ?_
      refine w_get hx hb hg hown hK hI iX8 0 rfl rfl 14 (by decide) wF_RX8_44 rfl dX8_goesOn_72 ?_
      refine lv_iload_n hx hb dX8_goesOn_75 rfl (lv_at hl 1 rfl) ?_
      obtain ⟨hin, hf⟩ := rd_e hf
      refine w_iald hx hb hK hI 10 rfl hin dX8_goesOn_76 (fun x4 ex4 => ?_)
      replace hf := hf x4 ex4
      refine lv_icmp_le (tgt := 89) hx hb dX8_goesOn_77 (by decide) (fun hc => ?_) (fun hc => ?_)
      · replace hf := ite_t hc hf
        refine lv_aload_n hx hb dX8_goesOn_89 rfl (lv_at hl 0 rfl) ?_
        refine w_get hx hb hg hown hK hI iX8 0 rfl rfl 11 (by decide) wF_RX8_35 rfl dX8_goesOn_90 ?_
        refine lv_iload_n hx hb dX8_goesOn_93 rfl (lv_at hl 1 rfl) ?_
        refine lv_iload_n hx hb dX8_goesOn_94 rfl (lv_at hl 3 rfl) ?_
        obtain ⟨hin, hf⟩ := wr_e hf
        obtain ⟨g5, eg5⟩ : ∃ g : Nat → Int32, g = upd M_trial (l1).toNatClampNeg l3 := ⟨_, rfl⟩
        replace hf := hf g5 eg5
        refine w_iast (g := g5) (W1 := (wM cI cJ cZ m0 m1 m2 m3 m4 m5 m6 m7 m8 m9 m10 m11 m12 m13 M_posts M_roads M_size M_rows M_nextRows M_first M_second M_number M_lists M_square M_fan g5 M_touching M_having M_most M_only M_can M_next)) hx hb hK hI 7 rfl hin eg5 dX8_goesOn_95 rfl (fun H locs hI => ?_)
        refine lv_aload_n hx hb dX8_goesOn_96 rfl (lv_at hl 0 rfl) ?_
        refine w_get hx hb hg hown hK hI iX8 0 rfl rfl 13 (by decide) wF_RX8_41 rfl dX8_goesOn_97 ?_
        refine lv_iload_n hx hb dX8_goesOn_100 rfl (lv_at hl 3 rfl) ?_
        refine lv_dup2_11 hx hb dX8_goesOn_101 rfl rfl ?_
        obtain ⟨hin, hf⟩ := rd_e hf
        refine w_iald hx hb hK hI 9 rfl hin dX8_goesOn_102 (fun x6 ex6 => ?_)
        replace hf := hf x6 ex6
        refine lv_iconst (v := 1) hx hb dX8_goesOn_103 (by decide) ?_
        refine lv_iload_n hx hb dX8_goesOn_104 rfl (lv_at hl 1 rfl) ?_
        refine lv_ishl hx hb dX8_goesOn_105 ?_
        refine lv_ior hx hb dX8_goesOn_106 ?_
        obtain ⟨hin, hf⟩ := wr_e hf
        obtain ⟨g7, eg7⟩ : ∃ g : Nat → Int32, g = upd M_having (l3).toNatClampNeg (x6 ||| ((1 : Int32) <<< (l1 &&& (31 : Int32)))) := ⟨_, rfl⟩
        replace hf := hf g7 eg7
        refine w_iast (g := g7) (W1 := (wM cI cJ cZ m0 m1 m2 m3 m4 m5 m6 m7 m8 m9 m10 m11 m12 m13 M_posts M_roads M_size M_rows M_nextRows M_first M_second M_number M_lists M_square M_fan g5 M_touching g7 M_most M_only M_can M_next)) hx hb hK hI 9 rfl hin eg7 dX8_goesOn_107 rfl (fun H locs hI => ?_)
        refine lv_aload_n hx hb dX8_goesOn_108 rfl (lv_at hl 0 rfl) ?_
        refine w_get hx hb hg hown hK hI iX8 0 rfl rfl 14 (by decide) wF_RX8_44 rfl dX8_goesOn_109 ?_
        refine lv_iload_n hx hb dX8_goesOn_112 rfl (lv_at hl 1 rfl) ?_
        refine lv_iconst (v := 1) hx hb dX8_goesOn_113 (by decide) ?_
        refine lv_iadd hx hb dX8_goesOn_114 ?_
        refine lv_iload_n hx hb dX8_goesOn_115 rfl (lv_at hl 3 rfl) ?_
        refine lv_aload_n hx hb dX8_goesOn_116 rfl (lv_at hl 0 rfl) ?_
        refine w_get hx hb hg hown hK hI iX8 0 rfl rfl 14 (by decide) wF_RX8_44 rfl dX8_goesOn_117 ?_
        refine lv_iload_n hx hb dX8_goesOn_120 rfl (lv_at hl 1 rfl) ?_
        obtain ⟨hin, hf⟩ := rd_e hf
        refine w_iald hx hb hK hI 10 rfl hin dX8_goesOn_121 (fun x8 ex8 => ?_)
        replace hf := hf x8 ex8
        refine lv_icmp_ne (tgt := 131) hx hb dX8_goesOn_122 (by decide) (fun hc => ?_) (fun hc => ?_)
        · replace hf := ite_f hc hf
          refine lv_aload_n hx hb dX8_goesOn_131 rfl (lv_at hl 0 rfl) ?_
          refine w_get hx hb hg hown hK hI iX8 0 rfl rfl 14 (by decide) wF_RX8_44 rfl dX8_goesOn_132 ?_
          refine lv_iload_n hx hb dX8_goesOn_135 rfl (lv_at hl 1 rfl) ?_
          obtain ⟨hin, hf⟩ := rd_e hf
          refine w_iald hx hb hK hI 10 rfl hin dX8_goesOn_136 (fun x9 ex9 => ?_)
          replace hf := hf x9 ex9
          exact J137 g5 g7 M_most (l1 + (1 : Int32)) x9 _ hf hM _ _ _ hI (lv_sub hl [] rfl)
        · replace hf := ite_t hc hf
          refine lv_iload_n hx hb dX8_goesOn_125 rfl (lv_at hl 3 rfl) ?_
          refine lv_iconst (v := 1) hx hb dX8_goesOn_126 (by decide) ?_
          refine lv_iadd hx hb dX8_goesOn_127 ?_
          refine lv_goto (tgt := 137) hx hb dX8_goesOn_128 (by decide) ?_
          exact J137 g5 g7 M_most (l1 + (1 : Int32)) (l3 + (1 : Int32)) _ hf hM _ _ _ hI (lv_sub hl [] rfl)
      · replace hf := ite_f hc hf
        exact J80 M_trial M_having M_most l1 _ hf hM _ _ _ hI (lv_sub hl [0, 1] rfl)
  have L28 : ∀ (M_trial : Nat → Int32) (M_having : Nat → Int32) (M_most : Nat → Int32) (l1 : Int32) (l2 : Int32), ∀ (v : Int32) (x : Int32 × (Nat → Int32) × (Nat → Int32) × (Nat → Int32)), loopO (X8_goesOn_L28 M_trial M_touching M_having M_most l1 l2) v = some x → (fun z : Int32 × (Nat → Int32) × (Nat → Int32) × (Nat → Int32) => z = out) x → (fun (v : Int32) => ∀ (H : Heap) (locs : List Loc) (ls : Array Slot), WI D A s.heap (wM cI cJ cZ m0 m1 m2 m3 m4 m5 m6 m7 m8 m9 m10 m11 m12 m13 M_posts M_roads M_size M_rows M_nextRows M_first M_second M_number M_lists M_square M_fan M_trial M_touching M_having M_most M_only M_can M_next) H locs → lv_has ls 4 [(0, .ref m0), (1, .int l1), (2, .int l2), (3, .int v)] → GX8_goesOn p l e s m below meth c D cI cJ cZ m0 m1 m2 m3 m4 m5 m6 m7 m8 m9 m10 m11 m12 m13 M_posts M_roads M_size M_rows M_nextRows M_first M_second M_number M_lists M_square M_fan M_trial_0 M_touching M_having_0 M_most_0 M_only M_can M_next a1 a2 out H locs (F0 m 28 ls [])) v := by
    intro M_trial M_having M_most l1 l2
    refine loopO_ind (fun (v : Int32) => ∀ (H : Heap) (locs : List Loc) (ls : Array Slot), WI D A s.heap (wM cI cJ cZ m0 m1 m2 m3 m4 m5 m6 m7 m8 m9 m10 m11 m12 m13 M_posts M_roads M_size M_rows M_nextRows M_first M_second M_number M_lists M_square M_fan M_trial M_touching M_having M_most M_only M_can M_next) H locs → lv_has ls 4 [(0, .ref m0), (1, .int l1), (2, .int l2), (3, .int v)] → GX8_goesOn p l e s m below meth c D cI cJ cZ m0 m1 m2 m3 m4 m5 m6 m7 m8 m9 m10 m11 m12 m13 M_posts M_roads M_size M_rows M_nextRows M_first M_second M_number M_lists M_square M_fan M_trial_0 M_touching M_having_0 M_most_0 M_only M_can M_next a1 a2 out H locs (F0 m 28 ls [])) (fun z : Int32 × (Nat → Int32) × (Nat → Int32) × (Nat → Int32) => z = out) ?_
    intro v x hf hM H locs ls hI hl
    refine lv_iload_n hx hb dX8_goesOn_28 rfl (lv_at hl 3 rfl) ?_
    refine lv_iload_n hx hb dX8_goesOn_29 rfl (lv_at hl 2 rfl) ?_
    refine lv_icmp_ge (tgt := 65) hx hb dX8_goesOn_30 (by decide) (fun hc => ?_) (fun hc => ?_)
    · replace hf := ite_t hc hf
      obtain ⟨z, hf2, ez⟩ := mp_e hf
      clear hf
      subst ez
      exact J65 M_trial M_having M_most l1 l2 v _ hf2 hM _ _ _ hI (lv_sub hl [0, 1, 2, 3] rfl)
    · replace hf := ite_f hc hf
      refine lv_iload_n hx hb dX8_goesOn_33 rfl (lv_at hl 3 rfl) ?_
      refine lv_aload_n hx hb dX8_goesOn_34 rfl (lv_at hl 0 rfl) ?_
      refine w_get hx hb hg hown hK hI iX8 0 rfl rfl 14 (by decide) wF_RX8_44 rfl dX8_goesOn_35 ?_
      refine lv_iload_n hx hb dX8_goesOn_38 rfl (lv_at hl 1 rfl) ?_
      obtain ⟨hin, hf⟩ := rd_e hf
      refine w_iald hx hb hK hI 10 rfl hin dX8_goesOn_39 (fun x11 ex11 => ?_)
      replace hf := hf x11 ex11
      refine lv_icmp_gt (tgt := 65) hx hb dX8_goesOn_40 (by decide) (fun hc => ?_) (fun hc => ?_)
      · replace hf := ite_t hc hf
        obtain ⟨z, hf2, ez⟩ := mp_e hf
        clear hf
        subst ez
        exact J65 M_trial M_having M_most l1 l2 v _ hf2 hM _ _ _ hI (lv_sub hl [0, 1, 2, 3] rfl)
      · replace hf := ite_f hc hf
        refine lv_aload_n hx hb dX8_goesOn_43 rfl (lv_at hl 0 rfl) ?_
        refine w_get hx hb hg hown hK hI iX8 0 rfl rfl 13 (by decide) wF_RX8_41 rfl dX8_goesOn_44 ?_
        refine lv_iload_n hx hb dX8_goesOn_47 rfl (lv_at hl 3 rfl) ?_
        obtain ⟨hin, hf⟩ := rd_e hf
        refine w_iald hx hb hK hI 9 rfl hin dX8_goesOn_48 (fun x12 ex12 => ?_)
        replace hf := hf x12 ex12
        refine lv_aload_n hx hb dX8_goesOn_49 rfl (lv_at hl 0 rfl) ?_
        refine w_get hx hb hg hown hK hI iX8 0 rfl rfl 12 (by decide) wF_RX8_38 rfl dX8_goesOn_50 ?_
        refine lv_iload_n hx hb dX8_goesOn_53 rfl (lv_at hl 1 rfl) ?_
        obtain ⟨hin, hf⟩ := rd_e hf
        refine w_iald hx hb hK hI 8 rfl hin dX8_goesOn_54 (fun x13 ex13 => ?_)
        replace hf := hf x13 ex13
        refine lv_iand hx hb dX8_goesOn_55 ?_
        refine lv_if_eq (tgt := 65) hx hb dX8_goesOn_56 (by decide) (fun hc => ?_) (fun hc => ?_)
        · replace hf := ite_t hc hf
          obtain ⟨z, hf2, ez⟩ := mp_e hf
          clear hf
          subst ez
          exact J65 M_trial M_having M_most l1 l2 v _ hf2 hM _ _ _ hI (lv_sub hl [0, 1, 2, 3] rfl)
        · replace hf := ite_f hc hf
          obtain ⟨x14, ex14⟩ : ∃ y : Int32, y = (v + (1 : Int32)) := ⟨_, rfl⟩
          replace hf := bnd_e hf x14 ex14
          refine lv_iinc (v := x14) (lv' := [(3, .int x14), (0, .ref m0), (1, .int l1), (2, .int l2)]) hx hb dX8_goesOn_59 hl (k := 3) rfl (by rw [ex14]; rfl) (by decide) rfl (fun ls hl => ?_)
          refine lv_goto (tgt := 28) hx hb dX8_goesOn_62 (by decide) ?_
          replace hf := Option.some.inj hf
          subst hf
          exact hM _ _ _ hI (lv_sub hl [1, 2, 3, 0] rfl)
  obtain ⟨x, hf, hM⟩ : ∃ x, FX8_goesOn M_trial_0 M_touching M_having_0 M_most_0 a1 a2 = some x ∧ x = out := ⟨out, hf, rfl⟩
  refine lv_aload_n hx hb dX8_goesOn_0 rfl (lv_at hl 0 rfl) ?_
  refine w_get hx hb hg hown hK hI iX8 0 rfl rfl 11 (by decide) wF_RX8_35 rfl dX8_goesOn_1 ?_
  refine lv_iload_n hx hb dX8_goesOn_4 rfl (lv_at hl 1 rfl) ?_
  obtain ⟨hin, hf⟩ := rd_e hf
  refine w_iald hx hb hK hI 7 rfl hin dX8_goesOn_5 (fun x1 ex1 => ?_)
  replace hf := hf x1 ex1
  refine lv_istore_n (lv' := [(3, .int x1), (0, .ref m0), (1, .int a1), (2, .int a2)]) hx hb dX8_goesOn_6 rfl hl (by decide) rfl (fun ls hl => ?_)
  refine lv_iload_n hx hb dX8_goesOn_7 rfl (lv_at hl 0 rfl) ?_
  refine lv_if_lt (tgt := 25) hx hb dX8_goesOn_8 (by decide) (fun hc => ?_) (fun hc => ?_)
  · replace hf := ite_t hc hf
    obtain ⟨x2, ex2⟩ : ∃ y : Int32, y = (x1 + (1 : Int32)) := ⟨_, rfl⟩
    replace hf := bnd_e hf x2 ex2
    refine lv_iinc (v := x2) (lv' := [(3, .int x2), (0, .ref m0), (1, .int a1), (2, .int a2)]) hx hb dX8_goesOn_25 hl (k := 0) rfl (by rw [ex2]; rfl) (by decide) rfl (fun ls hl => ?_)
    exact L28 M_trial_0 M_having_0 M_most_0 a1 a2 x2 _ hf hM _ _ _ hI (lv_sub hl [1, 2, 3, 0] rfl)
  · replace hf := ite_f hc hf
    refine lv_aload_n hx hb dX8_goesOn_11 rfl (lv_at hl 1 rfl) ?_
    refine w_get hx hb hg hown hK hI iX8 0 rfl rfl 13 (by decide) wF_RX8_41 rfl dX8_goesOn_12 ?_
    refine lv_iload_n hx hb dX8_goesOn_15 rfl (lv_at hl 0 rfl) ?_
    refine lv_dup2_11 hx hb dX8_goesOn_16 rfl rfl ?_
    obtain ⟨hin, hf⟩ := rd_e hf
    refine w_iald hx hb hK hI 9 rfl hin dX8_goesOn_17 (fun x15 ex15 => ?_)
    replace hf := hf x15 ex15
    refine lv_iconst (v := 1) hx hb dX8_goesOn_18 (by decide) ?_
    refine lv_iload_n hx hb dX8_goesOn_19 rfl (lv_at hl 2 rfl) ?_
    refine lv_ishl hx hb dX8_goesOn_20 ?_
    refine lv_iconst (v := -1) hx hb dX8_goesOn_21 (by decide) ?_
    refine lv_ixor hx hb dX8_goesOn_22 ?_
    refine lv_iand hx hb dX8_goesOn_23 ?_
    obtain ⟨hin, hf⟩ := wr_e hf
    obtain ⟨g16, eg16⟩ : ∃ g : Nat → Int32, g = upd M_having_0 (x1).toNatClampNeg (x15 &&& (((1 : Int32) <<< (a1 &&& (31 : Int32))) ^^^ (-1 : Int32))) := ⟨_, rfl⟩
    replace hf := hf g16 eg16
    refine w_iast (g := g16) (W1 := (wM cI cJ cZ m0 m1 m2 m3 m4 m5 m6 m7 m8 m9 m10 m11 m12 m13 M_posts M_roads M_size M_rows M_nextRows M_first M_second M_number M_lists M_square M_fan M_trial_0 M_touching g16 M_most_0 M_only M_can M_next)) hx hb hK hI 9 rfl hin eg16 dX8_goesOn_24 rfl (fun H locs hI => ?_)
    obtain ⟨x17, ex17⟩ : ∃ y : Int32, y = (x1 + (1 : Int32)) := ⟨_, rfl⟩
    replace hf := bnd_e hf x17 ex17
    refine lv_iinc (v := x17) (lv' := [(3, .int x17), (0, .ref m0), (1, .int a1), (2, .int a2)]) hx hb dX8_goesOn_25 hl (k := 0) rfl (by rw [ex17]; rfl) (by decide) rfl (fun ls hl => ?_)
    exact L28 M_trial_0 g16 M_most_0 a1 a2 x17 _ hf hM _ _ _ hI (lv_sub hl [1, 2, 3, 0] rfl)
noncomputable def X8_tries_J65 (M_roads : Int32) (M_trial : Nat → Int32) (M_touching : Nat → Int32) (M_having : Nat → Int32) (M_most : Nat → Int32) (l1 : Int32) (l2 : Int32) (l3 : Int32) : Option (((Nat → Int32) × (Nat → Int32) × (Nat → Int32) × Int32) ⊕ (Int32 × (Nat → Int32) × (Nat → Int32) × (Nat → Int32) × (Nat → Int32))) :=
  if (0 : Int32) ≤ l3 then (some (.inl (M_trial, M_having, M_most, l3))) else (some (.inr ((0 : Int32), M_trial, M_touching, M_having, M_most)))
noncomputable def X8_tries_L6 (M_roads : Int32) (M_touching : Nat → Int32) (l1 : Int32) (l2 : Int32) (v : (Nat → Int32) × (Nat → Int32) × (Nat → Int32) × Int32) : Option (((Nat → Int32) × (Nat → Int32) × (Nat → Int32) × Int32) ⊕ (Int32 × (Nat → Int32) × (Nat → Int32) × (Nat → Int32) × (Nat → Int32))) :=
  if M_roads ≤ v.2.2.2 then (some (.inr ((1 : Int32), v.1, M_touching, v.2.1, v.2.2.1))) else (if v.2.2.2 = l2 then (rd v.2.2.1 25 v.2.2.2 (fun x6 => wr v.2.2.1 25 (v.2.2.2 + (1 : Int32)) x6 (fun g7 => bnd (v.2.2.2 + (1 : Int32)) (fun x8 => some (.inl (v.1, v.2.1, g7, x8)))))) else ((FX8_goesOn v.1 M_touching v.2.1 v.2.2.1 v.2.2.2 l1).bind (fun o2 => if o2.1 = (0 : Int32) then (bnd (v.2.2.2 + (-1 : Int32)) (fun x3 => if x3 = l2 then (bnd (x3 + (-1 : Int32)) (fun x4 => X8_tries_J65 M_roads o2.2.1 M_touching o2.2.2.1 o2.2.2.2 l1 l2 x4)) else (X8_tries_J65 M_roads o2.2.1 M_touching o2.2.2.1 o2.2.2.2 l1 l2 x3))) else (bnd (v.2.2.2 + (1 : Int32)) (fun x5 => some (.inl (o2.2.1, o2.2.2.1, o2.2.2.2, x5)))))))
noncomputable def FX8_tries (M_roads : Int32) (M_first : Nat → Int32) (M_second : Nat → Int32) (M_trial_0 : Nat → Int32) (M_touching_0 : Nat → Int32) (M_having_0 : Nat → Int32) (M_most_0 : Nat → Int32) (a1 : Int32) (a2 : Int32) : Option (Int32 × (Nat → Int32) × (Nat → Int32) × (Nat → Int32) × (Nat → Int32)) :=
  (FX8_lookAtRoads M_roads M_first M_second M_trial_0 M_touching_0 M_having_0 M_most_0).bind (fun o1 => loopO (X8_tries_L6 M_roads o1.2.1 a1 a2) (o1.1, o1.2.2.1, o1.2.2.2, (0 : Int32)))
abbrev GX8_tries (p : Program) (l : Launch) (e : Env) (s : State) (m : MethodId) (below : List Frame) (meth : Method) (c : Code) (D : va_G) (cI cJ cZ : ClassId) (m0 m1 m2 m3 m4 m5 m6 m7 m8 m9 m10 m11 m12 m13 : Nat) (M_posts : Int32) (M_roads : Int32) (M_size : Int32) (M_rows : Int32) (M_nextRows : Int32) (M_first : Nat → Int32) (M_second : Nat → Int32) (M_number : Nat → Int32) (M_lists : Nat → Int32) (M_square : Nat → Int32) (M_fan : Nat → Int32) (M_trial_0 : Nat → Int32) (M_touching_0 : Nat → Int32) (M_having_0 : Nat → Int32) (M_most_0 : Nat → Int32) (M_only : Nat → Int32) (M_can : Nat → Int32) (M_next : Nat → Int32) (a1 : Int32) (a2 : Int32) (out : Int32 × (Nat → Int32) × (Nat → Int32) × (Nat → Int32) × (Nat → Int32)) (H : Heap) (locs : List Loc) (g : JFrame) : Prop := W p l e (headSpec (Cond.code yX8_tries cX8_tries 4 (some .boolean) :: GW) { frames := 3, cells := 0, slots := 0, locals := 66 }).room s m ([.ref m0, .int a1, .int a2] : List Value).toArray below meth c H locs 0 0 (MQ below (va_Qi (fun r (_ : Unit) => r = out.1) (BW D (wM cI cJ cZ m0 m1 m2 m3 m4 m5 m6 m7 m8 m9 m10 m11 m12 m13 M_posts M_roads M_size M_rows M_nextRows M_first M_second M_number M_lists M_square M_fan M_trial_0 M_touching_0 M_having_0 M_most_0 M_only M_can M_next) s.heap.size (fun _ => (wM cI cJ cZ m0 m1 m2 m3 m4 m5 m6 m7 m8 m9 m10 m11 m12 m13 M_posts M_roads M_size M_rows M_nextRows M_first M_second M_number M_lists M_square M_fan out.2.1 out.2.2.1 out.2.2.2.1 out.2.2.2.2 M_only M_can M_next))) (va_A (wM cI cJ cZ m0 m1 m2 m3 m4 m5 m6 m7 m8 m9 m10 m11 m12 m13 M_posts M_roads M_size M_rows M_nextRows M_first M_second M_number M_lists M_square M_fan M_trial_0 M_touching_0 M_having_0 M_most_0 M_only M_can M_next) s.heap.size)) ([.ref m0, .int a1, .int a2] : List Value).toArray s 0 0 (va_A (wM cI cJ cZ m0 m1 m2 m3 m4 m5 m6 m7 m8 m9 m10 m11 m12 m13 M_posts M_roads M_size M_rows M_nextRows M_first M_second M_number M_lists M_square M_fan M_trial_0 M_touching_0 M_having_0 M_most_0 M_only M_can M_next) s.heap.size)) g
theorem kvX8_tries : CalV RX8 yX8_tries cX8_tries 4 (some .boolean) 2 := ⟨wC_yX8_tries, wM_yX8_tries, wS_yX8_tries, wI_RX8, by decide +kernel⟩
set_option maxHeartbeats 4000000 in
set_option maxRecDepth 100000 in
theorem kX8_tries (l : Launch) (D : va_G) (cI cJ cZ : ClassId) (m0 m1 m2 m3 m4 m5 m6 m7 m8 m9 m10 m11 m12 m13 : Nat) (M_posts : Int32) (M_roads : Int32) (M_size : Int32) (M_rows : Int32) (M_nextRows : Int32) (M_first : Nat → Int32) (M_second : Nat → Int32) (M_number : Nat → Int32) (M_lists : Nat → Int32) (M_square : Nat → Int32) (M_fan : Nat → Int32) (M_trial_0 : Nat → Int32) (M_touching_0 : Nat → Int32) (M_having_0 : Nat → Int32) (M_most_0 : Nat → Int32) (M_only : Nat → Int32) (M_can : Nat → Int32) (M_next : Nat → Int32) (a1 : Int32) (a2 : Int32) (out : Int32 × (Nat → Int32) × (Nat → Int32) × (Nat → Int32) × (Nat → Int32)) (hf : FX8_tries M_roads M_first M_second M_trial_0 M_touching_0 M_having_0 M_most_0 a1 a2 = some out) : MI l yX8_tries (Cond.code yX8_tries cX8_tries 4 (some .boolean) :: GW) { frames := 3, cells := 0, slots := 0, locals := 66 } D cI cJ cZ [.ref m0, .int a1, .int a2] (wM cI cJ cZ m0 m1 m2 m3 m4 m5 m6 m7 m8 m9 m10 m11 m12 m13 M_posts M_roads M_size M_rows M_nextRows M_first M_second M_number M_lists M_square M_fan M_trial_0 M_touching_0 M_having_0 M_most_0 M_only M_can M_next) (fun r (_ : Unit) => r = out.1) (fun _ => (wM cI cJ cZ m0 m1 m2 m3 m4 m5 m6 m7 m8 m9 m10 m11 m12 m13 M_posts M_roads M_size M_rows M_nextRows M_first M_second M_number M_lists M_square M_fan out.2.1 out.2.2.1 out.2.2.2.1 out.2.2.2.2 M_only M_can M_next)) := by
  intro sz
  refine Met.ofW (cc := cX8_tries) (maxL := 4) (ret := (some .boolean)) (by decide +kernel) rfl ?_
  intro p e s m args below meth c s₁ B hml hv
  obtain ⟨rfl, hsz, hP, hK, hD0⟩ := hv
  have hx := B.exec
  have hb := B.bytes
  have hr := B.returns
  have hlocks := B.notSynchronized
  have hg : ∀ w ∈ GW, w.before _ s = true := fun w h => atoms_spec (ws := Cond.code yX8_tries cX8_tries 4 (some .boolean) :: GW) B.pre w (List.mem_cons_of_mem _ h)
  have hown : s.vm.findClass RX8 = some m.cls := findClass_of_methodNamed B.named
  subst hsz
  obtain ⟨A, hAe⟩ : ∃ A, A = va_A (wM cI cJ cZ m0 m1 m2 m3 m4 m5 m6 m7 m8 m9 m10 m11 m12 m13 M_posts M_roads M_size M_rows M_nextRows M_first M_second M_number M_lists M_square M_fan M_trial_0 M_touching_0 M_having_0 M_most_0 M_only M_can M_next) s.heap.size := ⟨_, rfl⟩
  have hA : ∀ q : Nat, s.heap.size ≤ q → A q := fun q h => by rw [hAe]; exact Or.inr h
  have hI : WI D A s.heap (wM cI cJ cZ m0 m1 m2 m3 m4 m5 m6 m7 m8 m9 m10 m11 m12 m13 M_posts M_roads M_size M_rows M_nextRows M_first M_second M_number M_lists M_square M_fan M_trial_0 M_touching_0 M_having_0 M_most_0 M_only M_can M_next) s.heap [] := ⟨hP, by rw [hAe]; exact hD0.self, va_S.rf⟩
  have hl := lv_entry [.ref m0, .int a1, .int a2] (n := 4) (Nat.le_of_ble_eq_true rfl)
  rw [lg_entry_eq]
  generalize (lg_sl [.ref m0, .int a1, .int a2] ++ List.replicate (4 - (lg_sl [.ref m0, .int a1, .int a2]).length) Slot.unset).toArray = ls at hl ⊢
  replace hl : lv_has ls 4 [(0, .ref m0), (1, .int a1), (2, .int a2)] := hl
  have J65 : ∀ (M_trial : Nat → Int32) (M_touching : Nat → Int32) (M_having : Nat → Int32) (M_most : Nat → Int32) (l1 : Int32) (l2 : Int32) (l3 : Int32) (x : ((Nat → Int32) × (Nat → Int32) × (Nat → Int32) × Int32) ⊕ (Int32 × (Nat → Int32) × (Nat → Int32) × (Nat → Int32) × (Nat → Int32))), X8_tries_J65 M_roads M_trial M_touching M_having M_most l1 l2 l3 = some x → (fun z => Sum.elim (fun (v1 : (Nat → Int32) × (Nat → Int32) × (Nat → Int32) × Int32) => ∀ (H : Heap) (locs : List Loc) (ls : Array Slot), WI D A s.heap (wM cI cJ cZ m0 m1 m2 m3 m4 m5 m6 m7 m8 m9 m10 m11 m12 m13 M_posts M_roads M_size M_rows M_nextRows M_first M_second M_number M_lists M_square M_fan v1.1 M_touching v1.2.1 v1.2.2.1 M_only M_can M_next) H locs → lv_has ls 4 [(0, .ref m0), (1, .int l1), (2, .int l2), (3, .int v1.2.2.2)] → GX8_tries p l e s m below meth c D cI cJ cZ m0 m1 m2 m3 m4 m5 m6 m7 m8 m9 m10 m11 m12 m13 M_posts M_roads M_size M_rows M_nextRows M_first M_second M_number M_lists M_square M_fan M_trial_0 M_touching_0 M_having_0 M_most_0 M_only M_can M_next a1 a2 out H locs (F0 m 6 ls [])) (fun z : Int32 × (Nat → Int32) × (Nat → Int32) × (Nat → Int32) × (Nat → Int32) => z = out) z) x → ∀ (H : Heap) (locs : List Loc) (ls : Array Slot), WI D A s.heap (wM cI cJ cZ m0 m1 m2 m3 m4 m5 m6 m7 m8 m9 m10 m11 m12 m13 M_posts M_roads M_size M_rows M_nextRows M_first M_second M_number M_lists M_square M_fan M_trial M_touching M_having M_most M_only M_can M_next) H locs → lv_has ls 4 [(0, .ref m0), (1, .int l1), (2, .int l2), (3, .int l3)] → GX8_tries p l e s m below meth c D cI cJ cZ m0 m1 m2 m3 m4 m5 m6 m7 m8 m9 m10 m11 m12 m13 M_posts M_roads M_size M_rows M_nextRows M_first M_second M_number M_lists M_square M_fan M_trial_0 M_touching_0 M_having_0 M_most_0 M_only M_can M_next a1 a2 out H locs (F0 m 65 ls []) := by
    intro M_trial M_touching M_having M_most l1 l2 l3 x hf hM H locs ls hI hl
    refine lv_iload_n hx hb dX8_tries_65 rfl (lv_at hl 3 rfl) ?_
    refine lv_if_ge (tgt := 6) hx hb dX8_tries_66 (by decide) (fun hc => ?_) (fun hc => ?_)
    · replace hf := ite_t hc hf
      replace hf := Option.some.inj hf
      subst hf
      exact hM _ _ _ hI (lv_sub hl [0, 1, 2, 3] rfl)
    · replace hf := ite_f hc hf
      refine lv_iconst (v := 0) hx hb dX8_tries_69 (by decide) ?_
      replace hf := Option.some.inj hf
      subst hf
      replace hM : ((0 : Int32), M_trial, M_touching, M_having, M_most) = out := hM
      subst hM
      exact rt_i (u := ()) hx hb hr hlocks (by decide) hI hAe rfl dX8_tries_70
  have L6 : ∀ (M_touching : Nat → Int32) (l1 : Int32) (l2 : Int32), ∀ (v : (Nat → Int32) × (Nat → Int32) × (Nat → Int32) × Int32) (x : Int32 × (Nat → Int32) × (Nat → Int32) × (Nat → Int32) × (Nat → Int32)), loopO (X8_tries_L6 M_roads M_touching l1 l2) v = some x → (fun z : Int32 × (Nat → Int32) × (Nat → Int32) × (Nat → Int32) × (Nat → Int32) => z = out) x → (fun (v : (Nat → Int32) × (Nat → Int32) × (Nat → Int32) × Int32) => ∀ (H : Heap) (locs : List Loc) (ls : Array Slot), WI D A s.heap (wM cI cJ cZ m0 m1 m2 m3 m4 m5 m6 m7 m8 m9 m10 m11 m12 m13 M_posts M_roads M_size M_rows M_nextRows M_first M_second M_number M_lists M_square M_fan v.1 M_touching v.2.1 v.2.2.1 M_only M_can M_next) H locs → lv_has ls 4 [(0, .ref m0), (1, .int l1), (2, .int l2), (3, .int v.2.2.2)] → GX8_tries p l e s m below meth c D cI cJ cZ m0 m1 m2 m3 m4 m5 m6 m7 m8 m9 m10 m11 m12 m13 M_posts M_roads M_size M_rows M_nextRows M_first M_second M_number M_lists M_square M_fan M_trial_0 M_touching_0 M_having_0 M_most_0 M_only M_can M_next a1 a2 out H locs (F0 m 6 ls [])) v := by
    intro M_touching l1 l2
    refine loopO_ind (fun (v : (Nat → Int32) × (Nat → Int32) × (Nat → Int32) × Int32) => ∀ (H : Heap) (locs : List Loc) (ls : Array Slot), WI D A s.heap (wM cI cJ cZ m0 m1 m2 m3 m4 m5 m6 m7 m8 m9 m10 m11 m12 m13 M_posts M_roads M_size M_rows M_nextRows M_first M_second M_number M_lists M_square M_fan v.1 M_touching v.2.1 v.2.2.1 M_only M_can M_next) H locs → lv_has ls 4 [(0, .ref m0), (1, .int l1), (2, .int l2), (3, .int v.2.2.2)] → GX8_tries p l e s m below meth c D cI cJ cZ m0 m1 m2 m3 m4 m5 m6 m7 m8 m9 m10 m11 m12 m13 M_posts M_roads M_size M_rows M_nextRows M_first M_second M_number M_lists M_square M_fan M_trial_0 M_touching_0 M_having_0 M_most_0 M_only M_can M_next a1 a2 out H locs (F0 m 6 ls [])) (fun z : Int32 × (Nat → Int32) × (Nat → Int32) × (Nat → Int32) × (Nat → Int32) => z = out) ?_
    intro v x hf hM H locs ls hI hl
    refine lv_iload_n hx hb dX8_tries_6 rfl (lv_at hl 3 rfl) ?_
    refine lv_aload_n hx hb dX8_tries_7 rfl (lv_at hl 0 rfl) ?_
    refine w_get hx hb hg hown hK hI iX8 0 rfl rfl 1 (by decide) wF_RX8_57 rfl dX8_tries_8 ?_
    refine lv_icmp_ge (tgt := 71) hx hb dX8_tries_11 (by decide) (fun hc => ?_) (fun hc => ?_)
    · replace hf := ite_t hc hf
      refine lv_iconst (v := 1) hx hb dX8_tries_71 (by decide) ?_
      replace hf := Option.some.inj hf
      subst hf
      replace hM : ((1 : Int32), v.1, M_touching, v.2.1, v.2.2.1) = out := hM
      subst hM
      exact rt_i (u := ()) hx hb hr hlocks (by decide) hI hAe rfl dX8_tries_72
    · replace hf := ite_f hc hf
      refine lv_iload_n hx hb dX8_tries_14 rfl (lv_at hl 3 rfl) ?_
      refine lv_iload_n hx hb dX8_tries_15 rfl (lv_at hl 2 rfl) ?_
      refine lv_icmp_ne (tgt := 39) hx hb dX8_tries_16 (by decide) (fun hc => ?_) (fun hc => ?_)
      · replace hf := ite_f hc hf
        refine lv_aload_n hx hb dX8_tries_39 rfl (lv_at hl 0 rfl) ?_
        refine lv_iload_n hx hb dX8_tries_40 rfl (lv_at hl 3 rfl) ?_
        refine lv_iload_n hx hb dX8_tries_41 rfl (lv_at hl 1 rfl) ?_
        obtain ⟨o2, ho2, hf⟩ := bd_e hf
        refine w_Vi0 (wc := (wM cI cJ cZ m0 m1 m2 m3 m4 m5 m6 m7 m8 m9 m10 m11 m12 m13 M_posts M_roads M_size M_rows M_nextRows M_first M_second M_number M_lists M_square M_fan v.1 M_touching v.2.1 v.2.2.1 M_only M_can M_next)) (wr := []) (rest := []) hx hb hml hg hown hK hA hI (kX8_goesOn l D cI cJ cZ m0 m1 m2 m3 m4 m5 m6 m7 m8 m9 m10 m11 m12 m13 M_posts M_roads M_size M_rows M_nextRows M_first M_second M_number M_lists M_square M_fan v.1 M_touching v.2.1 v.2.2.1 M_only M_can M_next v.2.2.2 l1 o2 ho2) kvX8_goesOn wL_RX8_139 ⟨Nat.le_of_ble_eq_true rfl, Nat.le_of_ble_eq_true rfl⟩ rfl rfl [0, 1, 2, 3, 4, 5, 6, 7, 8, 9, 10, 11, 12, 13] [] rfl rfl rfl rfl (by decide) rfl rfl hl.1 (Nat.le_of_ble_eq_true rfl) dX8_tries_42 ⟨Nat.zero_le _, Nat.zero_le _⟩ ⟨rfl, rfl⟩ (fun r u H locs hp hI => ?_)
        replace hp : r = o2.1 := hp
        rw [hp]
        clear hp
        replace hI : WI D A s.heap (wM cI cJ cZ m0 m1 m2 m3 m4 m5 m6 m7 m8 m9 m10 m11 m12 m13 M_posts M_roads M_size M_rows M_nextRows M_first M_second M_number M_lists M_square M_fan o2.2.1 M_touching o2.2.2.1 o2.2.2.2 M_only M_can M_next) H locs := hI
        refine lv_if_eq (tgt := 54) hx hb dX8_tries_45 (by decide) (fun hc => ?_) (fun hc => ?_)
        · replace hf := ite_t hc hf
          obtain ⟨x3, ex3⟩ : ∃ y : Int32, y = (v.2.2.2 + (-1 : Int32)) := ⟨_, rfl⟩
          replace hf := bnd_e hf x3 ex3
          refine lv_iinc (v := x3) (lv' := [(3, .int x3), (0, .ref m0), (1, .int l1), (2, .int l2)]) hx hb dX8_tries_54 hl (k := 3) rfl (by rw [ex3]; rfl) (by decide) rfl (fun ls hl => ?_)
          refine lv_iload_n hx hb dX8_tries_57 rfl (lv_at hl 0 rfl) ?_
          refine lv_iload_n hx hb dX8_tries_58 rfl (lv_at hl 3 rfl) ?_
          refine lv_icmp_ne (tgt := 65) hx hb dX8_tries_59 (by decide) (fun hc => ?_) (fun hc => ?_)
          · replace hf := ite_f hc hf
            exact J65 o2.2.1 M_touching o2.2.2.1 o2.2.2.2 l1 l2 x3 _ hf hM _ _ _ hI (lv_sub hl [1, 2, 3, 0] rfl)
          · replace hf := ite_t hc hf
            obtain ⟨x4, ex4⟩ : ∃ y : Int32, y = (x3 + (-1 : Int32)) := ⟨_, rfl⟩
            replace hf := bnd_e hf x4 ex4
            refine lv_iinc (v := x4) (lv' := [(3, .int x4), (0, .ref m0), (1, .int l1), (2, .int l2)]) hx hb dX8_tries_62 hl (k := 0) rfl (by rw [ex4]; rfl) (by decide) rfl (fun ls hl => ?_)
            exact J65 o2.2.1 M_touching o2.2.2.1 o2.2.2.2 l1 l2 x4 _ hf hM _ _ _ hI (lv_sub hl [1, 2, 3, 0] rfl)
        · replace hf := ite_f hc hf
          obtain ⟨x5, ex5⟩ : ∃ y : Int32, y = (v.2.2.2 + (1 : Int32)) := ⟨_, rfl⟩
          replace hf := bnd_e hf x5 ex5
          refine lv_iinc (v := x5) (lv' := [(3, .int x5), (0, .ref m0), (1, .int l1), (2, .int l2)]) hx hb dX8_tries_48 hl (k := 3) rfl (by rw [ex5]; rfl) (by decide) rfl (fun ls hl => ?_)
          refine lv_goto (tgt := 6) hx hb dX8_tries_51 (by decide) ?_
          replace hf := Option.some.inj hf
          subst hf
          exact hM _ _ _ hI (lv_sub hl [1, 2, 3, 0] rfl)
      · replace hf := ite_t hc hf
        refine lv_aload_n hx hb dX8_tries_19 rfl (lv_at hl 0 rfl) ?_
        refine w_get hx hb hg hown hK hI iX8 0 rfl rfl 14 (by decide) wF_RX8_44 rfl dX8_tries_20 ?_
        refine lv_iload_n hx hb dX8_tries_23 rfl (lv_at hl 3 rfl) ?_
        refine lv_iconst (v := 1) hx hb dX8_tries_24 (by decide) ?_
        refine lv_iadd hx hb dX8_tries_25 ?_
        refine lv_aload_n hx hb dX8_tries_26 rfl (lv_at hl 0 rfl) ?_
        refine w_get hx hb hg hown hK hI iX8 0 rfl rfl 14 (by decide) wF_RX8_44 rfl dX8_tries_27 ?_
        refine lv_iload_n hx hb dX8_tries_30 rfl (lv_at hl 3 rfl) ?_
        obtain ⟨hin, hf⟩ := rd_e hf
        refine w_iald hx hb hK hI 10 rfl hin dX8_tries_31 (fun x6 ex6 => ?_)
        replace hf := hf x6 ex6
        obtain ⟨hin, hf⟩ := wr_e hf
        obtain ⟨g7, eg7⟩ : ∃ g : Nat → Int32, g = upd v.2.2.1 ((v.2.2.2 + (1 : Int32))).toNatClampNeg x6 := ⟨_, rfl⟩
        replace hf := hf g7 eg7
        refine w_iast (g := g7) (W1 := (wM cI cJ cZ m0 m1 m2 m3 m4 m5 m6 m7 m8 m9 m10 m11 m12 m13 M_posts M_roads M_size M_rows M_nextRows M_first M_second M_number M_lists M_square M_fan v.1 M_touching v.2.1 g7 M_only M_can M_next)) hx hb hK hI 10 rfl hin eg7 dX8_tries_32 rfl (fun H locs hI => ?_)
        obtain ⟨x8, ex8⟩ : ∃ y : Int32, y = (v.2.2.2 + (1 : Int32)) := ⟨_, rfl⟩
        replace hf := bnd_e hf x8 ex8
        refine lv_iinc (v := x8) (lv' := [(3, .int x8), (0, .ref m0), (1, .int l1), (2, .int l2)]) hx hb dX8_tries_33 hl (k := 3) rfl (by rw [ex8]; rfl) (by decide) rfl (fun ls hl => ?_)
        refine lv_goto (tgt := 6) hx hb dX8_tries_36 (by decide) ?_
        replace hf := Option.some.inj hf
        subst hf
        exact hM _ _ _ hI (lv_sub hl [1, 2, 3, 0] rfl)
  obtain ⟨x, hf, hM⟩ : ∃ x, FX8_tries M_roads M_first M_second M_trial_0 M_touching_0 M_having_0 M_most_0 a1 a2 = some x ∧ x = out := ⟨out, hf, rfl⟩
  refine lv_aload_n hx hb dX8_tries_0 rfl (lv_at hl 0 rfl) ?_
  obtain ⟨o1, ho1, hf⟩ := bd_e hf
  refine w_Vv0 (wc := (wM cI cJ cZ m0 m1 m2 m3 m4 m5 m6 m7 m8 m9 m10 m11 m12 m13 M_posts M_roads M_size M_rows M_nextRows M_first M_second M_number M_lists M_square M_fan M_trial_0 M_touching_0 M_having_0 M_most_0 M_only M_can M_next)) (wr := []) (rest := []) hx hb hml hg hown hK hA hI (kX8_lookAtRoads l D cI cJ cZ m0 m1 m2 m3 m4 m5 m6 m7 m8 m9 m10 m11 m12 m13 M_posts M_roads M_size M_rows M_nextRows M_first M_second M_number M_lists M_square M_fan M_trial_0 M_touching_0 M_having_0 M_most_0 M_only M_can M_next  o1 ho1) kvX8_lookAtRoads wL_RX8_136 ⟨Nat.le_of_ble_eq_true rfl, Nat.le_of_ble_eq_true rfl⟩ rfl rfl [0, 1, 2, 3, 4, 5, 6, 7, 8, 9, 10, 11, 12, 13] [] rfl rfl rfl rfl (by decide) rfl rfl hl.1 (Nat.le_of_ble_eq_true rfl) dX8_tries_1 ⟨Nat.zero_le _, Nat.zero_le _⟩ ⟨rfl, rfl⟩ (fun  u H locs hp hI => ?_)
  replace hI : WI D A s.heap (wM cI cJ cZ m0 m1 m2 m3 m4 m5 m6 m7 m8 m9 m10 m11 m12 m13 M_posts M_roads M_size M_rows M_nextRows M_first M_second M_number M_lists M_square M_fan o1.1 o1.2.1 o1.2.2.1 o1.2.2.2 M_only M_can M_next) H locs := hI
  refine lv_iconst (v := 0) hx hb dX8_tries_4 (by decide) ?_
  refine lv_istore_n (lv' := [(3, .int (0 : Int32)), (0, .ref m0), (1, .int a1), (2, .int a2)]) hx hb dX8_tries_5 rfl hl (by decide) rfl (fun ls hl => ?_)
  exact L6 o1.2.1 a1 a2 (o1.1, o1.2.2.1, o1.2.2.2, (0 : Int32)) _ hf hM _ _ _ hI (lv_sub hl [1, 2, 3, 0] rfl)
noncomputable def X8_leastOf_L2 (M_roads : Int32) (M_first : Nat → Int32) (M_second : Nat → Int32) (l1 : Int32) (v : (Nat → Int32) × (Nat → Int32) × (Nat → Int32) × (Nat → Int32) × Int32) : Option (((Nat → Int32) × (Nat → Int32) × (Nat → Int32) × (Nat → Int32) × Int32) ⊕ (Int32 × (Nat → Int32) × (Nat → Int32) × (Nat → Int32) × (Nat → Int32))) :=
  (FX8_tries M_roads M_first M_second v.1 v.2.1 v.2.2.1 v.2.2.2.1 v.2.2.2.2 l1).bind (fun o1 => if o1.1 = (0 : Int32) then (bnd (v.2.2.2.2 + (1 : Int32)) (fun x2 => some (.inl (o1.2.1, o1.2.2.1, o1.2.2.2.1, o1.2.2.2.2, x2)))) else (some (.inr (v.2.2.2.2, o1.2.1, o1.2.2.1, o1.2.2.2.1, o1.2.2.2.2))))
noncomputable def FX8_leastOf (M_roads : Int32) (M_first : Nat → Int32) (M_second : Nat → Int32) (M_trial_0 : Nat → Int32) (M_touching_0 : Nat → Int32) (M_having_0 : Nat → Int32) (M_most_0 : Nat → Int32) (a1 : Int32) : Option (Int32 × (Nat → Int32) × (Nat → Int32) × (Nat → Int32) × (Nat → Int32)) :=
  loopO (X8_leastOf_L2 M_roads M_first M_second a1) (M_trial_0, M_touching_0, M_having_0, M_most_0, (0 : Int32))
abbrev GX8_leastOf (p : Program) (l : Launch) (e : Env) (s : State) (m : MethodId) (below : List Frame) (meth : Method) (c : Code) (D : va_G) (cI cJ cZ : ClassId) (m0 m1 m2 m3 m4 m5 m6 m7 m8 m9 m10 m11 m12 m13 : Nat) (M_posts : Int32) (M_roads : Int32) (M_size : Int32) (M_rows : Int32) (M_nextRows : Int32) (M_first : Nat → Int32) (M_second : Nat → Int32) (M_number : Nat → Int32) (M_lists : Nat → Int32) (M_square : Nat → Int32) (M_fan : Nat → Int32) (M_trial_0 : Nat → Int32) (M_touching_0 : Nat → Int32) (M_having_0 : Nat → Int32) (M_most_0 : Nat → Int32) (M_only : Nat → Int32) (M_can : Nat → Int32) (M_next : Nat → Int32) (a1 : Int32) (out : Int32 × (Nat → Int32) × (Nat → Int32) × (Nat → Int32) × (Nat → Int32)) (H : Heap) (locs : List Loc) (g : JFrame) : Prop := W p l e (headSpec (Cond.code yX8_leastOf cX8_leastOf 3 (some .int) :: GW) { frames := 4, cells := 0, slots := 0, locals := 89 }).room s m ([.ref m0, .int a1] : List Value).toArray below meth c H locs 0 0 (MQ below (va_Qi (fun r (_ : Unit) => r = out.1) (BW D (wM cI cJ cZ m0 m1 m2 m3 m4 m5 m6 m7 m8 m9 m10 m11 m12 m13 M_posts M_roads M_size M_rows M_nextRows M_first M_second M_number M_lists M_square M_fan M_trial_0 M_touching_0 M_having_0 M_most_0 M_only M_can M_next) s.heap.size (fun _ => (wM cI cJ cZ m0 m1 m2 m3 m4 m5 m6 m7 m8 m9 m10 m11 m12 m13 M_posts M_roads M_size M_rows M_nextRows M_first M_second M_number M_lists M_square M_fan out.2.1 out.2.2.1 out.2.2.2.1 out.2.2.2.2 M_only M_can M_next))) (va_A (wM cI cJ cZ m0 m1 m2 m3 m4 m5 m6 m7 m8 m9 m10 m11 m12 m13 M_posts M_roads M_size M_rows M_nextRows M_first M_second M_number M_lists M_square M_fan M_trial_0 M_touching_0 M_having_0 M_most_0 M_only M_can M_next) s.heap.size)) ([.ref m0, .int a1] : List Value).toArray s 0 0 (va_A (wM cI cJ cZ m0 m1 m2 m3 m4 m5 m6 m7 m8 m9 m10 m11 m12 m13 M_posts M_roads M_size M_rows M_nextRows M_first M_second M_number M_lists M_square M_fan M_trial_0 M_touching_0 M_having_0 M_most_0 M_only M_can M_next) s.heap.size)) g
theorem kvX8_leastOf : CalV RX8 yX8_leastOf cX8_leastOf 3 (some .int) 1 := ⟨wC_yX8_leastOf, wM_yX8_leastOf, wS_yX8_leastOf, wI_RX8, by decide +kernel⟩
set_option maxHeartbeats 4000000 in
set_option maxRecDepth 100000 in
theorem kX8_leastOf (l : Launch) (D : va_G) (cI cJ cZ : ClassId) (m0 m1 m2 m3 m4 m5 m6 m7 m8 m9 m10 m11 m12 m13 : Nat) (M_posts : Int32) (M_roads : Int32) (M_size : Int32) (M_rows : Int32) (M_nextRows : Int32) (M_first : Nat → Int32) (M_second : Nat → Int32) (M_number : Nat → Int32) (M_lists : Nat → Int32) (M_square : Nat → Int32) (M_fan : Nat → Int32) (M_trial_0 : Nat → Int32) (M_touching_0 : Nat → Int32) (M_having_0 : Nat → Int32) (M_most_0 : Nat → Int32) (M_only : Nat → Int32) (M_can : Nat → Int32) (M_next : Nat → Int32) (a1 : Int32) (out : Int32 × (Nat → Int32) × (Nat → Int32) × (Nat → Int32) × (Nat → Int32)) (hf : FX8_leastOf M_roads M_first M_second M_trial_0 M_touching_0 M_having_0 M_most_0 a1 = some out) : MI l yX8_leastOf (Cond.code yX8_leastOf cX8_leastOf 3 (some .int) :: GW) { frames := 4, cells := 0, slots := 0, locals := 89 } D cI cJ cZ [.ref m0, .int a1] (wM cI cJ cZ m0 m1 m2 m3 m4 m5 m6 m7 m8 m9 m10 m11 m12 m13 M_posts M_roads M_size M_rows M_nextRows M_first M_second M_number M_lists M_square M_fan M_trial_0 M_touching_0 M_having_0 M_most_0 M_only M_can M_next) (fun r (_ : Unit) => r = out.1) (fun _ => (wM cI cJ cZ m0 m1 m2 m3 m4 m5 m6 m7 m8 m9 m10 m11 m12 m13 M_posts M_roads M_size M_rows M_nextRows M_first M_second M_number M_lists M_square M_fan out.2.1 out.2.2.1 out.2.2.2.1 out.2.2.2.2 M_only M_can M_next)) := by
  intro sz
  refine Met.ofW (cc := cX8_leastOf) (maxL := 3) (ret := (some .int)) (by decide +kernel) rfl ?_
  intro p e s m args below meth c s₁ B hml hv
  obtain ⟨rfl, hsz, hP, hK, hD0⟩ := hv
  have hx := B.exec
  have hb := B.bytes
  have hr := B.returns
  have hlocks := B.notSynchronized
  have hg : ∀ w ∈ GW, w.before _ s = true := fun w h => atoms_spec (ws := Cond.code yX8_leastOf cX8_leastOf 3 (some .int) :: GW) B.pre w (List.mem_cons_of_mem _ h)
  have hown : s.vm.findClass RX8 = some m.cls := findClass_of_methodNamed B.named
  subst hsz
  obtain ⟨A, hAe⟩ : ∃ A, A = va_A (wM cI cJ cZ m0 m1 m2 m3 m4 m5 m6 m7 m8 m9 m10 m11 m12 m13 M_posts M_roads M_size M_rows M_nextRows M_first M_second M_number M_lists M_square M_fan M_trial_0 M_touching_0 M_having_0 M_most_0 M_only M_can M_next) s.heap.size := ⟨_, rfl⟩
  have hA : ∀ q : Nat, s.heap.size ≤ q → A q := fun q h => by rw [hAe]; exact Or.inr h
  have hI : WI D A s.heap (wM cI cJ cZ m0 m1 m2 m3 m4 m5 m6 m7 m8 m9 m10 m11 m12 m13 M_posts M_roads M_size M_rows M_nextRows M_first M_second M_number M_lists M_square M_fan M_trial_0 M_touching_0 M_having_0 M_most_0 M_only M_can M_next) s.heap [] := ⟨hP, by rw [hAe]; exact hD0.self, va_S.rf⟩
  have hl := lv_entry [.ref m0, .int a1] (n := 3) (Nat.le_of_ble_eq_true rfl)
  rw [lg_entry_eq]
  generalize (lg_sl [.ref m0, .int a1] ++ List.replicate (3 - (lg_sl [.ref m0, .int a1]).length) Slot.unset).toArray = ls at hl ⊢
  replace hl : lv_has ls 3 [(0, .ref m0), (1, .int a1)] := hl
  have L2 : ∀ (l1 : Int32), ∀ (v : (Nat → Int32) × (Nat → Int32) × (Nat → Int32) × (Nat → Int32) × Int32) (x : Int32 × (Nat → Int32) × (Nat → Int32) × (Nat → Int32) × (Nat → Int32)), loopO (X8_leastOf_L2 M_roads M_first M_second l1) v = some x → (fun z : Int32 × (Nat → Int32) × (Nat → Int32) × (Nat → Int32) × (Nat → Int32) => z = out) x → (fun (v : (Nat → Int32) × (Nat → Int32) × (Nat → Int32) × (Nat → Int32) × Int32) => ∀ (H : Heap) (locs : List Loc) (ls : Array Slot), WI D A s.heap (wM cI cJ cZ m0 m1 m2 m3 m4 m5 m6 m7 m8 m9 m10 m11 m12 m13 M_posts M_roads M_size M_rows M_nextRows M_first M_second M_number M_lists M_square M_fan v.1 v.2.1 v.2.2.1 v.2.2.2.1 M_only M_can M_next) H locs → lv_has ls 3 [(0, .ref m0), (1, .int l1), (2, .int v.2.2.2.2)] → GX8_leastOf p l e s m below meth c D cI cJ cZ m0 m1 m2 m3 m4 m5 m6 m7 m8 m9 m10 m11 m12 m13 M_posts M_roads M_size M_rows M_nextRows M_first M_second M_number M_lists M_square M_fan M_trial_0 M_touching_0 M_having_0 M_most_0 M_only M_can M_next a1 out H locs (F0 m 2 ls [])) v := by
    intro l1
    refine loopO_ind (fun (v : (Nat → Int32) × (Nat → Int32) × (Nat → Int32) × (Nat → Int32) × Int32) => ∀ (H : Heap) (locs : List Loc) (ls : Array Slot), WI D A s.heap (wM cI cJ cZ m0 m1 m2 m3 m4 m5 m6 m7 m8 m9 m10 m11 m12 m13 M_posts M_roads M_size M_rows M_nextRows M_first M_second M_number M_lists M_square M_fan v.1 v.2.1 v.2.2.1 v.2.2.2.1 M_only M_can M_next) H locs → lv_has ls 3 [(0, .ref m0), (1, .int l1), (2, .int v.2.2.2.2)] → GX8_leastOf p l e s m below meth c D cI cJ cZ m0 m1 m2 m3 m4 m5 m6 m7 m8 m9 m10 m11 m12 m13 M_posts M_roads M_size M_rows M_nextRows M_first M_second M_number M_lists M_square M_fan M_trial_0 M_touching_0 M_having_0 M_most_0 M_only M_can M_next a1 out H locs (F0 m 2 ls [])) (fun z : Int32 × (Nat → Int32) × (Nat → Int32) × (Nat → Int32) × (Nat → Int32) => z = out) ?_
    intro v x hf hM H locs ls hI hl
    refine lv_aload_n hx hb dX8_leastOf_2 rfl (lv_at hl 0 rfl) ?_
    refine lv_iload_n hx hb dX8_leastOf_3 rfl (lv_at hl 2 rfl) ?_
    refine lv_iload_n hx hb dX8_leastOf_4 rfl (lv_at hl 1 rfl) ?_
    obtain ⟨o1, ho1, hf⟩ := bd_e hf
    refine w_Vi0 (wc := (wM cI cJ cZ m0 m1 m2 m3 m4 m5 m6 m7 m8 m9 m10 m11 m12 m13 M_posts M_roads M_size M_rows M_nextRows M_first M_second M_number M_lists M_square M_fan v.1 v.2.1 v.2.2.1 v.2.2.2.1 M_only M_can M_next)) (wr := []) (rest := []) hx hb hml hg hown hK hA hI (kX8_tries l D cI cJ cZ m0 m1 m2 m3 m4 m5 m6 m7 m8 m9 m10 m11 m12 m13 M_posts M_roads M_size M_rows M_nextRows M_first M_second M_number M_lists M_square M_fan v.1 v.2.1 v.2.2.1 v.2.2.2.1 M_only M_can M_next v.2.2.2.2 l1 o1 ho1) kvX8_tries wL_RX8_142 ⟨Nat.le_of_ble_eq_true rfl, Nat.le_of_ble_eq_true rfl⟩ rfl rfl [0, 1, 2, 3, 4, 5, 6, 7, 8, 9, 10, 11, 12, 13] [] rfl rfl rfl rfl (by decide) rfl rfl hl.1 (Nat.le_of_ble_eq_true rfl) dX8_leastOf_5 ⟨Nat.zero_le _, Nat.zero_le _⟩ ⟨rfl, rfl⟩ (fun r u H locs hp hI => ?_)
    replace hp : r = o1.1 := hp
    rw [hp]
    clear hp
    replace hI : WI D A s.heap (wM cI cJ cZ m0 m1 m2 m3 m4 m5 m6 m7 m8 m9 m10 m11 m12 m13 M_posts M_roads M_size M_rows M_nextRows M_first M_second M_number M_lists M_square M_fan o1.2.1 o1.2.2.1 o1.2.2.2.1 o1.2.2.2.2 M_only M_can M_next) H locs := hI
    refine lv_if_ne (tgt := 17) hx hb dX8_leastOf_8 (by decide) (fun hc => ?_) (fun hc => ?_)
    · replace hf := ite_f hc hf
      refine lv_iload_n hx hb dX8_leastOf_17 rfl (lv_at hl 2 rfl) ?_
      replace hf := Option.some.inj hf
      subst hf
      replace hM : (v.2.2.2.2, o1.2.1, o1.2.2.1, o1.2.2.2.1, o1.2.2.2.2) = out := hM
      subst hM
      exact rt_i (u := ()) hx hb hr hlocks rfl hI hAe rfl dX8_leastOf_18
    · replace hf := ite_t hc hf
      obtain ⟨x2, ex2⟩ : ∃ y : Int32, y = (v.2.2.2.2 + (1 : Int32)) := ⟨_, rfl⟩
      replace hf := bnd_e hf x2 ex2
      refine lv_iinc (v := x2) (lv' := [(2, .int x2), (0, .ref m0), (1, .int l1)]) hx hb dX8_leastOf_11 hl (k := 2) rfl (by rw [ex2]; rfl) (by decide) rfl (fun ls hl => ?_)
      refine lv_goto (tgt := 2) hx hb dX8_leastOf_14 (by decide) ?_
      replace hf := Option.some.inj hf
      subst hf
      exact hM _ _ _ hI (lv_sub hl [1, 2, 0] rfl)
  obtain ⟨x, hf, hM⟩ : ∃ x, FX8_leastOf M_roads M_first M_second M_trial_0 M_touching_0 M_having_0 M_most_0 a1 = some x ∧ x = out := ⟨out, hf, rfl⟩
  refine lv_iconst (v := 0) hx hb dX8_leastOf_0 (by decide) ?_
  refine lv_istore_n (lv' := [(2, .int (0 : Int32)), (0, .ref m0), (1, .int a1)]) hx hb dX8_leastOf_1 rfl hl (by decide) rfl (fun ls hl => ?_)
  exact L2 a1 (M_trial_0, M_touching_0, M_having_0, M_most_0, (0 : Int32)) _ hf hM _ _ _ hI (lv_sub hl [1, 2, 0] rfl)
noncomputable def X8_needOf_J49 (l2 : Int32) (l3 : Int32) : Option (Int32) :=
  dv l2 (2 : Int32) (fun x2 => dv ((l3 + x2) - (1 : Int32)) x2 (fun x3 => some x3))
noncomputable def X8_needOf_L10 (M_roads : Int32) (M_first : Nat → Int32) (M_second : Nat → Int32) (l1 : Int32) (l2 : Int32) (v : Int32 × Int32) : Option ((Int32 × Int32) ⊕ (Int32)) :=
  if M_roads ≤ v.2 then ((X8_needOf_J49 l2 v.1).map (fun z => (.inr z))) else (rd M_first 24 v.2 (fun x4 => rd M_second 24 v.2 (fun x5 => bnd (v.1 + (((l1 >>> (x4 &&& (31 : Int32))) &&& (l1 >>> (x5 &&& (31 : Int32)))) &&& (1 : Int32))) (fun x6 => bnd (v.2 + (1 : Int32)) (fun x7 => some (.inl (x6, x7)))))))
noncomputable def FX8_needOf (M_roads : Int32) (M_first : Nat → Int32) (M_second : Nat → Int32) (a1 : Int32) : Option (Int32) :=
  (FX8_ones a1).bind (fun x1 => loopO (X8_needOf_L10 M_roads M_first M_second a1 x1) ((0 : Int32), (0 : Int32)))
abbrev GX8_needOf (p : Program) (l : Launch) (e : Env) (s : State) (m : MethodId) (below : List Frame) (meth : Method) (c : Code) (D : va_G) (cI cJ cZ : ClassId) (m0 m1 m2 m3 m4 m5 m6 m7 m8 m9 m10 m11 m12 m13 : Nat) (M_posts : Int32) (M_roads : Int32) (M_size : Int32) (M_rows : Int32) (M_nextRows : Int32) (M_first : Nat → Int32) (M_second : Nat → Int32) (M_number : Nat → Int32) (M_lists : Nat → Int32) (M_square : Nat → Int32) (M_fan : Nat → Int32) (M_trial : Nat → Int32) (M_touching : Nat → Int32) (M_having : Nat → Int32) (M_most : Nat → Int32) (M_only : Nat → Int32) (M_can : Nat → Int32) (M_next : Nat → Int32) (a1 : Int32) (out : Int32) (H : Heap) (locs : List Loc) (g : JFrame) : Prop := W p l e (headSpec (Cond.code yX8_needOf cX8_needOf 5 (some .int) :: GW) { frames := 1, cells := 0, slots := 0, locals := 22 }).room s m ([.ref m0, .int a1] : List Value).toArray below meth c H locs 0 0 (MQ below (va_Qi (fun r (_ : Unit) => r = out) (BW D (wM cI cJ cZ m0 m1 m2 m3 m4 m5 m6 m7 m8 m9 m10 m11 m12 m13 M_posts M_roads M_size M_rows M_nextRows M_first M_second M_number M_lists M_square M_fan M_trial M_touching M_having M_most M_only M_can M_next) s.heap.size (fun _ => (wM cI cJ cZ m0 m1 m2 m3 m4 m5 m6 m7 m8 m9 m10 m11 m12 m13 M_posts M_roads M_size M_rows M_nextRows M_first M_second M_number M_lists M_square M_fan M_trial M_touching M_having M_most M_only M_can M_next))) (va_A (wM cI cJ cZ m0 m1 m2 m3 m4 m5 m6 m7 m8 m9 m10 m11 m12 m13 M_posts M_roads M_size M_rows M_nextRows M_first M_second M_number M_lists M_square M_fan M_trial M_touching M_having M_most M_only M_can M_next) s.heap.size)) ([.ref m0, .int a1] : List Value).toArray s 0 0 (va_A (wM cI cJ cZ m0 m1 m2 m3 m4 m5 m6 m7 m8 m9 m10 m11 m12 m13 M_posts M_roads M_size M_rows M_nextRows M_first M_second M_number M_lists M_square M_fan M_trial M_touching M_having M_most M_only M_can M_next) s.heap.size)) g
theorem kvX8_needOf : CalV RX8 yX8_needOf cX8_needOf 5 (some .int) 1 := ⟨wC_yX8_needOf, wM_yX8_needOf, wS_yX8_needOf, wI_RX8, by decide +kernel⟩
set_option maxHeartbeats 4000000 in
set_option maxRecDepth 100000 in
theorem kX8_needOf (l : Launch) (D : va_G) (cI cJ cZ : ClassId) (m0 m1 m2 m3 m4 m5 m6 m7 m8 m9 m10 m11 m12 m13 : Nat) (M_posts : Int32) (M_roads : Int32) (M_size : Int32) (M_rows : Int32) (M_nextRows : Int32) (M_first : Nat → Int32) (M_second : Nat → Int32) (M_number : Nat → Int32) (M_lists : Nat → Int32) (M_square : Nat → Int32) (M_fan : Nat → Int32) (M_trial : Nat → Int32) (M_touching : Nat → Int32) (M_having : Nat → Int32) (M_most : Nat → Int32) (M_only : Nat → Int32) (M_can : Nat → Int32) (M_next : Nat → Int32) (a1 : Int32) (out : Int32) (hf : FX8_needOf M_roads M_first M_second a1 = some out) : MI l yX8_needOf (Cond.code yX8_needOf cX8_needOf 5 (some .int) :: GW) { frames := 1, cells := 0, slots := 0, locals := 22 } D cI cJ cZ [.ref m0, .int a1] (wM cI cJ cZ m0 m1 m2 m3 m4 m5 m6 m7 m8 m9 m10 m11 m12 m13 M_posts M_roads M_size M_rows M_nextRows M_first M_second M_number M_lists M_square M_fan M_trial M_touching M_having M_most M_only M_can M_next) (fun r (_ : Unit) => r = out) (fun _ => (wM cI cJ cZ m0 m1 m2 m3 m4 m5 m6 m7 m8 m9 m10 m11 m12 m13 M_posts M_roads M_size M_rows M_nextRows M_first M_second M_number M_lists M_square M_fan M_trial M_touching M_having M_most M_only M_can M_next)) := by
  intro sz
  refine Met.ofW (cc := cX8_needOf) (maxL := 5) (ret := (some .int)) (by decide +kernel) rfl ?_
  intro p e s m args below meth c s₁ B hml hv
  obtain ⟨rfl, hsz, hP, hK, hD0⟩ := hv
  have hx := B.exec
  have hb := B.bytes
  have hr := B.returns
  have hlocks := B.notSynchronized
  have hg : ∀ w ∈ GW, w.before _ s = true := fun w h => atoms_spec (ws := Cond.code yX8_needOf cX8_needOf 5 (some .int) :: GW) B.pre w (List.mem_cons_of_mem _ h)
  have hown : s.vm.findClass RX8 = some m.cls := findClass_of_methodNamed B.named
  subst hsz
  obtain ⟨A, hAe⟩ : ∃ A, A = va_A (wM cI cJ cZ m0 m1 m2 m3 m4 m5 m6 m7 m8 m9 m10 m11 m12 m13 M_posts M_roads M_size M_rows M_nextRows M_first M_second M_number M_lists M_square M_fan M_trial M_touching M_having M_most M_only M_can M_next) s.heap.size := ⟨_, rfl⟩
  have hA : ∀ q : Nat, s.heap.size ≤ q → A q := fun q h => by rw [hAe]; exact Or.inr h
  have hI : WI D A s.heap (wM cI cJ cZ m0 m1 m2 m3 m4 m5 m6 m7 m8 m9 m10 m11 m12 m13 M_posts M_roads M_size M_rows M_nextRows M_first M_second M_number M_lists M_square M_fan M_trial M_touching M_having M_most M_only M_can M_next) s.heap [] := ⟨hP, by rw [hAe]; exact hD0.self, va_S.rf⟩
  have hl := lv_entry [.ref m0, .int a1] (n := 5) (Nat.le_of_ble_eq_true rfl)
  rw [lg_entry_eq]
  generalize (lg_sl [.ref m0, .int a1] ++ List.replicate (5 - (lg_sl [.ref m0, .int a1]).length) Slot.unset).toArray = ls at hl ⊢
  replace hl : lv_has ls 5 [(0, .ref m0), (1, .int a1)] := hl
  have J49 : ∀ (l2 : Int32) (l3 : Int32) (x : Int32), X8_needOf_J49 l2 l3 = some x → (fun z : Int32 => z = out) x → ∀ (H : Heap) (locs : List Loc) (ls : Array Slot), WI D A s.heap (wM cI cJ cZ m0 m1 m2 m3 m4 m5 m6 m7 m8 m9 m10 m11 m12 m13 M_posts M_roads M_size M_rows M_nextRows M_first M_second M_number M_lists M_square M_fan M_trial M_touching M_having M_most M_only M_can M_next) H locs → lv_has ls 5 [(2, .int l2), (3, .int l3)] → GX8_needOf p l e s m below meth c D cI cJ cZ m0 m1 m2 m3 m4 m5 m6 m7 m8 m9 m10 m11 m12 m13 M_posts M_roads M_size M_rows M_nextRows M_first M_second M_number M_lists M_square M_fan M_trial M_touching M_having M_most M_only M_can M_next a1 out H locs (F0 m 49 ls []) := by
    intro l2 l3 x hf hM H locs ls hI hl
    refine lv_iload_n hx hb dX8_needOf_49 rfl (lv_at hl 0 rfl) ?_
    refine lv_iconst (v := 2) hx hb dX8_needOf_50 (by decide) ?_
    obtain ⟨hne, hf⟩ := dv_e hf
    refine lv_idiv hx hb dX8_needOf_51 hne ?_
    refine lv_topi (fun x2 ex2 => ?_)
    replace hf := hf x2 ex2
    refine lv_istore (lv' := [(4, .int x2), (2, .int l2), (3, .int l3)]) hx hb dX8_needOf_52 hl (by decide) rfl (fun ls hl => ?_)
    refine lv_iload_n hx hb dX8_needOf_54 rfl (lv_at hl 2 rfl) ?_
    refine lv_iload hx hb dX8_needOf_55 (lv_at hl 0 rfl) ?_
    refine lv_iadd hx hb dX8_needOf_57 ?_
    refine lv_iconst (v := 1) hx hb dX8_needOf_58 (by decide) ?_
    refine lv_isub hx hb dX8_needOf_59 ?_
    refine lv_iload hx hb dX8_needOf_60 (lv_at hl 0 rfl) ?_
    obtain ⟨hne, hf⟩ := dv_e hf
    refine lv_idiv hx hb dX8_needOf_62 hne ?_
    refine lv_topi (fun x3 ex3 => ?_)
    replace hf := hf x3 ex3
    replace hf := Option.some.inj hf
    subst hf
    replace hM : x3 = out := hM
    subst hM
    exact rt_i (u := ()) hx hb hr hlocks rfl hI hAe rfl dX8_needOf_63
  have L10 : ∀ (l1 : Int32) (l2 : Int32), ∀ (v : Int32 × Int32) (x : Int32), loopO (X8_needOf_L10 M_roads M_first M_second l1 l2) v = some x → (fun z : Int32 => z = out) x → (fun (v : Int32 × Int32) => ∀ (H : Heap) (locs : List Loc) (ls : Array Slot), WI D A s.heap (wM cI cJ cZ m0 m1 m2 m3 m4 m5 m6 m7 m8 m9 m10 m11 m12 m13 M_posts M_roads M_size M_rows M_nextRows M_first M_second M_number M_lists M_square M_fan M_trial M_touching M_having M_most M_only M_can M_next) H locs → lv_has ls 5 [(0, .ref m0), (1, .int l1), (2, .int l2), (3, .int v.1), (4, .int v.2)] → GX8_needOf p l e s m below meth c D cI cJ cZ m0 m1 m2 m3 m4 m5 m6 m7 m8 m9 m10 m11 m12 m13 M_posts M_roads M_size M_rows M_nextRows M_first M_second M_number M_lists M_square M_fan M_trial M_touching M_having M_most M_only M_can M_next a1 out H locs (F0 m 10 ls [])) v := by
    intro l1 l2
    refine loopO_ind (fun (v : Int32 × Int32) => ∀ (H : Heap) (locs : List Loc) (ls : Array Slot), WI D A s.heap (wM cI cJ cZ m0 m1 m2 m3 m4 m5 m6 m7 m8 m9 m10 m11 m12 m13 M_posts M_roads M_size M_rows M_nextRows M_first M_second M_number M_lists M_square M_fan M_trial M_touching M_having M_most M_only M_can M_next) H locs → lv_has ls 5 [(0, .ref m0), (1, .int l1), (2, .int l2), (3, .int v.1), (4, .int v.2)] → GX8_needOf p l e s m below meth c D cI cJ cZ m0 m1 m2 m3 m4 m5 m6 m7 m8 m9 m10 m11 m12 m13 M_posts M_roads M_size M_rows M_nextRows M_first M_second M_number M_lists M_square M_fan M_trial M_touching M_having M_most M_only M_can M_next a1 out H locs (F0 m 10 ls [])) (fun z : Int32 => z = out) ?_
    intro v x hf hM H locs ls hI hl
    refine lv_iload hx hb dX8_needOf_10 (lv_at hl 4 rfl) ?_
    refine lv_aload_n hx hb dX8_needOf_12 rfl (lv_at hl 0 rfl) ?_
    refine w_get hx hb hg hown hK hI iX8 0 rfl rfl 1 (by decide) wF_RX8_57 rfl dX8_needOf_13 ?_
    refine lv_icmp_ge (tgt := 49) hx hb dX8_needOf_16 (by decide) (fun hc => ?_) (fun hc => ?_)
    · replace hf := ite_t hc hf
      obtain ⟨z, hf2, ez⟩ := mp_e hf
      clear hf
      subst ez
      exact J49 l2 v.1 _ hf2 hM _ _ _ hI (lv_sub hl [2, 3] rfl)
    · replace hf := ite_f hc hf
      refine lv_iload_n hx hb dX8_needOf_19 rfl (lv_at hl 3 rfl) ?_
      refine lv_iload_n hx hb dX8_needOf_20 rfl (lv_at hl 1 rfl) ?_
      refine lv_aload_n hx hb dX8_needOf_21 rfl (lv_at hl 0 rfl) ?_
      refine w_get hx hb hg hown hK hI iX8 0 rfl rfl 2 (by decide) wF_RX8_7 rfl dX8_needOf_22 ?_
      refine lv_iload hx hb dX8_needOf_25 (lv_at hl 4 rfl) ?_
      obtain ⟨hin, hf⟩ := rd_e hf
      refine w_iald hx hb hK hI 1 rfl hin dX8_needOf_27 (fun x4 ex4 => ?_)
      replace hf := hf x4 ex4
      refine lv_ishr hx hb dX8_needOf_28 ?_
      refine lv_iload_n hx hb dX8_needOf_29 rfl (lv_at hl 1 rfl) ?_
      refine lv_aload_n hx hb dX8_needOf_30 rfl (lv_at hl 0 rfl) ?_
      refine w_get hx hb hg hown hK hI iX8 0 rfl rfl 3 (by decide) wF_RX8_13 rfl dX8_needOf_31 ?_
      refine lv_iload hx hb dX8_needOf_34 (lv_at hl 4 rfl) ?_
      obtain ⟨hin, hf⟩ := rd_e hf
      refine w_iald hx hb hK hI 2 rfl hin dX8_needOf_36 (fun x5 ex5 => ?_)
      replace hf := hf x5 ex5
      refine lv_ishr hx hb dX8_needOf_37 ?_
      refine lv_iand hx hb dX8_needOf_38 ?_
      refine lv_iconst (v := 1) hx hb dX8_needOf_39 (by decide) ?_
      refine lv_iand hx hb dX8_needOf_40 ?_
      refine lv_iadd hx hb dX8_needOf_41 ?_
      refine lv_topi (fun x6 ex6 => ?_)
      replace hf := bnd_e hf x6 ex6
      refine lv_istore_n (lv' := [(3, .int x6), (0, .ref m0), (1, .int l1), (2, .int l2), (4, .int v.2)]) hx hb dX8_needOf_42 rfl hl (by decide) rfl (fun ls hl => ?_)
      obtain ⟨x7, ex7⟩ : ∃ y : Int32, y = (v.2 + (1 : Int32)) := ⟨_, rfl⟩
      replace hf := bnd_e hf x7 ex7
      refine lv_iinc (v := x7) (lv' := [(4, .int x7), (3, .int x6), (0, .ref m0), (1, .int l1), (2, .int l2)]) hx hb dX8_needOf_43 hl (k := 4) rfl (by rw [ex7]; rfl) (by decide) rfl (fun ls hl => ?_)
      refine lv_goto (tgt := 10) hx hb dX8_needOf_46 (by decide) ?_
      replace hf := Option.some.inj hf
      subst hf
      exact hM _ _ _ hI (lv_sub hl [2, 3, 4, 1, 0] rfl)
  obtain ⟨x, hf, hM⟩ : ∃ x, FX8_needOf M_roads M_first M_second a1 = some x ∧ x = out := ⟨out, hf, rfl⟩
  refine lv_iload_n hx hb dX8_needOf_0 rfl (lv_at hl 1 rfl) ?_
  obtain ⟨x1, hx1, hf⟩ := bd_e hf
  refine w_S (rest := []) hx hb hml hg hown hK (kX8_ones l D cI cJ cZ a1 x1 hx1) ksX8_ones wL_RX8_107 ⟨Nat.le_of_ble_eq_true rfl, Nat.le_of_ble_eq_true rfl⟩ ⟨rfl, rfl⟩ rfl rfl hl.1 (Nat.le_of_ble_eq_true rfl) dX8_needOf_1 ⟨Nat.zero_le _, Nat.zero_le _⟩ ?_
  refine lv_istore_n (lv' := [(2, .int x1), (0, .ref m0), (1, .int a1)]) hx hb dX8_needOf_4 rfl hl (by decide) rfl (fun ls hl => ?_)
  refine lv_iconst (v := 0) hx hb dX8_needOf_5 (by decide) ?_
  refine lv_istore_n (lv' := [(3, .int (0 : Int32)), (2, .int x1), (0, .ref m0), (1, .int a1)]) hx hb dX8_needOf_6 rfl hl (by decide) rfl (fun ls hl => ?_)
  refine lv_iconst (v := 0) hx hb dX8_needOf_7 (by decide) ?_
  refine lv_istore (lv' := [(4, .int (0 : Int32)), (3, .int (0 : Int32)), (2, .int x1), (0, .ref m0), (1, .int a1)]) hx hb dX8_needOf_8 hl (by decide) rfl (fun ls hl => ?_)
  exact L10 a1 x1 ((0 : Int32), (0 : Int32)) _ hf hM _ _ _ hI (lv_sub hl [3, 4, 2, 1, 0] rfl)
noncomputable def X8_bound_L7 (M_posts : Int32) (M_roads : Int32) (M_first : Nat → Int32) (M_second : Nat → Int32) (v : Int32 × Int32) : Option ((Int32 × Int32) ⊕ (Int32)) :=
  if ((1 : Int32) <<< (M_posts &&& (31 : Int32))) ≤ v.2 then (some (.inr v.1)) else ((FX8_ones v.2).bind (fun x2 => if x2 ≤ (2 : Int32) then (bnd (v.2 + (1 : Int32)) (fun x3 => some (.inl (v.1, x3)))) else ((FX8_needOf M_roads M_first M_second v.2).bind (fun o4 => if o4 ≤ v.1 then (bnd (v.2 + (1 : Int32)) (fun x5 => some (.inl (v.1, x5)))) else ((FX8_needOf M_roads M_first M_second v.2).bind (fun o6 => bnd (v.2 + (1 : Int32)) (fun x7 => some (.inl (o6, x7)))))))))
noncomputable def FX8_bound (M_posts : Int32) (M_roads : Int32) (M_first : Nat → Int32) (M_second : Nat → Int32)  : Option (Int32) :=
  (FX8_fullOf M_posts M_roads M_first M_second).bind (fun o1 => loopO (X8_bound_L7 M_posts M_roads M_first M_second) (o1, (0 : Int32)))
abbrev GX8_bound (p : Program) (l : Launch) (e : Env) (s : State) (m : MethodId) (below : List Frame) (meth : Method) (c : Code) (D : va_G) (cI cJ cZ : ClassId) (m0 m1 m2 m3 m4 m5 m6 m7 m8 m9 m10 m11 m12 m13 : Nat) (M_posts : Int32) (M_roads : Int32) (M_size : Int32) (M_rows : Int32) (M_nextRows : Int32) (M_first : Nat → Int32) (M_second : Nat → Int32) (M_number : Nat → Int32) (M_lists : Nat → Int32) (M_square : Nat → Int32) (M_fan : Nat → Int32) (M_trial : Nat → Int32) (M_touching : Nat → Int32) (M_having : Nat → Int32) (M_most : Nat → Int32) (M_only : Nat → Int32) (M_can : Nat → Int32) (M_next : Nat → Int32)  (out : Int32) (H : Heap) (locs : List Loc) (g : JFrame) : Prop := W p l e (headSpec (Cond.code yX8_bound cX8_bound 3 (some .int) :: GW) { frames := 3, cells := 0, slots := 0, locals := 67 }).room s m ([.ref m0] : List Value).toArray below meth c H locs 0 0 (MQ below (va_Qi (fun r (_ : Unit) => r = out) (BW D (wM cI cJ cZ m0 m1 m2 m3 m4 m5 m6 m7 m8 m9 m10 m11 m12 m13 M_posts M_roads M_size M_rows M_nextRows M_first M_second M_number M_lists M_square M_fan M_trial M_touching M_having M_most M_only M_can M_next) s.heap.size (fun _ => (wM cI cJ cZ m0 m1 m2 m3 m4 m5 m6 m7 m8 m9 m10 m11 m12 m13 M_posts M_roads M_size M_rows M_nextRows M_first M_second M_number M_lists M_square M_fan M_trial M_touching M_having M_most M_only M_can M_next))) (va_A (wM cI cJ cZ m0 m1 m2 m3 m4 m5 m6 m7 m8 m9 m10 m11 m12 m13 M_posts M_roads M_size M_rows M_nextRows M_first M_second M_number M_lists M_square M_fan M_trial M_touching M_having M_most M_only M_can M_next) s.heap.size)) ([.ref m0] : List Value).toArray s 0 0 (va_A (wM cI cJ cZ m0 m1 m2 m3 m4 m5 m6 m7 m8 m9 m10 m11 m12 m13 M_posts M_roads M_size M_rows M_nextRows M_first M_second M_number M_lists M_square M_fan M_trial M_touching M_having M_most M_only M_can M_next) s.heap.size)) g
theorem kvX8_bound : CalV RX8 yX8_bound cX8_bound 3 (some .int) 0 := ⟨wC_yX8_bound, wM_yX8_bound, wS_yX8_bound, wI_RX8, by decide +kernel⟩
set_option maxHeartbeats 4000000 in
set_option maxRecDepth 100000 in
theorem kX8_bound (l : Launch) (D : va_G) (cI cJ cZ : ClassId) (m0 m1 m2 m3 m4 m5 m6 m7 m8 m9 m10 m11 m12 m13 : Nat) (M_posts : Int32) (M_roads : Int32) (M_size : Int32) (M_rows : Int32) (M_nextRows : Int32) (M_first : Nat → Int32) (M_second : Nat → Int32) (M_number : Nat → Int32) (M_lists : Nat → Int32) (M_square : Nat → Int32) (M_fan : Nat → Int32) (M_trial : Nat → Int32) (M_touching : Nat → Int32) (M_having : Nat → Int32) (M_most : Nat → Int32) (M_only : Nat → Int32) (M_can : Nat → Int32) (M_next : Nat → Int32)  (out : Int32) (hf : FX8_bound M_posts M_roads M_first M_second = some out) : MI l yX8_bound (Cond.code yX8_bound cX8_bound 3 (some .int) :: GW) { frames := 3, cells := 0, slots := 0, locals := 67 } D cI cJ cZ [.ref m0] (wM cI cJ cZ m0 m1 m2 m3 m4 m5 m6 m7 m8 m9 m10 m11 m12 m13 M_posts M_roads M_size M_rows M_nextRows M_first M_second M_number M_lists M_square M_fan M_trial M_touching M_having M_most M_only M_can M_next) (fun r (_ : Unit) => r = out) (fun _ => (wM cI cJ cZ m0 m1 m2 m3 m4 m5 m6 m7 m8 m9 m10 m11 m12 m13 M_posts M_roads M_size M_rows M_nextRows M_first M_second M_number M_lists M_square M_fan M_trial M_touching M_having M_most M_only M_can M_next)) := by
  intro sz
  refine Met.ofW (cc := cX8_bound) (maxL := 3) (ret := (some .int)) (by decide +kernel) rfl ?_
  intro p e s m args below meth c s₁ B hml hv
  obtain ⟨rfl, hsz, hP, hK, hD0⟩ := hv
  have hx := B.exec
  have hb := B.bytes
  have hr := B.returns
  have hlocks := B.notSynchronized
  have hg : ∀ w ∈ GW, w.before _ s = true := fun w h => atoms_spec (ws := Cond.code yX8_bound cX8_bound 3 (some .int) :: GW) B.pre w (List.mem_cons_of_mem _ h)
  have hown : s.vm.findClass RX8 = some m.cls := findClass_of_methodNamed B.named
  subst hsz
  obtain ⟨A, hAe⟩ : ∃ A, A = va_A (wM cI cJ cZ m0 m1 m2 m3 m4 m5 m6 m7 m8 m9 m10 m11 m12 m13 M_posts M_roads M_size M_rows M_nextRows M_first M_second M_number M_lists M_square M_fan M_trial M_touching M_having M_most M_only M_can M_next) s.heap.size := ⟨_, rfl⟩
  have hA : ∀ q : Nat, s.heap.size ≤ q → A q := fun q h => by rw [hAe]; exact Or.inr h
  have hI : WI D A s.heap (wM cI cJ cZ m0 m1 m2 m3 m4 m5 m6 m7 m8 m9 m10 m11 m12 m13 M_posts M_roads M_size M_rows M_nextRows M_first M_second M_number M_lists M_square M_fan M_trial M_touching M_having M_most M_only M_can M_next) s.heap [] := ⟨hP, by rw [hAe]; exact hD0.self, va_S.rf⟩
  have hl := lv_entry [.ref m0] (n := 3) (Nat.le_of_ble_eq_true rfl)
  rw [lg_entry_eq]
  generalize (lg_sl [.ref m0] ++ List.replicate (3 - (lg_sl [.ref m0]).length) Slot.unset).toArray = ls at hl ⊢
  replace hl : lv_has ls 3 [(0, .ref m0)] := hl
  have L7 : ∀ (v : Int32 × Int32) (x : Int32), loopO (X8_bound_L7 M_posts M_roads M_first M_second) v = some x → (fun z : Int32 => z = out) x → (fun (v : Int32 × Int32) => ∀ (H : Heap) (locs : List Loc) (ls : Array Slot), WI D A s.heap (wM cI cJ cZ m0 m1 m2 m3 m4 m5 m6 m7 m8 m9 m10 m11 m12 m13 M_posts M_roads M_size M_rows M_nextRows M_first M_second M_number M_lists M_square M_fan M_trial M_touching M_having M_most M_only M_can M_next) H locs → lv_has ls 3 [(0, .ref m0), (1, .int v.1), (2, .int v.2)] → GX8_bound p l e s m below meth c D cI cJ cZ m0 m1 m2 m3 m4 m5 m6 m7 m8 m9 m10 m11 m12 m13 M_posts M_roads M_size M_rows M_nextRows M_first M_second M_number M_lists M_square M_fan M_trial M_touching M_having M_most M_only M_can M_next  out H locs (F0 m 7 ls [])) v := by
    refine loopO_ind (fun (v : Int32 × Int32) => ∀ (H : Heap) (locs : List Loc) (ls : Array Slot), WI D A s.heap (wM cI cJ cZ m0 m1 m2 m3 m4 m5 m6 m7 m8 m9 m10 m11 m12 m13 M_posts M_roads M_size M_rows M_nextRows M_first M_second M_number M_lists M_square M_fan M_trial M_touching M_having M_most M_only M_can M_next) H locs → lv_has ls 3 [(0, .ref m0), (1, .int v.1), (2, .int v.2)] → GX8_bound p l e s m below meth c D cI cJ cZ m0 m1 m2 m3 m4 m5 m6 m7 m8 m9 m10 m11 m12 m13 M_posts M_roads M_size M_rows M_nextRows M_first M_second M_number M_lists M_square M_fan M_trial M_touching M_having M_most M_only M_can M_next  out H locs (F0 m 7 ls [])) (fun z : Int32 => z = out) ?_
    intro v x hf hM H locs ls hI hl
    refine lv_iload_n hx hb dX8_bound_7 rfl (lv_at hl 2 rfl) ?_
    refine lv_iconst (v := 1) hx hb dX8_bound_8 (by decide) ?_
    refine lv_aload_n hx hb dX8_bound_9 rfl (lv_at hl 0 rfl) ?_
    refine w_get hx hb hg hown hK hI iX8 0 rfl rfl 0 (by decide) wF_RX8_68 rfl dX8_bound_10 ?_
    refine lv_ishl hx hb dX8_bound_13 ?_
    refine lv_icmp_ge (tgt := 46) hx hb dX8_bound_14 (by decide) (fun hc => ?_) (fun hc => ?_)
    · replace hf := ite_t hc hf
      refine lv_iload_n hx hb dX8_bound_46 rfl (lv_at hl 1 rfl) ?_
      replace hf := Option.some.inj hf
      subst hf
      replace hM : v.1 = out := hM
      subst hM
      exact rt_i (u := ()) hx hb hr hlocks rfl hI hAe rfl dX8_bound_47
    · replace hf := ite_f hc hf
      refine lv_iload_n hx hb dX8_bound_17 rfl (lv_at hl 2 rfl) ?_
      obtain ⟨x2, hx2, hf⟩ := bd_e hf
      refine w_S (rest := []) hx hb hml hg hown hK (kX8_ones l D cI cJ cZ v.2 x2 hx2) ksX8_ones wL_RX8_107 ⟨Nat.le_of_ble_eq_true rfl, Nat.le_of_ble_eq_true rfl⟩ ⟨rfl, rfl⟩ rfl rfl hl.1 (Nat.le_of_ble_eq_true rfl) dX8_bound_18 ⟨Nat.zero_le _, Nat.zero_le _⟩ ?_
      refine lv_iconst (v := 2) hx hb dX8_bound_21 (by decide) ?_
      refine lv_icmp_le (tgt := 40) hx hb dX8_bound_22 (by decide) (fun hc => ?_) (fun hc => ?_)
      · replace hf := ite_t hc hf
        obtain ⟨x3, ex3⟩ : ∃ y : Int32, y = (v.2 + (1 : Int32)) := ⟨_, rfl⟩
        replace hf := bnd_e hf x3 ex3
        refine lv_iinc (v := x3) (lv' := [(2, .int x3), (0, .ref m0), (1, .int v.1)]) hx hb dX8_bound_40 hl (k := 2) rfl (by rw [ex3]; rfl) (by decide) rfl (fun ls hl => ?_)
        refine lv_goto (tgt := 7) hx hb dX8_bound_43 (by decide) ?_
        replace hf := Option.some.inj hf
        subst hf
        exact hM _ _ _ hI (lv_sub hl [1, 2, 0] rfl)
      · replace hf := ite_f hc hf
        refine lv_aload_n hx hb dX8_bound_25 rfl (lv_at hl 0 rfl) ?_
        refine lv_iload_n hx hb dX8_bound_26 rfl (lv_at hl 2 rfl) ?_
        obtain ⟨o4, ho4, hf⟩ := bd_e hf
        refine w_Vi0 (wc := (wM cI cJ cZ m0 m1 m2 m3 m4 m5 m6 m7 m8 m9 m10 m11 m12 m13 M_posts M_roads M_size M_rows M_nextRows M_first M_second M_number M_lists M_square M_fan M_trial M_touching M_having M_most M_only M_can M_next)) (wr := []) (rest := []) hx hb hml hg hown hK hA hI (kX8_needOf l D cI cJ cZ m0 m1 m2 m3 m4 m5 m6 m7 m8 m9 m10 m11 m12 m13 M_posts M_roads M_size M_rows M_nextRows M_first M_second M_number M_lists M_square M_fan M_trial M_touching M_having M_most M_only M_can M_next v.2 o4 ho4) kvX8_needOf wL_RX8_145 ⟨Nat.le_of_ble_eq_true rfl, Nat.le_of_ble_eq_true rfl⟩ rfl rfl [0, 1, 2, 3, 4, 5, 6, 7, 8, 9, 10, 11, 12, 13] [] rfl rfl rfl rfl (by decide) rfl rfl hl.1 (Nat.le_of_ble_eq_true rfl) dX8_bound_27 ⟨Nat.zero_le _, Nat.zero_le _⟩ ⟨rfl, rfl⟩ (fun r u H locs hp hI => ?_)
        replace hp : r = o4 := hp
        rw [hp]
        clear hp
        replace hI : WI D A s.heap (wM cI cJ cZ m0 m1 m2 m3 m4 m5 m6 m7 m8 m9 m10 m11 m12 m13 M_posts M_roads M_size M_rows M_nextRows M_first M_second M_number M_lists M_square M_fan M_trial M_touching M_having M_most M_only M_can M_next) H locs := hI
        refine lv_iload_n hx hb dX8_bound_30 rfl (lv_at hl 1 rfl) ?_
        refine lv_icmp_le (tgt := 40) hx hb dX8_bound_31 (by decide) (fun hc => ?_) (fun hc => ?_)
        · replace hf := ite_t hc hf
          obtain ⟨x5, ex5⟩ : ∃ y : Int32, y = (v.2 + (1 : Int32)) := ⟨_, rfl⟩
          replace hf := bnd_e hf x5 ex5
          refine lv_iinc (v := x5) (lv' := [(2, .int x5), (0, .ref m0), (1, .int v.1)]) hx hb dX8_bound_40 hl (k := 2) rfl (by rw [ex5]; rfl) (by decide) rfl (fun ls hl => ?_)
          refine lv_goto (tgt := 7) hx hb dX8_bound_43 (by decide) ?_
          replace hf := Option.some.inj hf
          subst hf
          exact hM _ _ _ hI (lv_sub hl [1, 2, 0] rfl)
        · replace hf := ite_f hc hf
          refine lv_aload_n hx hb dX8_bound_34 rfl (lv_at hl 0 rfl) ?_
          refine lv_iload_n hx hb dX8_bound_35 rfl (lv_at hl 2 rfl) ?_
          obtain ⟨o6, ho6, hf⟩ := bd_e hf
          refine w_Vi0 (wc := (wM cI cJ cZ m0 m1 m2 m3 m4 m5 m6 m7 m8 m9 m10 m11 m12 m13 M_posts M_roads M_size M_rows M_nextRows M_first M_second M_number M_lists M_square M_fan M_trial M_touching M_having M_most M_only M_can M_next)) (wr := []) (rest := []) hx hb hml hg hown hK hA hI (kX8_needOf l D cI cJ cZ m0 m1 m2 m3 m4 m5 m6 m7 m8 m9 m10 m11 m12 m13 M_posts M_roads M_size M_rows M_nextRows M_first M_second M_number M_lists M_square M_fan M_trial M_touching M_having M_most M_only M_can M_next v.2 o6 ho6) kvX8_needOf wL_RX8_145 ⟨Nat.le_of_ble_eq_true rfl, Nat.le_of_ble_eq_true rfl⟩ rfl rfl [0, 1, 2, 3, 4, 5, 6, 7, 8, 9, 10, 11, 12, 13] [] rfl rfl rfl rfl (by decide) rfl rfl hl.1 (Nat.le_of_ble_eq_true rfl) dX8_bound_36 ⟨Nat.zero_le _, Nat.zero_le _⟩ ⟨rfl, rfl⟩ (fun r u H locs hp hI => ?_)
          replace hp : r = o6 := hp
          rw [hp]
          clear hp
          replace hI : WI D A s.heap (wM cI cJ cZ m0 m1 m2 m3 m4 m5 m6 m7 m8 m9 m10 m11 m12 m13 M_posts M_roads M_size M_rows M_nextRows M_first M_second M_number M_lists M_square M_fan M_trial M_touching M_having M_most M_only M_can M_next) H locs := hI
          refine lv_istore_n (lv' := [(1, .int o6), (0, .ref m0), (2, .int v.2)]) hx hb dX8_bound_39 rfl hl (by decide) rfl (fun ls hl => ?_)
          obtain ⟨x7, ex7⟩ : ∃ y : Int32, y = (v.2 + (1 : Int32)) := ⟨_, rfl⟩
          replace hf := bnd_e hf x7 ex7
          refine lv_iinc (v := x7) (lv' := [(2, .int x7), (1, .int o6), (0, .ref m0)]) hx hb dX8_bound_40 hl (k := 2) rfl (by rw [ex7]; rfl) (by decide) rfl (fun ls hl => ?_)
          refine lv_goto (tgt := 7) hx hb dX8_bound_43 (by decide) ?_
          replace hf := Option.some.inj hf
          subst hf
          exact hM _ _ _ hI (lv_sub hl [2, 1, 0] rfl)
  obtain ⟨x, hf, hM⟩ : ∃ x, FX8_bound M_posts M_roads M_first M_second = some x ∧ x = out := ⟨out, hf, rfl⟩
  refine lv_aload_n hx hb dX8_bound_0 rfl (lv_at hl 0 rfl) ?_
  obtain ⟨o1, ho1, hf⟩ := bd_e hf
  refine w_Vi0 (wc := (wM cI cJ cZ m0 m1 m2 m3 m4 m5 m6 m7 m8 m9 m10 m11 m12 m13 M_posts M_roads M_size M_rows M_nextRows M_first M_second M_number M_lists M_square M_fan M_trial M_touching M_having M_most M_only M_can M_next)) (wr := []) (rest := []) hx hb hml hg hown hK hA hI (kX8_fullOf l D cI cJ cZ m0 m1 m2 m3 m4 m5 m6 m7 m8 m9 m10 m11 m12 m13 M_posts M_roads M_size M_rows M_nextRows M_first M_second M_number M_lists M_square M_fan M_trial M_touching M_having M_most M_only M_can M_next  o1 ho1) kvX8_fullOf wL_RX8_121 ⟨Nat.le_of_ble_eq_true rfl, Nat.le_of_ble_eq_true rfl⟩ rfl rfl [0, 1, 2, 3, 4, 5, 6, 7, 8, 9, 10, 11, 12, 13] [] rfl rfl rfl rfl (by decide) rfl rfl hl.1 (Nat.le_of_ble_eq_true rfl) dX8_bound_1 ⟨Nat.zero_le _, Nat.zero_le _⟩ ⟨rfl, rfl⟩ (fun r u H locs hp hI => ?_)
  replace hp : r = o1 := hp
  rw [hp]
  clear hp
  replace hI : WI D A s.heap (wM cI cJ cZ m0 m1 m2 m3 m4 m5 m6 m7 m8 m9 m10 m11 m12 m13 M_posts M_roads M_size M_rows M_nextRows M_first M_second M_number M_lists M_square M_fan M_trial M_touching M_having M_most M_only M_can M_next) H locs := hI
  refine lv_istore_n (lv' := [(1, .int o1), (0, .ref m0)]) hx hb dX8_bound_4 rfl hl (by decide) rfl (fun ls hl => ?_)
  refine lv_iconst (v := 0) hx hb dX8_bound_5 (by decide) ?_
  refine lv_istore_n (lv' := [(2, .int (0 : Int32)), (1, .int o1), (0, .ref m0)]) hx hb dX8_bound_6 rfl hl (by decide) rfl (fun ls hl => ?_)
  exact L7  (o1, (0 : Int32)) _ hf hM _ _ _ hI (lv_sub hl [2, 1, 0] rfl)
noncomputable def FX8_full (M_posts : Int32) (M_roads : Int32) (M_first : Nat → Int32) (M_second : Nat → Int32) (M_number : Nat → Int32) (a1 : Int32) : Option (Int32) :=
  if a1 = (0 : Int32) then ((FX8_fullOf M_posts M_roads M_first M_second).bind (fun o4 => some o4)) else (if a1 = (1 : Int32) then ((FX8_bound M_posts M_roads M_first M_second).bind (fun o3 => some o3)) else (if a1 = (2 : Int32) then ((FX8_isPlain M_roads M_first M_second).bind (fun o2 => if o2 = (0 : Int32) then (some (0 : Int32)) else (some (1 : Int32)))) else (if a1 = (3 : Int32) then ((FX8_numbered M_roads M_number).bind (fun o1 => some o1)) else (some (-2 : Int32)))))
abbrev GX8_full (p : Program) (l : Launch) (e : Env) (s : State) (m : MethodId) (below : List Frame) (meth : Method) (c : Code) (D : va_G) (cI cJ cZ : ClassId) (m0 m1 m2 m3 m4 m5 m6 m7 m8 m9 m10 m11 m12 m13 : Nat) (M_posts : Int32) (M_roads : Int32) (M_size : Int32) (M_rows : Int32) (M_nextRows : Int32) (M_first : Nat → Int32) (M_second : Nat → Int32) (M_number : Nat → Int32) (M_lists : Nat → Int32) (M_square : Nat → Int32) (M_fan : Nat → Int32) (M_trial : Nat → Int32) (M_touching : Nat → Int32) (M_having : Nat → Int32) (M_most : Nat → Int32) (M_only : Nat → Int32) (M_can : Nat → Int32) (M_next : Nat → Int32) (a1 : Int32) (out : Int32) (H : Heap) (locs : List Loc) (g : JFrame) : Prop := W p l e (headSpec (Cond.code yX8_full cX8_full 2 (some .int) :: GW) { frames := 4, cells := 0, slots := 0, locals := 89 }).room s m ([.ref m0, .int a1] : List Value).toArray below meth c H locs 0 0 (MQ below (va_Qi (fun r (_ : Unit) => r = out) (BW D (wM cI cJ cZ m0 m1 m2 m3 m4 m5 m6 m7 m8 m9 m10 m11 m12 m13 M_posts M_roads M_size M_rows M_nextRows M_first M_second M_number M_lists M_square M_fan M_trial M_touching M_having M_most M_only M_can M_next) s.heap.size (fun _ => (wM cI cJ cZ m0 m1 m2 m3 m4 m5 m6 m7 m8 m9 m10 m11 m12 m13 M_posts M_roads M_size M_rows M_nextRows M_first M_second M_number M_lists M_square M_fan M_trial M_touching M_having M_most M_only M_can M_next))) (va_A (wM cI cJ cZ m0 m1 m2 m3 m4 m5 m6 m7 m8 m9 m10 m11 m12 m13 M_posts M_roads M_size M_rows M_nextRows M_first M_second M_number M_lists M_square M_fan M_trial M_touching M_having M_most M_only M_can M_next) s.heap.size)) ([.ref m0, .int a1] : List Value).toArray s 0 0 (va_A (wM cI cJ cZ m0 m1 m2 m3 m4 m5 m6 m7 m8 m9 m10 m11 m12 m13 M_posts M_roads M_size M_rows M_nextRows M_first M_second M_number M_lists M_square M_fan M_trial M_touching M_having M_most M_only M_can M_next) s.heap.size)) g
theorem kvX8_full : CalV RX8 yX8_full cX8_full 2 (some .int) 1 := ⟨wC_yX8_full, wM_yX8_full, wS_yX8_full, wI_RX8, by decide +kernel⟩
set_option maxHeartbeats 4000000 in
set_option maxRecDepth 100000 in
theorem kX8_full (l : Launch) (D : va_G) (cI cJ cZ : ClassId) (m0 m1 m2 m3 m4 m5 m6 m7 m8 m9 m10 m11 m12 m13 : Nat) (M_posts : Int32) (M_roads : Int32) (M_size : Int32) (M_rows : Int32) (M_nextRows : Int32) (M_first : Nat → Int32) (M_second : Nat → Int32) (M_number : Nat → Int32) (M_lists : Nat → Int32) (M_square : Nat → Int32) (M_fan : Nat → Int32) (M_trial : Nat → Int32) (M_touching : Nat → Int32) (M_having : Nat → Int32) (M_most : Nat → Int32) (M_only : Nat → Int32) (M_can : Nat → Int32) (M_next : Nat → Int32) (a1 : Int32) (out : Int32) (hf : FX8_full M_posts M_roads M_first M_second M_number a1 = some out) : MI l yX8_full (Cond.code yX8_full cX8_full 2 (some .int) :: GW) { frames := 4, cells := 0, slots := 0, locals := 89 } D cI cJ cZ [.ref m0, .int a1] (wM cI cJ cZ m0 m1 m2 m3 m4 m5 m6 m7 m8 m9 m10 m11 m12 m13 M_posts M_roads M_size M_rows M_nextRows M_first M_second M_number M_lists M_square M_fan M_trial M_touching M_having M_most M_only M_can M_next) (fun r (_ : Unit) => r = out) (fun _ => (wM cI cJ cZ m0 m1 m2 m3 m4 m5 m6 m7 m8 m9 m10 m11 m12 m13 M_posts M_roads M_size M_rows M_nextRows M_first M_second M_number M_lists M_square M_fan M_trial M_touching M_having M_most M_only M_can M_next)) := by
  intro sz
  refine Met.ofW (cc := cX8_full) (maxL := 2) (ret := (some .int)) (by decide +kernel) rfl ?_
  intro p e s m args below meth c s₁ B hml hv
  obtain ⟨rfl, hsz, hP, hK, hD0⟩ := hv
  have hx := B.exec
  have hb := B.bytes
  have hr := B.returns
  have hlocks := B.notSynchronized
  have hg : ∀ w ∈ GW, w.before _ s = true := fun w h => atoms_spec (ws := Cond.code yX8_full cX8_full 2 (some .int) :: GW) B.pre w (List.mem_cons_of_mem _ h)
  have hown : s.vm.findClass RX8 = some m.cls := findClass_of_methodNamed B.named
  subst hsz
  obtain ⟨A, hAe⟩ : ∃ A, A = va_A (wM cI cJ cZ m0 m1 m2 m3 m4 m5 m6 m7 m8 m9 m10 m11 m12 m13 M_posts M_roads M_size M_rows M_nextRows M_first M_second M_number M_lists M_square M_fan M_trial M_touching M_having M_most M_only M_can M_next) s.heap.size := ⟨_, rfl⟩
  have hA : ∀ q : Nat, s.heap.size ≤ q → A q := fun q h => by rw [hAe]; exact Or.inr h
  have hI : WI D A s.heap (wM cI cJ cZ m0 m1 m2 m3 m4 m5 m6 m7 m8 m9 m10 m11 m12 m13 M_posts M_roads M_size M_rows M_nextRows M_first M_second M_number M_lists M_square M_fan M_trial M_touching M_having M_most M_only M_can M_next) s.heap [] := ⟨hP, by rw [hAe]; exact hD0.self, va_S.rf⟩
  have hl := lv_entry [.ref m0, .int a1] (n := 2) (Nat.le_of_ble_eq_true rfl)
  rw [lg_entry_eq]
  generalize (lg_sl [.ref m0, .int a1] ++ List.replicate (2 - (lg_sl [.ref m0, .int a1]).length) Slot.unset).toArray = ls at hl ⊢
  replace hl : lv_has ls 2 [(0, .ref m0), (1, .int a1)] := hl
  obtain ⟨x, hf, hM⟩ : ∃ x, FX8_full M_posts M_roads M_first M_second M_number a1 = some x ∧ x = out := ⟨out, hf, rfl⟩
  refine lv_iload_n hx hb dX8_full_0 rfl (lv_at hl 1 rfl) ?_
  refine lv_if_ne (tgt := 11) hx hb dX8_full_1 (by decide) (fun hc => ?_) (fun hc => ?_)
  · replace hf := ite_f hc hf
    refine lv_iload_n hx hb dX8_full_11 rfl (lv_at hl 1 rfl) ?_
    refine lv_iconst (v := 1) hx hb dX8_full_12 (by decide) ?_
    refine lv_icmp_ne (tgt := 23) hx hb dX8_full_13 (by decide) (fun hc => ?_) (fun hc => ?_)
    · replace hf := ite_f hc hf
      refine lv_iload_n hx hb dX8_full_23 rfl (lv_at hl 1 rfl) ?_
      refine lv_iconst (v := 2) hx hb dX8_full_24 (by decide) ?_
      refine lv_icmp_ne (tgt := 43) hx hb dX8_full_25 (by decide) (fun hc => ?_) (fun hc => ?_)
      · replace hf := ite_f hc hf
        refine lv_iload_n hx hb dX8_full_43 rfl (lv_at hl 1 rfl) ?_
        refine lv_iconst (v := 3) hx hb dX8_full_44 (by decide) ?_
        refine lv_icmp_ne (tgt := 55) hx hb dX8_full_45 (by decide) (fun hc => ?_) (fun hc => ?_)
        · replace hf := ite_f hc hf
          refine lv_bipush (v := -2) hx hb dX8_full_55 (by decide) ?_
          replace hf := Option.some.inj hf
          subst hf
          replace hM : (-2 : Int32) = out := hM
          subst hM
          exact rt_i (u := ()) hx hb hr hlocks rfl hI hAe rfl dX8_full_57
        · replace hf := ite_t hc hf
          refine lv_aload_n hx hb dX8_full_48 rfl (lv_at hl 0 rfl) ?_
          obtain ⟨o1, ho1, hf⟩ := bd_e hf
          refine w_Vi0 (wc := (wM cI cJ cZ m0 m1 m2 m3 m4 m5 m6 m7 m8 m9 m10 m11 m12 m13 M_posts M_roads M_size M_rows M_nextRows M_first M_second M_number M_lists M_square M_fan M_trial M_touching M_having M_most M_only M_can M_next)) (wr := []) (rest := []) hx hb hml hg hown hK hA hI (kX8_numbered l D cI cJ cZ m0 m1 m2 m3 m4 m5 m6 m7 m8 m9 m10 m11 m12 m13 M_posts M_roads M_size M_rows M_nextRows M_first M_second M_number M_lists M_square M_fan M_trial M_touching M_having M_most M_only M_can M_next  o1 ho1) kvX8_numbered wL_RX8_76 ⟨Nat.le_of_ble_eq_true rfl, Nat.le_of_ble_eq_true rfl⟩ rfl rfl [0, 1, 2, 3, 4, 5, 6, 7, 8, 9, 10, 11, 12, 13] [] rfl rfl rfl rfl (by decide) rfl rfl hl.1 (Nat.le_of_ble_eq_true rfl) dX8_full_49 ⟨Nat.zero_le _, Nat.zero_le _⟩ ⟨rfl, rfl⟩ (fun r u H locs hp hI => ?_)
          replace hp : r = o1 := hp
          rw [hp]
          clear hp
          replace hI : WI D A s.heap (wM cI cJ cZ m0 m1 m2 m3 m4 m5 m6 m7 m8 m9 m10 m11 m12 m13 M_posts M_roads M_size M_rows M_nextRows M_first M_second M_number M_lists M_square M_fan M_trial M_touching M_having M_most M_only M_can M_next) H locs := hI
          refine lv_goto (tgt := 57) hx hb dX8_full_52 (by decide) ?_
          replace hf := Option.some.inj hf
          subst hf
          replace hM : o1 = out := hM
          subst hM
          exact rt_i (u := ()) hx hb hr hlocks rfl hI hAe rfl dX8_full_57
      · replace hf := ite_t hc hf
        refine lv_aload_n hx hb dX8_full_28 rfl (lv_at hl 0 rfl) ?_
        obtain ⟨o2, ho2, hf⟩ := bd_e hf
        refine w_Vi0 (wc := (wM cI cJ cZ m0 m1 m2 m3 m4 m5 m6 m7 m8 m9 m10 m11 m12 m13 M_posts M_roads M_size M_rows M_nextRows M_first M_second M_number M_lists M_square M_fan M_trial M_touching M_having M_most M_only M_can M_next)) (wr := []) (rest := []) hx hb hml hg hown hK hA hI (kX8_isPlain l D cI cJ cZ m0 m1 m2 m3 m4 m5 m6 m7 m8 m9 m10 m11 m12 m13 M_posts M_roads M_size M_rows M_nextRows M_first M_second M_number M_lists M_square M_fan M_trial M_touching M_having M_most M_only M_can M_next  o2 ho2) kvX8_isPlain wL_RX8_117 ⟨Nat.le_of_ble_eq_true rfl, Nat.le_of_ble_eq_true rfl⟩ rfl rfl [0, 1, 2, 3, 4, 5, 6, 7, 8, 9, 10, 11, 12, 13] [] rfl rfl rfl rfl (by decide) rfl rfl hl.1 (Nat.le_of_ble_eq_true rfl) dX8_full_29 ⟨Nat.zero_le _, Nat.zero_le _⟩ ⟨rfl, rfl⟩ (fun r u H locs hp hI => ?_)
        replace hp : r = o2 := hp
        rw [hp]
        clear hp
        replace hI : WI D A s.heap (wM cI cJ cZ m0 m1 m2 m3 m4 m5 m6 m7 m8 m9 m10 m11 m12 m13 M_posts M_roads M_size M_rows M_nextRows M_first M_second M_number M_lists M_square M_fan M_trial M_touching M_having M_most M_only M_can M_next) H locs := hI
        refine lv_if_eq (tgt := 39) hx hb dX8_full_32 (by decide) (fun hc => ?_) (fun hc => ?_)
        · replace hf := ite_t hc hf
          refine lv_iconst (v := 0) hx hb dX8_full_39 (by decide) ?_
          refine lv_goto (tgt := 57) hx hb dX8_full_40 (by decide) ?_
          replace hf := Option.some.inj hf
          subst hf
          replace hM : (0 : Int32) = out := hM
          subst hM
          exact rt_i (u := ()) hx hb hr hlocks rfl hI hAe rfl dX8_full_57
        · replace hf := ite_f hc hf
          refine lv_iconst (v := 1) hx hb dX8_full_35 (by decide) ?_
          refine lv_goto (tgt := 57) hx hb dX8_full_36 (by decide) ?_
          replace hf := Option.some.inj hf
          subst hf
          replace hM : (1 : Int32) = out := hM
          subst hM
          exact rt_i (u := ()) hx hb hr hlocks rfl hI hAe rfl dX8_full_57
    · replace hf := ite_t hc hf
      refine lv_aload_n hx hb dX8_full_16 rfl (lv_at hl 0 rfl) ?_
      obtain ⟨o3, ho3, hf⟩ := bd_e hf
      refine w_Vi0 (wc := (wM cI cJ cZ m0 m1 m2 m3 m4 m5 m6 m7 m8 m9 m10 m11 m12 m13 M_posts M_roads M_size M_rows M_nextRows M_first M_second M_number M_lists M_square M_fan M_trial M_touching M_having M_most M_only M_can M_next)) (wr := []) (rest := []) hx hb hml hg hown hK hA hI (kX8_bound l D cI cJ cZ m0 m1 m2 m3 m4 m5 m6 m7 m8 m9 m10 m11 m12 m13 M_posts M_roads M_size M_rows M_nextRows M_first M_second M_number M_lists M_square M_fan M_trial M_touching M_having M_most M_only M_can M_next  o3 ho3) kvX8_bound wL_RX8_148 ⟨Nat.le_of_ble_eq_true rfl, Nat.le_of_ble_eq_true rfl⟩ rfl rfl [0, 1, 2, 3, 4, 5, 6, 7, 8, 9, 10, 11, 12, 13] [] rfl rfl rfl rfl (by decide) rfl rfl hl.1 (Nat.le_of_ble_eq_true rfl) dX8_full_17 ⟨Nat.zero_le _, Nat.zero_le _⟩ ⟨rfl, rfl⟩ (fun r u H locs hp hI => ?_)
      replace hp : r = o3 := hp
      rw [hp]
      clear hp
      replace hI : WI D A s.heap (wM cI cJ cZ m0 m1 m2 m3 m4 m5 m6 m7 m8 m9 m10 m11 m12 m13 M_posts M_roads M_size M_rows M_nextRows M_first M_second M_number M_lists M_square M_fan M_trial M_touching M_having M_most M_only M_can M_next) H locs := hI
      refine lv_goto (tgt := 57) hx hb dX8_full_20 (by decide) ?_
      replace hf := Option.some.inj hf
      subst hf
      replace hM : o3 = out := hM
      subst hM
      exact rt_i (u := ()) hx hb hr hlocks rfl hI hAe rfl dX8_full_57
  · replace hf := ite_t hc hf
    refine lv_aload_n hx hb dX8_full_4 rfl (lv_at hl 0 rfl) ?_
    obtain ⟨o4, ho4, hf⟩ := bd_e hf
    refine w_Vi0 (wc := (wM cI cJ cZ m0 m1 m2 m3 m4 m5 m6 m7 m8 m9 m10 m11 m12 m13 M_posts M_roads M_size M_rows M_nextRows M_first M_second M_number M_lists M_square M_fan M_trial M_touching M_having M_most M_only M_can M_next)) (wr := []) (rest := []) hx hb hml hg hown hK hA hI (kX8_fullOf l D cI cJ cZ m0 m1 m2 m3 m4 m5 m6 m7 m8 m9 m10 m11 m12 m13 M_posts M_roads M_size M_rows M_nextRows M_first M_second M_number M_lists M_square M_fan M_trial M_touching M_having M_most M_only M_can M_next  o4 ho4) kvX8_fullOf wL_RX8_121 ⟨Nat.le_of_ble_eq_true rfl, Nat.le_of_ble_eq_true rfl⟩ rfl rfl [0, 1, 2, 3, 4, 5, 6, 7, 8, 9, 10, 11, 12, 13] [] rfl rfl rfl rfl (by decide) rfl rfl hl.1 (Nat.le_of_ble_eq_true rfl) dX8_full_5 ⟨Nat.zero_le _, Nat.zero_le _⟩ ⟨rfl, rfl⟩ (fun r u H locs hp hI => ?_)
    replace hp : r = o4 := hp
    rw [hp]
    clear hp
    replace hI : WI D A s.heap (wM cI cJ cZ m0 m1 m2 m3 m4 m5 m6 m7 m8 m9 m10 m11 m12 m13 M_posts M_roads M_size M_rows M_nextRows M_first M_second M_number M_lists M_square M_fan M_trial M_touching M_having M_most M_only M_can M_next) H locs := hI
    refine lv_goto (tgt := 57) hx hb dX8_full_8 (by decide) ?_
    replace hf := Option.some.inj hf
    subst hf
    replace hM : o4 = out := hM
    subst hM
    exact rt_i (u := ()) hx hb hr hlocks rfl hI hAe rfl dX8_full_57
noncomputable def FX8_least (M_roads : Int32) (M_first : Nat → Int32) (M_second : Nat → Int32) (M_trial_0 : Nat → Int32) (M_touching_0 : Nat → Int32) (M_having_0 : Nat → Int32) (M_most_0 : Nat → Int32)  : Option (Int32 × (Nat → Int32) × (Nat → Int32) × (Nat → Int32) × (Nat → Int32)) :=
  if M_roads ≤ (12 : Int32) then ((FX8_leastOf M_roads M_first M_second M_trial_0 M_touching_0 M_having_0 M_most_0 (-1 : Int32)).bind (fun o1 => some (o1.1, o1.2.1, o1.2.2.1, o1.2.2.2.1, o1.2.2.2.2))) else (some ((-2 : Int32), M_trial_0, M_touching_0, M_having_0, M_most_0))
abbrev GX8_least (p : Program) (l : Launch) (e : Env) (s : State) (m : MethodId) (below : List Frame) (meth : Method) (c : Code) (D : va_G) (cI cJ cZ : ClassId) (m0 m1 m2 m3 m4 m5 m6 m7 m8 m9 m10 m11 m12 m13 : Nat) (M_posts : Int32) (M_roads : Int32) (M_size : Int32) (M_rows : Int32) (M_nextRows : Int32) (M_first : Nat → Int32) (M_second : Nat → Int32) (M_number : Nat → Int32) (M_lists : Nat → Int32) (M_square : Nat → Int32) (M_fan : Nat → Int32) (M_trial_0 : Nat → Int32) (M_touching_0 : Nat → Int32) (M_having_0 : Nat → Int32) (M_most_0 : Nat → Int32) (M_only : Nat → Int32) (M_can : Nat → Int32) (M_next : Nat → Int32)  (out : Int32 × (Nat → Int32) × (Nat → Int32) × (Nat → Int32) × (Nat → Int32)) (H : Heap) (locs : List Loc) (g : JFrame) : Prop := W p l e (headSpec (Cond.code yX8_least cX8_least 1 (some .int) :: GW) { frames := 5, cells := 0, slots := 0, locals := 111 }).room s m ([.ref m0] : List Value).toArray below meth c H locs 0 0 (MQ below (va_Qi (fun r (_ : Unit) => r = out.1) (BW D (wM cI cJ cZ m0 m1 m2 m3 m4 m5 m6 m7 m8 m9 m10 m11 m12 m13 M_posts M_roads M_size M_rows M_nextRows M_first M_second M_number M_lists M_square M_fan M_trial_0 M_touching_0 M_having_0 M_most_0 M_only M_can M_next) s.heap.size (fun _ => (wM cI cJ cZ m0 m1 m2 m3 m4 m5 m6 m7 m8 m9 m10 m11 m12 m13 M_posts M_roads M_size M_rows M_nextRows M_first M_second M_number M_lists M_square M_fan out.2.1 out.2.2.1 out.2.2.2.1 out.2.2.2.2 M_only M_can M_next))) (va_A (wM cI cJ cZ m0 m1 m2 m3 m4 m5 m6 m7 m8 m9 m10 m11 m12 m13 M_posts M_roads M_size M_rows M_nextRows M_first M_second M_number M_lists M_square M_fan M_trial_0 M_touching_0 M_having_0 M_most_0 M_only M_can M_next) s.heap.size)) ([.ref m0] : List Value).toArray s 0 0 (va_A (wM cI cJ cZ m0 m1 m2 m3 m4 m5 m6 m7 m8 m9 m10 m11 m12 m13 M_posts M_roads M_size M_rows M_nextRows M_first M_second M_number M_lists M_square M_fan M_trial_0 M_touching_0 M_having_0 M_most_0 M_only M_can M_next) s.heap.size)) g
theorem kvX8_least : CalV RX8 yX8_least cX8_least 1 (some .int) 0 := ⟨wC_yX8_least, wM_yX8_least, wS_yX8_least, wI_RX8, by decide +kernel⟩
set_option maxHeartbeats 4000000 in
set_option maxRecDepth 100000 in
theorem kX8_least (l : Launch) (D : va_G) (cI cJ cZ : ClassId) (m0 m1 m2 m3 m4 m5 m6 m7 m8 m9 m10 m11 m12 m13 : Nat) (M_posts : Int32) (M_roads : Int32) (M_size : Int32) (M_rows : Int32) (M_nextRows : Int32) (M_first : Nat → Int32) (M_second : Nat → Int32) (M_number : Nat → Int32) (M_lists : Nat → Int32) (M_square : Nat → Int32) (M_fan : Nat → Int32) (M_trial_0 : Nat → Int32) (M_touching_0 : Nat → Int32) (M_having_0 : Nat → Int32) (M_most_0 : Nat → Int32) (M_only : Nat → Int32) (M_can : Nat → Int32) (M_next : Nat → Int32)  (out : Int32 × (Nat → Int32) × (Nat → Int32) × (Nat → Int32) × (Nat → Int32)) (hf : FX8_least M_roads M_first M_second M_trial_0 M_touching_0 M_having_0 M_most_0 = some out) : MI l yX8_least (Cond.code yX8_least cX8_least 1 (some .int) :: GW) { frames := 5, cells := 0, slots := 0, locals := 111 } D cI cJ cZ [.ref m0] (wM cI cJ cZ m0 m1 m2 m3 m4 m5 m6 m7 m8 m9 m10 m11 m12 m13 M_posts M_roads M_size M_rows M_nextRows M_first M_second M_number M_lists M_square M_fan M_trial_0 M_touching_0 M_having_0 M_most_0 M_only M_can M_next) (fun r (_ : Unit) => r = out.1) (fun _ => (wM cI cJ cZ m0 m1 m2 m3 m4 m5 m6 m7 m8 m9 m10 m11 m12 m13 M_posts M_roads M_size M_rows M_nextRows M_first M_second M_number M_lists M_square M_fan out.2.1 out.2.2.1 out.2.2.2.1 out.2.2.2.2 M_only M_can M_next)) := by
  intro sz
  refine Met.ofW (cc := cX8_least) (maxL := 1) (ret := (some .int)) (by decide +kernel) rfl ?_
  intro p e s m args below meth c s₁ B hml hv
  obtain ⟨rfl, hsz, hP, hK, hD0⟩ := hv
  have hx := B.exec
  have hb := B.bytes
  have hr := B.returns
  have hlocks := B.notSynchronized
  have hg : ∀ w ∈ GW, w.before _ s = true := fun w h => atoms_spec (ws := Cond.code yX8_least cX8_least 1 (some .int) :: GW) B.pre w (List.mem_cons_of_mem _ h)
  have hown : s.vm.findClass RX8 = some m.cls := findClass_of_methodNamed B.named
  subst hsz
  obtain ⟨A, hAe⟩ : ∃ A, A = va_A (wM cI cJ cZ m0 m1 m2 m3 m4 m5 m6 m7 m8 m9 m10 m11 m12 m13 M_posts M_roads M_size M_rows M_nextRows M_first M_second M_number M_lists M_square M_fan M_trial_0 M_touching_0 M_having_0 M_most_0 M_only M_can M_next) s.heap.size := ⟨_, rfl⟩
  have hA : ∀ q : Nat, s.heap.size ≤ q → A q := fun q h => by rw [hAe]; exact Or.inr h
  have hI : WI D A s.heap (wM cI cJ cZ m0 m1 m2 m3 m4 m5 m6 m7 m8 m9 m10 m11 m12 m13 M_posts M_roads M_size M_rows M_nextRows M_first M_second M_number M_lists M_square M_fan M_trial_0 M_touching_0 M_having_0 M_most_0 M_only M_can M_next) s.heap [] := ⟨hP, by rw [hAe]; exact hD0.self, va_S.rf⟩
  have hl := lv_entry [.ref m0] (n := 1) (Nat.le_of_ble_eq_true rfl)
  rw [lg_entry_eq]
  generalize (lg_sl [.ref m0] ++ List.replicate (1 - (lg_sl [.ref m0]).length) Slot.unset).toArray = ls at hl ⊢
  replace hl : lv_has ls 1 [(0, .ref m0)] := hl
  obtain ⟨x, hf, hM⟩ : ∃ x, FX8_least M_roads M_first M_second M_trial_0 M_touching_0 M_having_0 M_most_0 = some x ∧ x = out := ⟨out, hf, rfl⟩
  refine lv_aload_n hx hb dX8_least_0 rfl (lv_at hl 0 rfl) ?_
  refine w_get hx hb hg hown hK hI iX8 0 rfl rfl 1 (by decide) wF_RX8_57 rfl dX8_least_1 ?_
  refine lv_bipush (v := 12) hx hb dX8_least_4 (by decide) ?_
  refine lv_icmp_le (tgt := 14) hx hb dX8_least_6 (by decide) (fun hc => ?_) (fun hc => ?_)
  · replace hf := ite_t hc hf
    refine lv_aload_n hx hb dX8_least_14 rfl (lv_at hl 0 rfl) ?_
    refine lv_iconst (v := -1) hx hb dX8_least_15 (by decide) ?_
    obtain ⟨o1, ho1, hf⟩ := bd_e hf
    refine w_Vi0 (wc := (wM cI cJ cZ m0 m1 m2 m3 m4 m5 m6 m7 m8 m9 m10 m11 m12 m13 M_posts M_roads M_size M_rows M_nextRows M_first M_second M_number M_lists M_square M_fan M_trial_0 M_touching_0 M_having_0 M_most_0 M_only M_can M_next)) (wr := []) (rest := []) hx hb hml hg hown hK hA hI (kX8_leastOf l D cI cJ cZ m0 m1 m2 m3 m4 m5 m6 m7 m8 m9 m10 m11 m12 m13 M_posts M_roads M_size M_rows M_nextRows M_first M_second M_number M_lists M_square M_fan M_trial_0 M_touching_0 M_having_0 M_most_0 M_only M_can M_next (-1 : Int32) o1 ho1) kvX8_leastOf wL_RX8_151 ⟨Nat.le_of_ble_eq_true rfl, Nat.le_of_ble_eq_true rfl⟩ rfl rfl [0, 1, 2, 3, 4, 5, 6, 7, 8, 9, 10, 11, 12, 13] [] rfl rfl rfl rfl (by decide) rfl rfl hl.1 (Nat.le_of_ble_eq_true rfl) dX8_least_16 ⟨Nat.zero_le _, Nat.zero_le _⟩ ⟨rfl, rfl⟩ (fun r u H locs hp hI => ?_)
    replace hp : r = o1.1 := hp
    rw [hp]
    clear hp
    replace hI : WI D A s.heap (wM cI cJ cZ m0 m1 m2 m3 m4 m5 m6 m7 m8 m9 m10 m11 m12 m13 M_posts M_roads M_size M_rows M_nextRows M_first M_second M_number M_lists M_square M_fan o1.2.1 o1.2.2.1 o1.2.2.2.1 o1.2.2.2.2 M_only M_can M_next) H locs := hI
    replace hf := Option.some.inj hf
    subst hf
    replace hM : (o1.1, o1.2.1, o1.2.2.1, o1.2.2.2.1, o1.2.2.2.2) = out := hM
    subst hM
    exact rt_i (u := ()) hx hb hr hlocks rfl hI hAe rfl dX8_least_19
  · replace hf := ite_f hc hf
    refine lv_bipush (v := -2) hx hb dX8_least_9 (by decide) ?_
    refine lv_goto (tgt := 19) hx hb dX8_least_11 (by decide) ?_
    replace hf := Option.some.inj hf
    subst hf
    replace hM : ((-2 : Int32), M_trial_0, M_touching_0, M_having_0, M_most_0) = out := hM
    subst hM
    exact rt_i (u := ()) hx hb hr hlocks rfl hI hAe rfl dX8_least_19
noncomputable def X8_first_L35 (M_roads : Int32) (M_trial : Nat → Int32) (M_touching : Nat → Int32) (M_having : Nat → Int32) (M_most : Nat → Int32) (v : (Nat → Int32) × Int32) : Option (((Nat → Int32) × Int32) ⊕ (Int32 × (Nat → Int32) × (Nat → Int32) × (Nat → Int32) × (Nat → Int32) × (Nat → Int32))) :=
  if M_roads ≤ v.2 then (some (.inr ((1 : Int32), v.1, M_trial, M_touching, M_having, M_most))) else (rd M_trial 24 v.2 (fun x3 => wr v.1 24 v.2 x3 (fun g4 => bnd (v.2 + (1 : Int32)) (fun x5 => some (.inl (g4, x5))))))
noncomputable def FX8_first (M_roads : Int32) (M_first : Nat → Int32) (M_second : Nat → Int32) (M_number_0 : Nat → Int32) (M_trial_0 : Nat → Int32) (M_touching_0 : Nat → Int32) (M_having_0 : Nat → Int32) (M_most_0 : Nat → Int32) (a1 : Int32) : Option (Int32 × (Nat → Int32) × (Nat → Int32) × (Nat → Int32) × (Nat → Int32) × (Nat → Int32)) :=
  (FX8_in a1 (0 : Int32) (16 : Int32)).bind (fun x1 => if x1 = (0 : Int32) then (some ((-2 : Int32), M_number_0, M_trial_0, M_touching_0, M_having_0, M_most_0)) else (if M_roads ≤ (12 : Int32) then ((FX8_tries M_roads M_first M_second M_trial_0 M_touching_0 M_having_0 M_most_0 a1 (-1 : Int32)).bind (fun o2 => if o2.1 = (0 : Int32) then (some ((0 : Int32), M_number_0, o2.2.1, o2.2.2.1, o2.2.2.2.1, o2.2.2.2.2)) else (loopO (X8_first_L35 M_roads o2.2.1 o2.2.2.1 o2.2.2.2.1 o2.2.2.2.2) (M_number_0, (0 : Int32))))) else (some ((-2 : Int32), M_number_0, M_trial_0, M_touching_0, M_having_0, M_most_0))))
abbrev GX8_first (p : Program) (l : Launch) (e : Env) (s : State) (m : MethodId) (below : List Frame) (meth : Method) (c : Code) (D : va_G) (cI cJ cZ : ClassId) (m0 m1 m2 m3 m4 m5 m6 m7 m8 m9 m10 m11 m12 m13 : Nat) (M_posts : Int32) (M_roads : Int32) (M_size : Int32) (M_rows : Int32) (M_nextRows : Int32) (M_first : Nat → Int32) (M_second : Nat → Int32) (M_number_0 : Nat → Int32) (M_lists : Nat → Int32) (M_square : Nat → Int32) (M_fan : Nat → Int32) (M_trial_0 : Nat → Int32) (M_touching_0 : Nat → Int32) (M_having_0 : Nat → Int32) (M_most_0 : Nat → Int32) (M_only : Nat → Int32) (M_can : Nat → Int32) (M_next : Nat → Int32) (a1 : Int32) (out : Int32 × (Nat → Int32) × (Nat → Int32) × (Nat → Int32) × (Nat → Int32) × (Nat → Int32)) (H : Heap) (locs : List Loc) (g : JFrame) : Prop := W p l e (headSpec (Cond.code yX8_first cX8_first 3 (some .int) :: GW) { frames := 4, cells := 0, slots := 0, locals := 89 }).room s m ([.ref m0, .int a1] : List Value).toArray below meth c H locs 0 0 (MQ below (va_Qi (fun r (_ : Unit) => r = out.1) (BW D (wM cI cJ cZ m0 m1 m2 m3 m4 m5 m6 m7 m8 m9 m10 m11 m12 m13 M_posts M_roads M_size M_rows M_nextRows M_first M_second M_number_0 M_lists M_square M_fan M_trial_0 M_touching_0 M_having_0 M_most_0 M_only M_can M_next) s.heap.size (fun _ => (wM cI cJ cZ m0 m1 m2 m3 m4 m5 m6 m7 m8 m9 m10 m11 m12 m13 M_posts M_roads M_size M_rows M_nextRows M_first M_second out.2.1 M_lists M_square M_fan out.2.2.1 out.2.2.2.1 out.2.2.2.2.1 out.2.2.2.2.2 M_only M_can M_next))) (va_A (wM cI cJ cZ m0 m1 m2 m3 m4 m5 m6 m7 m8 m9 m10 m11 m12 m13 M_posts M_roads M_size M_rows M_nextRows M_first M_second M_number_0 M_lists M_square M_fan M_trial_0 M_touching_0 M_having_0 M_most_0 M_only M_can M_next) s.heap.size)) ([.ref m0, .int a1] : List Value).toArray s 0 0 (va_A (wM cI cJ cZ m0 m1 m2 m3 m4 m5 m6 m7 m8 m9 m10 m11 m12 m13 M_posts M_roads M_size M_rows M_nextRows M_first M_second M_number_0 M_lists M_square M_fan M_trial_0 M_touching_0 M_having_0 M_most_0 M_only M_can M_next) s.heap.size)) g
theorem kvX8_first : CalV RX8 yX8_first cX8_first 3 (some .int) 1 := ⟨wC_yX8_first, wM_yX8_first, wS_yX8_first, wI_RX8, by decide +kernel⟩
set_option maxHeartbeats 4000000 in
set_option maxRecDepth 100000 in
theorem kX8_first (l : Launch) (D : va_G) (cI cJ cZ : ClassId) (m0 m1 m2 m3 m4 m5 m6 m7 m8 m9 m10 m11 m12 m13 : Nat) (M_posts : Int32) (M_roads : Int32) (M_size : Int32) (M_rows : Int32) (M_nextRows : Int32) (M_first : Nat → Int32) (M_second : Nat → Int32) (M_number_0 : Nat → Int32) (M_lists : Nat → Int32) (M_square : Nat → Int32) (M_fan : Nat → Int32) (M_trial_0 : Nat → Int32) (M_touching_0 : Nat → Int32) (M_having_0 : Nat → Int32) (M_most_0 : Nat → Int32) (M_only : Nat → Int32) (M_can : Nat → Int32) (M_next : Nat → Int32) (a1 : Int32) (out : Int32 × (Nat → Int32) × (Nat → Int32) × (Nat → Int32) × (Nat → Int32) × (Nat → Int32)) (hf : FX8_first M_roads M_first M_second M_number_0 M_trial_0 M_touching_0 M_having_0 M_most_0 a1 = some out) : MI l yX8_first (Cond.code yX8_first cX8_first 3 (some .int) :: GW) { frames := 4, cells := 0, slots := 0, locals := 89 } D cI cJ cZ [.ref m0, .int a1] (wM cI cJ cZ m0 m1 m2 m3 m4 m5 m6 m7 m8 m9 m10 m11 m12 m13 M_posts M_roads M_size M_rows M_nextRows M_first M_second M_number_0 M_lists M_square M_fan M_trial_0 M_touching_0 M_having_0 M_most_0 M_only M_can M_next) (fun r (_ : Unit) => r = out.1) (fun _ => (wM cI cJ cZ m0 m1 m2 m3 m4 m5 m6 m7 m8 m9 m10 m11 m12 m13 M_posts M_roads M_size M_rows M_nextRows M_first M_second out.2.1 M_lists M_square M_fan out.2.2.1 out.2.2.2.1 out.2.2.2.2.1 out.2.2.2.2.2 M_only M_can M_next)) := by
  intro sz
  refine Met.ofW (cc := cX8_first) (maxL := 3) (ret := (some .int)) (by decide +kernel) rfl ?_
  intro p e s m args below meth c s₁ B hml hv
  obtain ⟨rfl, hsz, hP, hK, hD0⟩ := hv
  have hx := B.exec
  have hb := B.bytes
  have hr := B.returns
  have hlocks := B.notSynchronized
  have hg : ∀ w ∈ GW, w.before _ s = true := fun w h => atoms_spec (ws := Cond.code yX8_first cX8_first 3 (some .int) :: GW) B.pre w (List.mem_cons_of_mem _ h)
  have hown : s.vm.findClass RX8 = some m.cls := findClass_of_methodNamed B.named
  subst hsz
  obtain ⟨A, hAe⟩ : ∃ A, A = va_A (wM cI cJ cZ m0 m1 m2 m3 m4 m5 m6 m7 m8 m9 m10 m11 m12 m13 M_posts M_roads M_size M_rows M_nextRows M_first M_second M_number_0 M_lists M_square M_fan M_trial_0 M_touching_0 M_having_0 M_most_0 M_only M_can M_next) s.heap.size := ⟨_, rfl⟩
  have hA : ∀ q : Nat, s.heap.size ≤ q → A q := fun q h => by rw [hAe]; exact Or.inr h
  have hI : WI D A s.heap (wM cI cJ cZ m0 m1 m2 m3 m4 m5 m6 m7 m8 m9 m10 m11 m12 m13 M_posts M_roads M_size M_rows M_nextRows M_first M_second M_number_0 M_lists M_square M_fan M_trial_0 M_touching_0 M_having_0 M_most_0 M_only M_can M_next) s.heap [] := ⟨hP, by rw [hAe]; exact hD0.self, va_S.rf⟩
  have hl := lv_entry [.ref m0, .int a1] (n := 3) (Nat.le_of_ble_eq_true rfl)
  rw [lg_entry_eq]
  generalize (lg_sl [.ref m0, .int a1] ++ List.replicate (3 - (lg_sl [.ref m0, .int a1]).length) Slot.unset).toArray = ls at hl ⊢
  replace hl : lv_has ls 3 [(0, .ref m0), (1, .int a1)] := hl
  have L35 : ∀ (M_trial : Nat → Int32) (M_touching : Nat → Int32) (M_having : Nat → Int32) (M_most : Nat → Int32), ∀ (v : (Nat → Int32) × Int32) (x : Int32 × (Nat → Int32) × (Nat → Int32) × (Nat → Int32) × (Nat → Int32) × (Nat → Int32)), loopO (X8_first_L35 M_roads M_trial M_touching M_having M_most) v = some x → (fun z : Int32 × (Nat → Int32) × (Nat → Int32) × (Nat → Int32) × (Nat → Int32) × (Nat → Int32) => z = out) x → (fun (v : (Nat → Int32) × Int32) => ∀ (H : Heap) (locs : List Loc) (ls : Array Slot), WI D A s.heap (wM cI cJ cZ m0 m1 m2 m3 m4 m5 m6 m7 m8 m9 m10 m11 m12 m13 M_posts M_roads M_size M_rows M_nextRows M_first M_second v.1 M_lists M_square M_fan M_trial M_touching M_having M_most M_only M_can M_next) H locs → lv_has ls 3 [(0, .ref m0), (2, .int v.2)] → GX8_first p l e s m below meth c D cI cJ cZ m0 m1 m2 m3 m4 m5 m6 m7 m8 m9 m10 m11 m12 m13 M_posts M_roads M_size M_rows M_nextRows M_first M_second M_number_0 M_lists M_square M_fan M_trial_0 M_touching_0 M_having_0 M_most_0 M_only M_can M_next a1 out H locs (F0 m 35 ls [])) v := by
    intro M_trial M_touching M_having M_most
    refine loopO_ind (fun (v : (Nat → Int32) × Int32) => ∀ (H : Heap) (locs : List Loc) (ls : Array Slot), WI D A s.heap (wM cI cJ cZ m0 m1 m2 m3 m4 m5 m6 m7 m8 m9 m10 m11 m12 m13 M_posts M_roads M_size M_rows M_nextRows M_first M_second v.1 M_lists M_square M_fan M_trial M_touching M_having M_most M_only M_can M_next) H locs → lv_has ls 3 [(0, .ref m0), (2, .int v.2)] → GX8_first p l e s m below meth c D cI cJ cZ m0 m1 m2 m3 m4 m5 m6 m7 m8 m9 m10 m11 m12 m13 M_posts M_roads M_size M_rows M_nextRows M_first M_second M_number_0 M_lists M_square M_fan M_trial_0 M_touching_0 M_having_0 M_most_0 M_only M_can M_next a1 out H locs (F0 m 35 ls [])) (fun z : Int32 × (Nat → Int32) × (Nat → Int32) × (Nat → Int32) × (Nat → Int32) × (Nat → Int32) => z = out) ?_
    intro v x hf hM H locs ls hI hl
    refine lv_iload_n hx hb dX8_first_35 rfl (lv_at hl 1 rfl) ?_
    refine lv_aload_n hx hb dX8_first_36 rfl (lv_at hl 0 rfl) ?_
    refine w_get hx hb hg hown hK hI iX8 0 rfl rfl 1 (by decide) wF_RX8_57 rfl dX8_first_37 ?_
    refine lv_icmp_ge (tgt := 61) hx hb dX8_first_40 (by decide) (fun hc => ?_) (fun hc => ?_)
    · replace hf := ite_t hc hf
      refine lv_iconst (v := 1) hx hb dX8_first_61 (by decide) ?_
      replace hf := Option.some.inj hf
      subst hf
      replace hM : ((1 : Int32), v.1, M_trial, M_touching, M_having, M_most) = out := hM
      subst hM
      exact rt_i (u := ()) hx hb hr hlocks rfl hI hAe rfl dX8_first_62
    · replace hf := ite_f hc hf
      refine lv_aload_n hx hb dX8_first_43 rfl (lv_at hl 0 rfl) ?_
      refine w_get hx hb hg hown hK hI iX8 0 rfl rfl 4 (by decide) wF_RX8_16 rfl dX8_first_44 ?_
      refine lv_iload_n hx hb dX8_first_47 rfl (lv_at hl 1 rfl) ?_
      refine lv_aload_n hx hb dX8_first_48 rfl (lv_at hl 0 rfl) ?_
      refine w_get hx hb hg hown hK hI iX8 0 rfl rfl 11 (by decide) wF_RX8_35 rfl dX8_first_49 ?_
      refine lv_iload_n hx hb dX8_first_52 rfl (lv_at hl 1 rfl) ?_
      obtain ⟨hin, hf⟩ := rd_e hf
      refine w_iald hx hb hK hI 7 rfl hin dX8_first_53 (fun x3 ex3 => ?_)
      replace hf := hf x3 ex3
      obtain ⟨hin, hf⟩ := wr_e hf
      obtain ⟨g4, eg4⟩ : ∃ g : Nat → Int32, g = upd v.1 (v.2).toNatClampNeg x3 := ⟨_, rfl⟩
      replace hf := hf g4 eg4
      refine w_iast (g := g4) (W1 := (wM cI cJ cZ m0 m1 m2 m3 m4 m5 m6 m7 m8 m9 m10 m11 m12 m13 M_posts M_roads M_size M_rows M_nextRows M_first M_second g4 M_lists M_square M_fan M_trial M_touching M_having M_most M_only M_can M_next)) hx hb hK hI 3 rfl hin eg4 dX8_first_54 rfl (fun H locs hI => ?_)
      obtain ⟨x5, ex5⟩ : ∃ y : Int32, y = (v.2 + (1 : Int32)) := ⟨_, rfl⟩
      replace hf := bnd_e hf x5 ex5
      refine lv_iinc (v := x5) (lv' := [(2, .int x5), (0, .ref m0)]) hx hb dX8_first_55 hl (k := 1) rfl (by rw [ex5]; rfl) (by decide) rfl (fun ls hl => ?_)
      refine lv_goto (tgt := 35) hx hb dX8_first_58 (by decide) ?_
      replace hf := Option.some.inj hf
      subst hf
      exact hM _ _ _ hI (lv_sub hl [1, 0] rfl)
  obtain ⟨x, hf, hM⟩ : ∃ x, FX8_first M_roads M_first M_second M_number_0 M_trial_0 M_touching_0 M_having_0 M_most_0 a1 = some x ∧ x = out := ⟨out, hf, rfl⟩
  refine lv_iload_n hx hb dX8_first_0 rfl (lv_at hl 1 rfl) ?_
  refine lv_iconst (v := 0) hx hb dX8_first_1 (by decide) ?_
  refine lv_bipush (v := 16) hx hb dX8_first_2 (by decide) ?_
  obtain ⟨x1, hx1, hf⟩ := bd_e hf
  refine w_S (rest := []) hx hb hml hg hown hK (kX8_in l D cI cJ cZ a1 (0 : Int32) (16 : Int32) x1 hx1) ksX8_in wL_RX8_60 ⟨Nat.le_of_ble_eq_true rfl, Nat.le_of_ble_eq_true rfl⟩ ⟨rfl, rfl⟩ rfl rfl hl.1 (Nat.le_of_ble_eq_true rfl) dX8_first_4 ⟨Nat.zero_le _, Nat.zero_le _⟩ ?_
  refine lv_if_eq (tgt := 19) hx hb dX8_first_7 (by decide) (fun hc => ?_) (fun hc => ?_)
  · replace hf := ite_t hc hf
    refine lv_bipush (v := -2) hx hb dX8_first_19 (by decide) ?_
    replace hf := Option.some.inj hf
    subst hf
    replace hM : ((-2 : Int32), M_number_0, M_trial_0, M_touching_0, M_having_0, M_most_0) = out := hM
    subst hM
    exact rt_i (u := ()) hx hb hr hlocks rfl hI hAe rfl dX8_first_21
  · replace hf := ite_f hc hf
    refine lv_aload_n hx hb dX8_first_10 rfl (lv_at hl 0 rfl) ?_
    refine w_get hx hb hg hown hK hI iX8 0 rfl rfl 1 (by decide) wF_RX8_57 rfl dX8_first_11 ?_
    refine lv_bipush (v := 12) hx hb dX8_first_14 (by decide) ?_
    refine lv_icmp_le (tgt := 22) hx hb dX8_first_16 (by decide) (fun hc => ?_) (fun hc => ?_)
    · replace hf := ite_t hc hf
      refine lv_aload_n hx hb dX8_first_22 rfl (lv_at hl 0 rfl) ?_
      refine lv_iload_n hx hb dX8_first_23 rfl (lv_at hl 1 rfl) ?_
      refine lv_iconst (v := -1) hx hb dX8_first_24 (by decide) ?_
      obtain ⟨o2, ho2, hf⟩ := bd_e hf
      refine w_Vi0 (wc := (wM cI cJ cZ m0 m1 m2 m3 m4 m5 m6 m7 m8 m9 m10 m11 m12 m13 M_posts M_roads M_size M_rows M_nextRows M_first M_second M_number_0 M_lists M_square M_fan M_trial_0 M_touching_0 M_having_0 M_most_0 M_only M_can M_next)) (wr := []) (rest := []) hx hb hml hg hown hK hA hI (kX8_tries l D cI cJ cZ m0 m1 m2 m3 m4 m5 m6 m7 m8 m9 m10 m11 m12 m13 M_posts M_roads M_size M_rows M_nextRows M_first M_second M_number_0 M_lists M_square M_fan M_trial_0 M_touching_0 M_having_0 M_most_0 M_only M_can M_next a1 (-1 : Int32) o2 ho2) kvX8_tries wL_RX8_142 ⟨Nat.le_of_ble_eq_true rfl, Nat.le_of_ble_eq_true rfl⟩ rfl rfl [0, 1, 2, 3, 4, 5, 6, 7, 8, 9, 10, 11, 12, 13] [] rfl rfl rfl rfl (by decide) rfl rfl hl.1 (Nat.le_of_ble_eq_true rfl) dX8_first_25 ⟨Nat.zero_le _, Nat.zero_le _⟩ ⟨rfl, rfl⟩ (fun r u H locs hp hI => ?_)
      replace hp : r = o2.1 := hp
      rw [hp]
      clear hp
      replace hI : WI D A s.heap (wM cI cJ cZ m0 m1 m2 m3 m4 m5 m6 m7 m8 m9 m10 m11 m12 m13 M_posts M_roads M_size M_rows M_nextRows M_first M_second M_number_0 M_lists M_square M_fan o2.2.1 o2.2.2.1 o2.2.2.2.1 o2.2.2.2.2 M_only M_can M_next) H locs := hI
      refine lv_if_ne (tgt := 33) hx hb dX8_first_28 (by decide) (fun hc => ?_) (fun hc => ?_)
      · replace hf := ite_f hc hf
        refine lv_iconst (v := 0) hx hb dX8_first_33 (by decide) ?_
        refine lv_istore_n (lv' := [(2, .int (0 : Int32)), (0, .ref m0), (1, .int a1)]) hx hb dX8_first_34 rfl hl (by decide) rfl (fun ls hl => ?_)
        exact L35 o2.2.1 o2.2.2.1 o2.2.2.2.1 o2.2.2.2.2 (M_number_0, (0 : Int32)) _ hf hM _ _ _ hI (lv_sub hl [1, 0] rfl)
      · replace hf := ite_t hc hf
        refine lv_iconst (v := 0) hx hb dX8_first_31 (by decide) ?_
        replace hf := Option.some.inj hf
        subst hf
        replace hM : ((0 : Int32), M_number_0, o2.2.1, o2.2.2.1, o2.2.2.2.1, o2.2.2.2.2) = out := hM
        subst hM
        exact rt_i (u := ()) hx hb hr hlocks rfl hI hAe rfl dX8_first_32
    · replace hf := ite_f hc hf
      refine lv_bipush (v := -2) hx hb dX8_first_19 (by decide) ?_
      replace hf := Option.some.inj hf
      subst hf
      replace hM : ((-2 : Int32), M_number_0, M_trial_0, M_touching_0, M_having_0, M_most_0) = out := hM
      subst hM
      exact rt_i (u := ()) hx hb hr hlocks rfl hI hAe rfl dX8_first_21
noncomputable def X8_count_L52 (M_roads : Int32) (M_trial : Nat → Int32) (M_touching : Nat → Int32) (M_having : Nat → Int32) (M_most : Nat → Int32) (l1 : Int32) (l2 : Int64) (l4 : Int32) (v : Int64 × Int32) : Option ((Int64 × Int32) ⊕ (((Nat → Int32) × (Nat → Int32) × (Nat → Int32) × Int64 × Int32) ⊕ (Int64 × (Nat → Int32) × (Nat → Int32) × (Nat → Int32) × (Nat → Int32)))) :=
  rd M_most 25 l4 (fun x6 => if x6 ≤ v.2 then (bnd (l2 + v.1) (fun x7 => bnd (l4 + (-1 : Int32)) (fun x8 => some (.inr (.inl (M_trial, M_having, M_most, x7, x8)))))) else (bnd (v.1 * ((l1 - v.2)).toInt64) (fun x9 => bnd (v.2 + (1 : Int32)) (fun x10 => some (.inl (x9, x10))))))
noncomputable def X8_count_L32 (M_roads : Int32) (M_touching : Nat → Int32) (l1 : Int32) (v : (Nat → Int32) × (Nat → Int32) × (Nat → Int32) × Int64 × Int32) : Option (((Nat → Int32) × (Nat → Int32) × (Nat → Int32) × Int64 × Int32) ⊕ (Int64 × (Nat → Int32) × (Nat → Int32) × (Nat → Int32) × (Nat → Int32))) :=
  if v.2.2.2.2 < (0 : Int32) then (some (.inr (v.2.2.2.1, v.1, M_touching, v.2.1, v.2.2.1))) else (if v.2.2.2.2 = M_roads then (loopO (X8_count_L52 M_roads v.1 M_touching v.2.1 v.2.2.1 l1 v.2.2.2.1 v.2.2.2.2) ((1 : Int64), (0 : Int32))) else ((FX8_goesOn v.1 M_touching v.2.1 v.2.2.1 v.2.2.2.2 l1).bind (fun o3 => if o3.1 = (0 : Int32) then (bnd (v.2.2.2.2 + (-1 : Int32)) (fun x4 => some (.inl (o3.2.1, o3.2.2.1, o3.2.2.2, v.2.2.2.1, x4)))) else (bnd (v.2.2.2.2 + (1 : Int32)) (fun x5 => some (.inl (o3.2.1, o3.2.2.1, o3.2.2.2, v.2.2.2.1, x5)))))))
noncomputable def FX8_count (M_roads : Int32) (M_first : Nat → Int32) (M_second : Nat → Int32) (M_trial_0 : Nat → Int32) (M_touching_0 : Nat → Int32) (M_having_0 : Nat → Int32) (M_most_0 : Nat → Int32) (a1 : Int32) : Option (Int64 × (Nat → Int32) × (Nat → Int32) × (Nat → Int32) × (Nat → Int32)) :=
  (FX8_in a1 (0 : Int32) (9 : Int32)).bind (fun x1 => if x1 = (0 : Int32) then (some ((-2 : Int64), M_trial_0, M_touching_0, M_having_0, M_most_0)) else (if M_roads ≤ (12 : Int32) then ((FX8_lookAtRoads M_roads M_first M_second M_trial_0 M_touching_0 M_having_0 M_most_0).bind (fun o2 => loopO (X8_count_L32 M_roads o2.2.1 a1) (o2.1, o2.2.2.1, o2.2.2.2, (0 : Int64), (0 : Int32)))) else (some ((-2 : Int64), M_trial_0, M_touching_0, M_having_0, M_most_0))))
abbrev GX8_count (p : Program) (l : Launch) (e : Env) (s : State) (m : MethodId) (below : List Frame) (meth : Method) (c : Code) (D : va_G) (cI cJ cZ : ClassId) (m0 m1 m2 m3 m4 m5 m6 m7 m8 m9 m10 m11 m12 m13 : Nat) (M_posts : Int32) (M_roads : Int32) (M_size : Int32) (M_rows : Int32) (M_nextRows : Int32) (M_first : Nat → Int32) (M_second : Nat → Int32) (M_number : Nat → Int32) (M_lists : Nat → Int32) (M_square : Nat → Int32) (M_fan : Nat → Int32) (M_trial_0 : Nat → Int32) (M_touching_0 : Nat → Int32) (M_having_0 : Nat → Int32) (M_most_0 : Nat → Int32) (M_only : Nat → Int32) (M_can : Nat → Int32) (M_next : Nat → Int32) (a1 : Int32) (out : Int64 × (Nat → Int32) × (Nat → Int32) × (Nat → Int32) × (Nat → Int32)) (H : Heap) (locs : List Loc) (g : JFrame) : Prop := W p l e (headSpec (Cond.code yX8_count cX8_count 8 (some .long) :: GW) { frames := 3, cells := 0, slots := 0, locals := 66 }).room s m ([.ref m0, .int a1] : List Value).toArray below meth c H locs 0 0 (MQ below (va_Ql (fun r (_ : Unit) => r = out.1) (BW D (wM cI cJ cZ m0 m1 m2 m3 m4 m5 m6 m7 m8 m9 m10 m11 m12 m13 M_posts M_roads M_size M_rows M_nextRows M_first M_second M_number M_lists M_square M_fan M_trial_0 M_touching_0 M_having_0 M_most_0 M_only M_can M_next) s.heap.size (fun _ => (wM cI cJ cZ m0 m1 m2 m3 m4 m5 m6 m7 m8 m9 m10 m11 m12 m13 M_posts M_roads M_size M_rows M_nextRows M_first M_second M_number M_lists M_square M_fan out.2.1 out.2.2.1 out.2.2.2.1 out.2.2.2.2 M_only M_can M_next))) (va_A (wM cI cJ cZ m0 m1 m2 m3 m4 m5 m6 m7 m8 m9 m10 m11 m12 m13 M_posts M_roads M_size M_rows M_nextRows M_first M_second M_number M_lists M_square M_fan M_trial_0 M_touching_0 M_having_0 M_most_0 M_only M_can M_next) s.heap.size)) ([.ref m0, .int a1] : List Value).toArray s 0 0 (va_A (wM cI cJ cZ m0 m1 m2 m3 m4 m5 m6 m7 m8 m9 m10 m11 m12 m13 M_posts M_roads M_size M_rows M_nextRows M_first M_second M_number M_lists M_square M_fan M_trial_0 M_touching_0 M_having_0 M_most_0 M_only M_can M_next) s.heap.size)) g
theorem kvX8_count : CalV RX8 yX8_count cX8_count 8 (some .long) 1 := ⟨wC_yX8_count, wM_yX8_count, wS_yX8_count, wI_RX8, by decide +kernel⟩
set_option maxHeartbeats 4000000 in
set_option maxRecDepth 100000 in
theorem kX8_count (l : Launch) (D : va_G) (cI cJ cZ : ClassId) (m0 m1 m2 m3 m4 m5 m6 m7 m8 m9 m10 m11 m12 m13 : Nat) (M_posts : Int32) (M_roads : Int32) (M_size : Int32) (M_rows : Int32) (M_nextRows : Int32) (M_first : Nat → Int32) (M_second : Nat → Int32) (M_number : Nat → Int32) (M_lists : Nat → Int32) (M_square : Nat → Int32) (M_fan : Nat → Int32) (M_trial_0 : Nat → Int32) (M_touching_0 : Nat → Int32) (M_having_0 : Nat → Int32) (M_most_0 : Nat → Int32) (M_only : Nat → Int32) (M_can : Nat → Int32) (M_next : Nat → Int32) (a1 : Int32) (out : Int64 × (Nat → Int32) × (Nat → Int32) × (Nat → Int32) × (Nat → Int32)) (hf : FX8_count M_roads M_first M_second M_trial_0 M_touching_0 M_having_0 M_most_0 a1 = some out) : ML l yX8_count (Cond.code yX8_count cX8_count 8 (some .long) :: GW) { frames := 3, cells := 0, slots := 0, locals := 66 } D cI cJ cZ [.ref m0, .int a1] (wM cI cJ cZ m0 m1 m2 m3 m4 m5 m6 m7 m8 m9 m10 m11 m12 m13 M_posts M_roads M_size M_rows M_nextRows M_first M_second M_number M_lists M_square M_fan M_trial_0 M_touching_0 M_having_0 M_most_0 M_only M_can M_next) (fun r (_ : Unit) => r = out.1) (fun _ => (wM cI cJ cZ m0 m1 m2 m3 m4 m5 m6 m7 m8 m9 m10 m11 m12 m13 M_posts M_roads M_size M_rows M_nextRows M_first M_second M_number M_lists M_square M_fan out.2.1 out.2.2.1 out.2.2.2.1 out.2.2.2.2 M_only M_can M_next)) := by
  intro sz
  refine Met.ofW (cc := cX8_count) (maxL := 8) (ret := (some .long)) (by decide +kernel) rfl ?_
  intro p e s m args below meth c s₁ B hml hv
  obtain ⟨rfl, hsz, hP, hK, hD0⟩ := hv
  have hx := B.exec
  have hb := B.bytes
  have hr := B.returns
  have hlocks := B.notSynchronized
  have hg : ∀ w ∈ GW, w.before _ s = true := fun w h => atoms_spec (ws := Cond.code yX8_count cX8_count 8 (some .long) :: GW) B.pre w (List.mem_cons_of_mem _ h)
  have hown : s.vm.findClass RX8 = some m.cls := findClass_of_methodNamed B.named
  subst hsz
  obtain ⟨A, hAe⟩ : ∃ A, A = va_A (wM cI cJ cZ m0 m1 m2 m3 m4 m5 m6 m7 m8 m9 m10 m11 m12 m13 M_posts M_roads M_size M_rows M_nextRows M_first M_second M_number M_lists M_square M_fan M_trial_0 M_touching_0 M_having_0 M_most_0 M_only M_can M_next) s.heap.size := ⟨_, rfl⟩
  have hA : ∀ q : Nat, s.heap.size ≤ q → A q := fun q h => by rw [hAe]; exact Or.inr h
  have hI : WI D A s.heap (wM cI cJ cZ m0 m1 m2 m3 m4 m5 m6 m7 m8 m9 m10 m11 m12 m13 M_posts M_roads M_size M_rows M_nextRows M_first M_second M_number M_lists M_square M_fan M_trial_0 M_touching_0 M_having_0 M_most_0 M_only M_can M_next) s.heap [] := ⟨hP, by rw [hAe]; exact hD0.self, va_S.rf⟩
  have hl := lv_entry [.ref m0, .int a1] (n := 8) (Nat.le_of_ble_eq_true rfl)
  rw [lg_entry_eq]
  generalize (lg_sl [.ref m0, .int a1] ++ List.replicate (8 - (lg_sl [.ref m0, .int a1]).length) Slot.unset).toArray = ls at hl ⊢
  replace hl : lv_has ls 8 [(0, .ref m0), (1, .int a1)] := hl
  have L52 : ∀ (M_trial : Nat → Int32) (M_touching : Nat → Int32) (M_having : Nat → Int32) (M_most : Nat → Int32) (l1 : Int32) (l2 : Int64) (l4 : Int32), ∀ (v : Int64 × Int32) (x : ((Nat → Int32) × (Nat → Int32) × (Nat → Int32) × Int64 × Int32) ⊕ (Int64 × (Nat → Int32) × (Nat → Int32) × (Nat → Int32) × (Nat → Int32))), loopO (X8_count_L52 M_roads M_trial M_touching M_having M_most l1 l2 l4) v = some x → (fun z => Sum.elim (fun (v1 : (Nat → Int32) × (Nat → Int32) × (Nat → Int32) × Int64 × Int32) => ∀ (H : Heap) (locs : List Loc) (ls : Array Slot), WI D A s.heap (wM cI cJ cZ m0 m1 m2 m3 m4 m5 m6 m7 m8 m9 m10 m11 m12 m13 M_posts M_roads M_size M_rows M_nextRows M_first M_second M_number M_lists M_square M_fan v1.1 M_touching v1.2.1 v1.2.2.1 M_only M_can M_next) H locs → lv_has ls 8 [(0, .ref m0), (1, .int l1), (2, .long v1.2.2.2.1), (4, .int v1.2.2.2.2)] → GX8_count p l e s m below meth c D cI cJ cZ m0 m1 m2 m3 m4 m5 m6 m7 m8 m9 m10 m11 m12 m13 M_posts M_roads M_size M_rows M_nextRows M_first M_second M_number M_lists M_square M_fan M_trial_0 M_touching_0 M_having_0 M_most_0 M_only M_can M_next a1 out H locs (F0 m 32 ls [])) (fun z : Int64 × (Nat → Int32) × (Nat → Int32) × (Nat → Int32) × (Nat → Int32) => z = out) z) x → (fun (v : Int64 × Int32) => ∀ (H : Heap) (locs : List Loc) (ls : Array Slot), WI D A s.heap (wM cI cJ cZ m0 m1 m2 m3 m4 m5 m6 m7 m8 m9 m10 m11 m12 m13 M_posts M_roads M_size M_rows M_nextRows M_first M_second M_number M_lists M_square M_fan M_trial M_touching M_having M_most M_only M_can M_next) H locs → lv_has ls 8 [(0, .ref m0), (1, .int l1), (2, .long l2), (4, .int l4), (5, .long v.1), (7, .int v.2)] → GX8_count p l e s m below meth c D cI cJ cZ m0 m1 m2 m3 m4 m5 m6 m7 m8 m9 m10 m11 m12 m13 M_posts M_roads M_size M_rows M_nextRows M_first M_second M_number M_lists M_square M_fan M_trial_0 M_touching_0 M_having_0 M_most_0 M_only M_can M_next a1 out H locs (F0 m 52 ls [])) v := by
    intro M_trial M_touching M_having M_most l1 l2 l4
    refine loopO_ind (fun (v : Int64 × Int32) => ∀ (H : Heap) (locs : List Loc) (ls : Array Slot), WI D A s.heap (wM cI cJ cZ m0 m1 m2 m3 m4 m5 m6 m7 m8 m9 m10 m11 m12 m13 M_posts M_roads M_size M_rows M_nextRows M_first M_second M_number M_lists M_square M_fan M_trial M_touching M_having M_most M_only M_can M_next) H locs → lv_has ls 8 [(0, .ref m0), (1, .int l1), (2, .long l2), (4, .int l4), (5, .long v.1), (7, .int v.2)] → GX8_count p l e s m below meth c D cI cJ cZ m0 m1 m2 m3 m4 m5 m6 m7 m8 m9 m10 m11 m12 m13 M_posts M_roads M_size M_rows M_nextRows M_first M_second M_number M_lists M_square M_fan M_trial_0 M_touching_0 M_having_0 M_most_0 M_only M_can M_next a1 out H locs (F0 m 52 ls [])) (fun z => Sum.elim (fun (v1 : (Nat → Int32) × (Nat → Int32) × (Nat → Int32) × Int64 × Int32) => ∀ (H : Heap) (locs : List Loc) (ls : Array Slot), WI D A s.heap (wM cI cJ cZ m0 m1 m2 m3 m4 m5 m6 m7 m8 m9 m10 m11 m12 m13 M_posts M_roads M_size M_rows M_nextRows M_first M_second M_number M_lists M_square M_fan v1.1 M_touching v1.2.1 v1.2.2.1 M_only M_can M_next) H locs → lv_has ls 8 [(0, .ref m0), (1, .int l1), (2, .long v1.2.2.2.1), (4, .int v1.2.2.2.2)] → GX8_count p l e s m below meth c D cI cJ cZ m0 m1 m2 m3 m4 m5 m6 m7 m8 m9 m10 m11 m12 m13 M_posts M_roads M_size M_rows M_nextRows M_first M_second M_number M_lists M_square M_fan M_trial_0 M_touching_0 M_having_0 M_most_0 M_only M_can M_next a1 out H locs (F0 m 32 ls [])) (fun z : Int64 × (Nat → Int32) × (Nat → Int32) × (Nat → Int32) × (Nat → Int32) => z = out) z) ?_
    intro v x hf hM H locs ls hI hl
    refine lv_iload hx hb dX8_count_52 (lv_at hl 5 rfl) ?_
    refine lv_aload_n hx hb dX8_count_54 rfl (lv_at hl 0 rfl) ?_
    refine w_get hx hb hg hown hK hI iX8 0 rfl rfl 14 (by decide) wF_RX8_44 rfl dX8_count_55 ?_
    refine lv_iload hx hb dX8_count_58 (lv_at hl 3 rfl) ?_
    obtain ⟨hin, hf⟩ := rd_e hf
    refine w_iald hx hb hK hI 10 rfl hin dX8_count_60 (fun x6 ex6 => ?_)
    replace hf := hf x6 ex6
    refine lv_icmp_ge (tgt := 80) hx hb dX8_count_61 (by decide) (fun hc => ?_) (fun hc => ?_)
    · replace hf := ite_t hc hf
      refine lv_lload_n hx hb dX8_count_80 rfl (lv_at hl 2 rfl) ?_
      refine lv_lload hx hb dX8_count_81 (lv_at hl 4 rfl) ?_
      refine lv_ladd hx hb dX8_count_83 ?_
      refine lv_topl (fun x7 ex7 => ?_)
      replace hf := bnd_e hf x7 ex7
      refine lv_lstore_n (lv' := [(2, .long x7), (0, .ref m0), (1, .int l1), (4, .int l4), (5, .long v.1), (7, .int v.2)]) hx hb dX8_count_84 rfl hl (by decide) rfl (fun ls hl => ?_)
      obtain ⟨x8, ex8⟩ : ∃ y : Int32, y = (l4 + (-1 : Int32)) := ⟨_, rfl⟩
      replace hf := bnd_e hf x8 ex8
      refine lv_iinc (v := x8) (lv' := [(4, .int x8), (2, .long x7), (0, .ref m0), (1, .int l1), (5, .long v.1), (7, .int v.2)]) hx hb dX8_count_85 hl (k := 3) rfl (by rw [ex8]; rfl) (by decide) rfl (fun ls hl => ?_)
      refine lv_goto (tgt := 32) hx hb dX8_count_88 (by decide) ?_
      replace hf := Option.some.inj hf
      subst hf
      exact hM _ _ _ hI (lv_sub hl [2, 3, 1, 0] rfl)
    · replace hf := ite_f hc hf
      refine lv_lload hx hb dX8_count_64 (lv_at hl 4 rfl) ?_
      refine lv_iload_n hx hb dX8_count_66 rfl (lv_at hl 1 rfl) ?_
      refine lv_iload hx hb dX8_count_67 (lv_at hl 5 rfl) ?_
      refine lv_isub hx hb dX8_count_69 ?_
      refine lv_i2l hx hb dX8_count_70 rfl ?_
      refine lv_lmul hx hb dX8_count_71 ?_
      refine lv_topl (fun x9 ex9 => ?_)
      replace hf := bnd_e hf x9 ex9
      refine lv_lstore (lv' := [(5, .long x9), (0, .ref m0), (1, .int l1), (2, .long l2), (4, .int l4), (7, .int v.2)]) hx hb dX8_count_72 hl (by decide) rfl (fun ls hl => ?_)
      obtain ⟨x10, ex10⟩ : ∃ y : Int32, y = (v.2 + (1 : Int32)) := ⟨_, rfl⟩
      replace hf := bnd_e hf x10 ex10
      refine lv_iinc (v := x10) (lv' := [(7, .int x10), (5, .long x9), (0, .ref m0), (1, .int l1), (2, .long l2), (4, .int l4)]) hx hb dX8_count_74 hl (k := 5) rfl (by rw [ex10]; rfl) (by decide) rfl (fun ls hl => ?_)
      refine lv_goto (tgt := 52) hx hb dX8_count_77 (by decide) ?_
      replace hf := Option.some.inj hf
      subst hf
      exact hM _ _ _ hI (lv_sub hl [2, 3, 4, 5, 1, 0] rfl)
  have L32 : ∀ (M_touching : Nat → Int32) (l1 : Int32), ∀ (v : (Nat → Int32) × (Nat → Int32) × (Nat → Int32) × Int64 × Int32) (x : Int64 × (Nat → Int32) × (Nat → Int32) × (Nat → Int32) × (Nat → Int32)), loopO (X8_count_L32 M_roads M_touching l1) v = some x → (fun z : Int64 × (Nat → Int32) × (Nat → Int32) × (Nat → Int32) × (Nat → Int32) => z = out) x → (fun (v : (Nat → Int32) × (Nat → Int32) × (Nat → Int32) × Int64 × Int32) => ∀ (H : Heap) (locs : List Loc) (ls : Array Slot), WI D A s.heap (wM cI cJ cZ m0 m1 m2 m3 m4 m5 m6 m7 m8 m9 m10 m11 m12 m13 M_posts M_roads M_size M_rows M_nextRows M_first M_second M_number M_lists M_square M_fan v.1 M_touching v.2.1 v.2.2.1 M_only M_can M_next) H locs → lv_has ls 8 [(0, .ref m0), (1, .int l1), (2, .long v.2.2.2.1), (4, .int v.2.2.2.2)] → GX8_count p l e s m below meth c D cI cJ cZ m0 m1 m2 m3 m4 m5 m6 m7 m8 m9 m10 m11 m12 m13 M_posts M_roads M_size M_rows M_nextRows M_first M_second M_number M_lists M_square M_fan M_trial_0 M_touching_0 M_having_0 M_most_0 M_only M_can M_next a1 out H locs (F0 m 32 ls [])) v := by
    intro M_touching l1
    refine loopO_ind (fun (v : (Nat → Int32) × (Nat → Int32) × (Nat → Int32) × Int64 × Int32) => ∀ (H : Heap) (locs : List Loc) (ls : Array Slot), WI D A s.heap (wM cI cJ cZ m0 m1 m2 m3 m4 m5 m6 m7 m8 m9 m10 m11 m12 m13 M_posts M_roads M_size M_rows M_nextRows M_first M_second M_number M_lists M_square M_fan v.1 M_touching v.2.1 v.2.2.1 M_only M_can M_next) H locs → lv_has ls 8 [(0, .ref m0), (1, .int l1), (2, .long v.2.2.2.1), (4, .int v.2.2.2.2)] → GX8_count p l e s m below meth c D cI cJ cZ m0 m1 m2 m3 m4 m5 m6 m7 m8 m9 m10 m11 m12 m13 M_posts M_roads M_size M_rows M_nextRows M_first M_second M_number M_lists M_square M_fan M_trial_0 M_touching_0 M_having_0 M_most_0 M_only M_can M_next a1 out H locs (F0 m 32 ls [])) (fun z : Int64 × (Nat → Int32) × (Nat → Int32) × (Nat → Int32) × (Nat → Int32) => z = out) ?_
    intro v x hf hM H locs ls hI hl
    refine lv_iload hx hb dX8_count_32 (lv_at hl 3 rfl) ?_
    refine lv_if_lt (tgt := 113) hx hb dX8_count_34 (by decide) (fun hc => ?_) (fun hc => ?_)
    · replace hf := ite_t hc hf
      refine lv_lload_n hx hb dX8_count_113 rfl (lv_at hl 2 rfl) ?_
      replace hf := Option.some.inj hf
      subst hf
      replace hM : (v.2.2.2.1, v.1, M_touching, v.2.1, v.2.2.1) = out := hM
      subst hM
      exact rt_l (u := ()) hx hb hr hlocks hI hAe rfl dX8_count_114
    · replace hf := ite_f hc hf
      refine lv_iload hx hb dX8_count_37 (lv_at hl 3 rfl) ?_
      refine lv_aload_n hx hb dX8_count_39 rfl (lv_at hl 0 rfl) ?_
      refine w_get hx hb hg hown hK hI iX8 0 rfl rfl 1 (by decide) wF_RX8_57 rfl dX8_count_40 ?_
      refine lv_icmp_ne (tgt := 91) hx hb dX8_count_43 (by decide) (fun hc => ?_) (fun hc => ?_)
      · replace hf := ite_f hc hf
        refine lv_aload_n hx hb dX8_count_91 rfl (lv_at hl 0 rfl) ?_
        refine lv_iload hx hb dX8_count_92 (lv_at hl 3 rfl) ?_
        refine lv_iload_n hx hb dX8_count_94 rfl (lv_at hl 1 rfl) ?_
        obtain ⟨o3, ho3, hf⟩ := bd_e hf
        refine w_Vi0 (wc := (wM cI cJ cZ m0 m1 m2 m3 m4 m5 m6 m7 m8 m9 m10 m11 m12 m13 M_posts M_roads M_size M_rows M_nextRows M_first M_second M_number M_lists M_square M_fan v.1 M_touching v.2.1 v.2.2.1 M_only M_can M_next)) (wr := []) (rest := []) hx hb hml hg hown hK hA hI (kX8_goesOn l D cI cJ cZ m0 m1 m2 m3 m4 m5 m6 m7 m8 m9 m10 m11 m12 m13 M_posts M_roads M_size M_rows M_nextRows M_first M_second M_number M_lists M_square M_fan v.1 M_touching v.2.1 v.2.2.1 M_only M_can M_next v.2.2.2.2 l1 o3 ho3) kvX8_goesOn wL_RX8_139 ⟨Nat.le_of_ble_eq_true rfl, Nat.le_of_ble_eq_true rfl⟩ rfl rfl [0, 1, 2, 3, 4, 5, 6, 7, 8, 9, 10, 11, 12, 13] [] rfl rfl rfl rfl (by decide) rfl rfl hl.1 (Nat.le_of_ble_eq_true rfl) dX8_count_95 ⟨Nat.zero_le _, Nat.zero_le _⟩ ⟨rfl, rfl⟩ (fun r u H locs hp hI => ?_)
        replace hp : r = o3.1 := hp
        rw [hp]
        clear hp
        replace hI : WI D A s.heap (wM cI cJ cZ m0 m1 m2 m3 m4 m5 m6 m7 m8 m9 m10 m11 m12 m13 M_posts M_roads M_size M_rows M_nextRows M_first M_second M_number M_lists M_square M_fan o3.2.1 M_touching o3.2.2.1 o3.2.2.2 M_only M_can M_next) H locs := hI
        refine lv_if_eq (tgt := 107) hx hb dX8_count_98 (by decide) (fun hc => ?_) (fun hc => ?_)
        · replace hf := ite_t hc hf
          obtain ⟨x4, ex4⟩ : ∃ y : Int32, y = (v.2.2.2.2 + (-1 : Int32)) := ⟨_, rfl⟩
          replace hf := bnd_e hf x4 ex4
          refine lv_iinc (v := x4) (lv' := [(4, .int x4), (0, .ref m0), (1, .int l1), (2, .long v.2.2.2.1)]) hx hb dX8_count_107 hl (k := 3) rfl (by rw [ex4]; rfl) (by decide) rfl (fun ls hl => ?_)
          refine lv_goto (tgt := 32) hx hb dX8_count_110 (by decide) ?_
          replace hf := Option.some.inj hf
          subst hf
          exact hM _ _ _ hI (lv_sub hl [1, 2, 3, 0] rfl)
        · replace hf := ite_f hc hf
          obtain ⟨x5, ex5⟩ : ∃ y : Int32, y = (v.2.2.2.2 + (1 : Int32)) := ⟨_, rfl⟩
          replace hf := bnd_e hf x5 ex5
          refine lv_iinc (v := x5) (lv' := [(4, .int x5), (0, .ref m0), (1, .int l1), (2, .long v.2.2.2.1)]) hx hb dX8_count_101 hl (k := 3) rfl (by rw [ex5]; rfl) (by decide) rfl (fun ls hl => ?_)
          refine lv_goto (tgt := 32) hx hb dX8_count_104 (by decide) ?_
          replace hf := Option.some.inj hf
          subst hf
          exact hM _ _ _ hI (lv_sub hl [1, 2, 3, 0] rfl)
      · replace hf := ite_t hc hf
        refine lv_lconst (v := 1) hx hb dX8_count_46 (by decide) ?_
        refine lv_lstore (lv' := [(5, .long (1 : Int64)), (0, .ref m0), (1, .int l1), (2, .long v.2.2.2.1), (4, .int v.2.2.2.2)]) hx hb dX8_count_47 hl (by decide) rfl (fun ls hl => ?_)
        refine lv_iconst (v := 0) hx hb dX8_count_49 (by decide) ?_
        refine lv_istore (lv' := [(7, .int (0 : Int32)), (5, .long (1 : Int64)), (0, .ref m0), (1, .int l1), (2, .long v.2.2.2.1), (4, .int v.2.2.2.2)]) hx hb dX8_count_50 hl (by decide) rfl (fun ls hl => ?_)
        exact L52 v.1 M_touching v.2.1 v.2.2.1 l1 v.2.2.2.1 v.2.2.2.2 ((1 : Int64), (0 : Int32)) _ hf hM _ _ _ hI (lv_sub hl [2, 3, 4, 5, 1, 0] rfl)
  obtain ⟨x, hf, hM⟩ : ∃ x, FX8_count M_roads M_first M_second M_trial_0 M_touching_0 M_having_0 M_most_0 a1 = some x ∧ x = out := ⟨out, hf, rfl⟩
  refine lv_iload_n hx hb dX8_count_0 rfl (lv_at hl 1 rfl) ?_
  refine lv_iconst (v := 0) hx hb dX8_count_1 (by decide) ?_
  refine lv_bipush (v := 9) hx hb dX8_count_2 (by decide) ?_
  obtain ⟨x1, hx1, hf⟩ := bd_e hf
  refine w_S (rest := []) hx hb hml hg hown hK (kX8_in l D cI cJ cZ a1 (0 : Int32) (9 : Int32) x1 hx1) ksX8_in wL_RX8_60 ⟨Nat.le_of_ble_eq_true rfl, Nat.le_of_ble_eq_true rfl⟩ ⟨rfl, rfl⟩ rfl rfl hl.1 (Nat.le_of_ble_eq_true rfl) dX8_count_4 ⟨Nat.zero_le _, Nat.zero_le _⟩ ?_
  refine lv_if_eq (tgt := 19) hx hb dX8_count_7 (by decide) (fun hc => ?_) (fun hc => ?_)
  · replace hf := ite_t hc hf
    refine lv_ldc2 hx hb hown (hg _ wW_RX8_154) dX8_count_19 ?_
    replace hf := Option.some.inj hf
    subst hf
    replace hM : ((-2 : Int64), M_trial_0, M_touching_0, M_having_0, M_most_0) = out := hM
    subst hM
    exact rt_l (u := ()) hx hb hr hlocks hI hAe rfl dX8_count_22
  · replace hf := ite_f hc hf
    refine lv_aload_n hx hb dX8_count_10 rfl (lv_at hl 0 rfl) ?_
    refine w_get hx hb hg hown hK hI iX8 0 rfl rfl 1 (by decide) wF_RX8_57 rfl dX8_count_11 ?_
    refine lv_bipush (v := 12) hx hb dX8_count_14 (by decide) ?_
    refine lv_icmp_le (tgt := 23) hx hb dX8_count_16 (by decide) (fun hc => ?_) (fun hc => ?_)
    · replace hf := ite_t hc hf
      refine lv_aload_n hx hb dX8_count_23 rfl (lv_at hl 0 rfl) ?_
      obtain ⟨o2, ho2, hf⟩ := bd_e hf
      refine w_Vv0 (wc := (wM cI cJ cZ m0 m1 m2 m3 m4 m5 m6 m7 m8 m9 m10 m11 m12 m13 M_posts M_roads M_size M_rows M_nextRows M_first M_second M_number M_lists M_square M_fan M_trial_0 M_touching_0 M_having_0 M_most_0 M_only M_can M_next)) (wr := []) (rest := []) hx hb hml hg hown hK hA hI (kX8_lookAtRoads l D cI cJ cZ m0 m1 m2 m3 m4 m5 m6 m7 m8 m9 m10 m11 m12 m13 M_posts M_roads M_size M_rows M_nextRows M_first M_second M_number M_lists M_square M_fan M_trial_0 M_touching_0 M_having_0 M_most_0 M_only M_can M_next  o2 ho2) kvX8_lookAtRoads wL_RX8_136 ⟨Nat.le_of_ble_eq_true rfl, Nat.le_of_ble_eq_true rfl⟩ rfl rfl [0, 1, 2, 3, 4, 5, 6, 7, 8, 9, 10, 11, 12, 13] [] rfl rfl rfl rfl (by decide) rfl rfl hl.1 (Nat.le_of_ble_eq_true rfl) dX8_count_24 ⟨Nat.zero_le _, Nat.zero_le _⟩ ⟨rfl, rfl⟩ (fun  u H locs hp hI => ?_)
      replace hI : WI D A s.heap (wM cI cJ cZ m0 m1 m2 m3 m4 m5 m6 m7 m8 m9 m10 m11 m12 m13 M_posts M_roads M_size M_rows M_nextRows M_first M_second M_number M_lists M_square M_fan o2.1 o2.2.1 o2.2.2.1 o2.2.2.2 M_only M_can M_next) H locs := hI
      refine lv_lconst (v := 0) hx hb dX8_count_27 (by decide) ?_
      refine lv_lstore_n (lv' := [(2, .long (0 : Int64)), (0, .ref m0), (1, .int a1)]) hx hb dX8_count_28 rfl hl (by decide) rfl (fun ls hl => ?_)
      refine lv_iconst (v := 0) hx hb dX8_count_29 (by decide) ?_
      refine lv_istore (lv' := [(4, .int (0 : Int32)), (2, .long (0 : Int64)), (0, .ref m0), (1, .int a1)]) hx hb dX8_count_30 hl (by decide) rfl (fun ls hl => ?_)
      exact L32 o2.2.1 a1 (o2.1, o2.2.2.1, o2.2.2.2, (0 : Int64), (0 : Int32)) _ hf hM _ _ _ hI (lv_sub hl [2, 3, 1, 0] rfl)
    · replace hf := ite_f hc hf
      refine lv_ldc2 hx hb hown (hg _ wW_RX8_154) dX8_count_19 ?_
      replace hf := Option.some.inj hf
      subst hf
      replace hM : ((-2 : Int64), M_trial_0, M_touching_0, M_having_0, M_most_0) = out := hM
      subst hM
      exact rt_l (u := ()) hx hb hr hlocks hI hAe rfl dX8_count_22
