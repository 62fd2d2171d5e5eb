theorem Met.ofWF {l : Launch} {y : MethodName} {ws ws' : List Cond} {rm : Room} {Pc : Array Value → State → Prop} {Qc : Array Value → State → Outcome → State → Prop} {mc ms : Nat} {free : Addr → Prop} {cc : ByteArray} {maxL : Nat} {ret : Option FieldType}
    (hy : plainFor y = true) (hw : ws = Cond.code y cc maxL ret :: ws')
    (body : ∀ p e s m args below meth c s₁, BodyLoose p l y (headSpec ws rm) cc maxL ret e s m args below meth c s₁ → c.maxLocals = maxL → Pc args s →
      W p l e (headSpec ws rm).room s m args below meth c s.heap [] 0 0 (MQ below Qc args s mc ms free) (entryFrame m args maxL)) : Met l y ws rm Pc Qc mc ms free := by
  refine MetFree.of_bodySF (code := cc) (maxLocals := maxL) (ret := ret) hy ?_ ?_
  · intro args s m h hn
    obtain ⟨meth, c, h1, h2, h3, h4, h5, h6, -, -⟩ := Cond.code_spec hn (atoms_spec (ws := ws) h _ (by rw [hw]; exact List.mem_cons_self))
    exact ⟨meth, c, h1, h2, h3, h4, h5, h6⟩
  · intro p e s m args below meth c s₁ B hml hP _
    have hh0 : s₁.heap = s.heap := by rw [B.state]; rfl
    obtain ⟨t, a1, o, b1, b2, b3⟩ := body p e s m args below meth c s₁ B hml hP s₁ hh0 (Stand.of_body B)
    exact ⟨t, o, a1, b1, b2, ⟨b3.1, b3.2⟩⟩
theorem zb_e {β : Type} {v : Int32} {a : Option β} {r : β} (h : (if v = 0 ∨ v = 1 then a else none) = some r) : (v = 0 ∨ v = 1) ∧ a = some r := by
  split at h
  · rename_i hc; exact ⟨hc, h⟩
  · cases h
theorem zb_n {v : Int32} (h : v = 0 ∨ v = 1) : narrow .boolean (.int v) = .int v := by
  rcases h with rfl | rfl <;> decide
abbrev wN (cI cJ cZ : ClassId) (n0 n1 n2 n3 n4 n5 n6 : Nat) (N_postCount : Int32) (N_roadCount : Int32) (N_first : Nat → Int32) (N_second : Nat → Int32) (N_number : Nat → Int32) (N_allowed : Nat → Int32) (N_at : Nat → Int32) (N_beside : Nat → Int32) : va_W := [(n0, .inr (3, [.int N_postCount, .int N_roadCount, .ref n1, .ref n2, .ref n3, .ref n4, .ref n5, .ref n6])), (n1, .inl (cI, 24, .inl N_first)), (n2, .inl (cI, 24, .inl N_second)), (n3, .inl (cI, 24, .inl N_number)), (n4, .inl (cI, 24, .inl N_allowed)), (n5, .inl (cI, 12, .inl N_at)), (n6, .inl (cI, 24, .inl N_beside))]
abbrev wQ (cI cJ cZ : ClassId) (q0 q1 q2 q3 : Nat) (Q_side : Int32) (Q_height : Int32) (Q_cell : Nat → Int32) (Q_taken : Nat → Int32) (Q_ways : Nat → Int32) : va_W := [(q0, .inr (5, [.int Q_side, .int Q_height, .ref q1, .ref q2, .ref q3])), (q1, .inl (cI, 81, .inl Q_cell)), (q2, .inl (cI, 9, .inl Q_taken)), (q3, .inl (cI, 512, .inl Q_ways))]
abbrev wH (cI cJ cZ : ClassId) (h0 h1 n0 n1 n2 n3 n4 n5 n6 : Nat) (H_inside : Nat → Int32) (N_postCount : Int32) (N_roadCount : Int32) (N_first : Nat → Int32) (N_second : Nat → Int32) (N_number : Nat → Int32) (N_allowed : Nat → Int32) (N_at : Nat → Int32) (N_beside : Nat → Int32) : va_W := [(h0, .inr (2, [.ref n0, .ref h1])), (h1, .inl (cI, 4096, .inl H_inside)), (n0, .inr (3, [.int N_postCount, .int N_roadCount, .ref n1, .ref n2, .ref n3, .ref n4, .ref n5, .ref n6])), (n1, .inl (cI, 24, .inl N_first)), (n2, .inl (cI, 24, .inl N_second)), (n3, .inl (cI, 24, .inl N_number)), (n4, .inl (cI, 24, .inl N_allowed)), (n5, .inl (cI, 12, .inl N_at)), (n6, .inl (cI, 24, .inl N_beside))]
abbrev wP (cI cJ cZ : ClassId) (p0 p1 p2 p3 n0 n1 n2 n3 n4 n5 n6 : Nat) (P_can : Nat → Int32) (P_picked : Nat → Int32) (P_left : Nat → Int32) (N_postCount : Int32) (N_roadCount : Int32) (N_first : Nat → Int32) (N_second : Nat → Int32) (N_number : Nat → Int32) (N_allowed : Nat → Int32) (N_at : Nat → Int32) (N_beside : Nat → Int32) : va_W := [(p0, .inr (4, [.ref n0, .ref p1, .ref p2, .ref p3])), (p1, .inl (cI, 12, .inl P_can)), (p2, .inl (cI, 12, .inl P_picked)), (p3, .inl (cZ, 4096, .inl P_left)), (n0, .inr (3, [.int N_postCount, .int N_roadCount, .ref n1, .ref n2, .ref n3, .ref n4, .ref n5, .ref n6])), (n1, .inl (cI, 24, .inl N_first)), (n2, .inl (cI, 24, .inl N_second)), (n3, .inl (cI, 24, .inl N_number)), (n4, .inl (cI, 24, .inl N_allowed)), (n5, .inl (cI, 12, .inl N_at)), (n6, .inl (cI, 24, .inl N_beside))]
abbrev wT (cI cJ cZ : ClassId) (t0 t1 n0 n1 n2 n3 n4 n5 n6 : Nat) (T_ways : Nat → Int64) (N_postCount : Int32) (N_roadCount : Int32) (N_first : Nat → Int32) (N_second : Nat → Int32) (N_number : Nat → Int32) (N_allowed : Nat → Int32) (N_at : Nat → Int32) (N_beside : Nat → Int32) : va_W := [(t0, .inr (6, [.ref n0, .ref t1])), (t1, .inl (cJ, 4096, .inr (.inl T_ways))), (n0, .inr (3, [.int N_postCount, .int N_roadCount, .ref n1, .ref n2, .ref n3, .ref n4, .ref n5, .ref n6])), (n1, .inl (cI, 24, .inl N_first)), (n2, .inl (cI, 24, .inl N_second)), (n3, .inl (cI, 24, .inl N_number)), (n4, .inl (cI, 24, .inl N_allowed)), (n5, .inl (cI, 12, .inl N_at)), (n6, .inl (cI, 24, .inl N_beside))]
abbrev wF (cI cJ cZ : ClassId) (f0 f1 n0 n1 n2 n3 n4 n5 n6 : Nat) (F_hub : Int32) (F_size : Int32) (F_road : Nat → Int32) (N_postCount : Int32) (N_roadCount : Int32) (N_first : Nat → Int32) (N_second : Nat → Int32) (N_number : Nat → Int32) (N_allowed : Nat → Int32) (N_at : Nat → Int32) (N_beside : Nat → Int32) : va_W := [(f0, .inr (1, [.ref n0, .int F_hub, .ref f1, .int F_size])), (f1, .inl (cI, 24, .inl F_road)), (n0, .inr (3, [.int N_postCount, .int N_roadCount, .ref n1, .ref n2, .ref n3, .ref n4, .ref n5, .ref n6])), (n1, .inl (cI, 24, .inl N_first)), (n2, .inl (cI, 24, .inl N_second)), (n3, .inl (cI, 24, .inl N_number)), (n4, .inl (cI, 24, .inl N_allowed)), (n5, .inl (cI, 12, .inl N_at)), (n6, .inl (cI, 24, .inl N_beside))]
abbrev wE (cI cJ cZ : ClassId) (e0 e1 n0 n1 n2 n3 n4 n5 n6 : Nat) (E_limit : Int32) (E_counts : Nat → Int32) (N_postCount : Int32) (N_roadCount : Int32) (N_first : Nat → Int32) (N_second : Nat → Int32) (N_number : Nat → Int32) (N_allowed : Nat → Int32) (N_at : Nat → Int32) (N_beside : Nat → Int32) : va_W := [(e0, .inr (0, [.ref n0, .int E_limit, .ref e1])), (e1, .inl (cI, 16, .inl E_counts)), (n0, .inr (3, [.int N_postCount, .int N_roadCount, .ref n1, .ref n2, .ref n3, .ref n4, .ref n5, .ref n6])), (n1, .inl (cI, 24, .inl N_first)), (n2, .inl (cI, 24, .inl N_second)), (n3, .inl (cI, 24, .inl N_number)), (n4, .inl (cI, 24, .inl N_allowed)), (n5, .inl (cI, 12, .inl N_at)), (n6, .inl (cI, 24, .inl N_beside))]
abbrev wX (cI cJ cZ : ClassId) (x0 n0 n1 n2 n3 n4 n5 n6 q0 q1 q2 q3 : Nat) (v_heapsOfNet : Value) (v_pickerOfNet : Value) (v_tallyOfNet : Value) (N_postCount : Int32) (N_roadCount : Int32) (N_first : Nat → Int32) (N_second : Nat → Int32) (N_number : Nat → Int32) (N_allowed : Nat → Int32) (N_at : Nat → Int32) (N_beside : Nat → Int32) (Q_side : Int32) (Q_height : Int32) (Q_cell : Nat → Int32) (Q_taken : Nat → Int32) (Q_ways : Nat → Int32) : va_W := [(x0, .inr (7, [.ref n0, .ref q0, v_heapsOfNet, v_pickerOfNet, v_tallyOfNet])), (n0, .inr (3, [.int N_postCount, .int N_roadCount, .ref n1, .ref n2, .ref n3, .ref n4, .ref n5, .ref n6])), (n1, .inl (cI, 24, .inl N_first)), (n2, .inl (cI, 24, .inl N_second)), (n3, .inl (cI, 24, .inl N_number)), (n4, .inl (cI, 24, .inl N_allowed)), (n5, .inl (cI, 12, .inl N_at)), (n6, .inl (cI, 24, .inl N_beside)), (q0, .inr (5, [.int Q_side, .int Q_height, .ref q1, .ref q2, .ref q3])), (q1, .inl (cI, 81, .inl Q_cell)), (q2, .inl (cI, 9, .inl Q_taken)), (q3, .inl (cI, 512, .inl Q_ways))]
abbrev wM (cI cJ cZ : ClassId) (m0 m1 m2 m3 m4 m5 m6 m7 m8 m9 m10 m11 m12 m13 : Nat) (M_posts : Int32) (M_roads : Int32) (M_size : Int32) (M_rows : Int32) (M_nextRows : Int32) (M_first : Nat → Int32) (M_second : Nat → Int32) (M_number : Nat → Int32) (M_lists : Nat → Int32) (M_square : Nat → Int32) (M_fan : Nat → Int32) (M_trial : Nat → Int32) (M_touching : Nat → Int32) (M_having : Nat → Int32) (M_most : Nat → Int32) (M_only : Nat → Int32) (M_can : Nat → Int32) (M_next : Nat → Int32) : va_W := [(m0, .inr (8, [.int M_posts, .int M_roads, .ref m1, .ref m2, .ref m3, .ref m4, .int M_size, .int M_rows, .int M_nextRows, .ref m5, .ref m6, .ref m7, .ref m8, .ref m9, .ref m10, .ref m11, .ref m12, .ref m13])), (m1, .inl (cI, 24, .inl M_first)), (m2, .inl (cI, 24, .inl M_second)), (m3, .inl (cI, 24, .inl M_number)), (m4, .inl (cI, 24, .inl M_lists)), (m5, .inl (cI, 81, .inl M_square)), (m6, .inl (cI, 12, .inl M_fan)), (m7, .inl (cI, 24, .inl M_trial)), (m8, .inl (cI, 24, .inl M_touching)), (m9, .inl (cI, 24, .inl M_having)), (m10, .inl (cI, 25, .inl M_most)), (m11, .inl (cI, 24, .inl M_only)), (m12, .inl (cZ, 4352, .inl M_can)), (m13, .inl (cI, 9, .inl M_next))]
noncomputable def FJ6_bitCount_0f7a4  (a0 : Int32) : Option (Int32) :=
  bnd (a0 - ((((a0).toUInt32 >>> (((1 : Int32)).toUInt32 &&& Int32.toUInt32 31)).toInt32) &&& (1431655765 : Int32))) (fun x1 => bnd ((x1 &&& (858993459 : Int32)) + ((((x1).toUInt32 >>> (((2 : Int32)).toUInt32 &&& Int32.toUInt32 31)).toInt32) &&& (858993459 : Int32))) (fun x2 => bnd ((x2 + (((x2).toUInt32 >>> (((4 : Int32)).toUInt32 &&& Int32.toUInt32 31)).toInt32)) &&& (252645135 : Int32)) (fun x3 => bnd (x3 + (((x3).toUInt32 >>> (((8 : Int32)).toUInt32 &&& Int32.toUInt32 31)).toInt32)) (fun x4 => bnd (x4 + (((x4).toUInt32 >>> (((16 : Int32)).toUInt32 &&& Int32.toUInt32 31)).toInt32)) (fun x5 => some (x5 &&& (63 : Int32)))))))
abbrev GJ6_bitCount_0f7a4 (p : Program) (l : Launch) (e : Env) (s : State) (m : MethodId) (below : List Frame) (meth : Method) (c : Code) (a0 : Int32) (out : Int32) (H : Heap) (locs : List Loc) (g : JFrame) : Prop := W p l e (headSpec (Cond.code yJ6_bitCount_0f7a4 cJ6_bitCount_0f7a4 1 (some .int) :: GW) { frames := 0, cells := 0, slots := 0, locals := 0 }).room s m ([.int a0] : List Value).toArray below meth c H locs 0 0 (MQ below (vp_Si (fun r => r = out)) ([.int a0] : List Value).toArray s 0 0 (fun _ => False)) g
theorem ksJ6_bitCount_0f7a4 : CalS yJ6_bitCount_0f7a4 cJ6_bitCount_0f7a4 1 (some .int) 1 := ⟨wC_yJ6_bitCount_0f7a4, wT_yJ6_bitCount_0f7a4, wI_RJ6, by decide +kernel⟩
set_option maxHeartbeats 4000000 in
set_option maxRecDepth 100000 in
theorem kJ6_bitCount_0f7a4 (l : Launch) (D : va_G) (cI cJ cZ : ClassId) (a0 : Int32) (out : Int32) (hf : FJ6_bitCount_0f7a4 a0 = some out) : MSi l yJ6_bitCount_0f7a4 (Cond.code yJ6_bitCount_0f7a4 cJ6_bitCount_0f7a4 1 (some .int) :: GW) { frames := 0, cells := 0, slots := 0, locals := 0 } D cI cJ cZ [.int a0] out := by
  refine Met.ofW (cc := cJ6_bitCount_0f7a4) (maxL := 1) (ret := (some .int)) (by decide +kernel) rfl ?_
  intro p e s m args below meth c s₁ B hml hv
  obtain ⟨rfl, hK⟩ := hv
  have hx := B.exec
  have hb := B.bytes
  have hr := B.returns
  have hlocks := B.notSynchronized
  have hg : ∀ w ∈ GW, w.before _ s = true := fun w h => atoms_spec (ws := Cond.code yJ6_bitCount_0f7a4 cJ6_bitCount_0f7a4 1 (some .int) :: GW) B.pre w (List.mem_cons_of_mem _ h)
  have hown : s.vm.findClass RJ6 = some m.cls := findClass_of_methodNamed B.named
  have hl := lv_entry [.int a0] (n := 1) (Nat.le_of_ble_eq_true rfl)
  rw [lg_entry_eq]
  generalize (lg_sl [.int a0] ++ List.replicate (1 - (lg_sl [.int a0]).length) Slot.unset).toArray = ls at hl ⊢
  replace hl : lv_has ls 1 [(0, .int a0)] := hl
  obtain ⟨x, hf, hM⟩ : ∃ x, FJ6_bitCount_0f7a4 a0 = some x ∧ x = out := ⟨out, hf, rfl⟩
  refine lv_iload_n hx hb dJ6_bitCount_0f7a4_0 rfl (lv_at hl 0 rfl) ?_
  refine lv_iload_n hx hb dJ6_bitCount_0f7a4_1 rfl (lv_at hl 0 rfl) ?_
  refine lv_iconst (v := 1) hx hb dJ6_bitCount_0f7a4_2 (by decide) ?_
  refine lv_iushr hx hb dJ6_bitCount_0f7a4_3 rfl ?_
  refine lv_ldcw hx hb hown (hg _ wV_RJ6_265) dJ6_bitCount_0f7a4_4 ?_
  refine lv_iand hx hb dJ6_bitCount_0f7a4_7 ?_
  refine lv_isub hx hb dJ6_bitCount_0f7a4_8 ?_
  refine lv_topi (fun x1 ex1 => ?_)
  replace hf := bnd_e hf x1 ex1
  refine lv_istore_n (lv' := [(0, .int x1)]) hx hb dJ6_bitCount_0f7a4_9 rfl hl (by decide) rfl (fun ls hl => ?_)
  refine lv_iload_n hx hb dJ6_bitCount_0f7a4_10 rfl (lv_at hl 0 rfl) ?_
  refine lv_ldcw hx hb hown (hg _ wV_RJ6_266) dJ6_bitCount_0f7a4_11 ?_
  refine lv_iand hx hb dJ6_bitCount_0f7a4_14 ?_
  refine lv_iload_n hx hb dJ6_bitCount_0f7a4_15 rfl (lv_at hl 0 rfl) ?_
  refine lv_iconst (v := 2) hx hb dJ6_bitCount_0f7a4_16 (by decide) ?_
  refine lv_iushr hx hb dJ6_bitCount_0f7a4_17 rfl ?_
  refine lv_ldcw hx hb hown (hg _ wV_RJ6_266) dJ6_bitCount_0f7a4_18 ?_
  refine lv_iand hx hb dJ6_bitCount_0f7a4_21 ?_
  refine lv_iadd hx hb dJ6_bitCount_0f7a4_22 ?_
  refine lv_topi (fun x2 ex2 => ?_)
  replace hf := bnd_e hf x2 ex2
  refine lv_istore_n (lv' := [(0, .int x2)]) hx hb dJ6_bitCount_0f7a4_23 rfl hl (by decide) rfl (fun ls hl => ?_)
  refine lv_iload_n hx hb dJ6_bitCount_0f7a4_24 rfl (lv_at hl 0 rfl) ?_
  refine lv_iload_n hx hb dJ6_bitCount_0f7a4_25 rfl (lv_at hl 0 rfl) ?_
  refine lv_iconst (v := 4) hx hb dJ6_bitCount_0f7a4_26 (by decide) ?_
  refine lv_iushr hx hb dJ6_bitCount_0f7a4_27 rfl ?_
  refine lv_iadd hx hb dJ6_bitCount_0f7a4_28 ?_
  refine lv_ldcw hx hb hown (hg _ wV_RJ6_267) dJ6_bitCount_0f7a4_29 ?_
  refine lv_iand hx hb dJ6_bitCount_0f7a4_32 ?_
  refine lv_topi (fun x3 ex3 => ?_)
  replace hf := bnd_e hf x3 ex3
  refine lv_istore_n (lv' := [(0, .int x3)]) hx hb dJ6_bitCount_0f7a4_33 rfl hl (by decide) rfl (fun ls hl => ?_)
  refine lv_iload_n hx hb dJ6_bitCount_0f7a4_34 rfl (lv_at hl 0 rfl) ?_
  refine lv_iload_n hx hb dJ6_bitCount_0f7a4_35 rfl (lv_at hl 0 rfl) ?_
  refine lv_bipush (v := 8) hx hb dJ6_bitCount_0f7a4_36 (by decide) ?_
  refine lv_iushr hx hb dJ6_bitCount_0f7a4_38 rfl ?_
  refine lv_iadd hx hb dJ6_bitCount_0f7a4_39 ?_
  refine lv_topi (fun x4 ex4 => ?_)
  replace hf := bnd_e hf x4 ex4
  refine lv_istore_n (lv' := [(0, .int x4)]) hx hb dJ6_bitCount_0f7a4_40 rfl hl (by decide) rfl (fun ls hl => ?_)
  refine lv_iload_n hx hb dJ6_bitCount_0f7a4_41 rfl (lv_at hl 0 rfl) ?_
  refine lv_iload_n hx hb dJ6_bitCount_0f7a4_42 rfl (lv_at hl 0 rfl) ?_
  refine lv_bipush (v := 16) hx hb dJ6_bitCount_0f7a4_43 (by decide) ?_
  refine lv_iushr hx hb dJ6_bitCount_0f7a4_45 rfl ?_
  refine lv_iadd hx hb dJ6_bitCount_0f7a4_46 ?_
  refine lv_topi (fun x5 ex5 => ?_)
  replace hf := bnd_e hf x5 ex5
  refine lv_istore_n (lv' := [(0, .int x5)]) hx hb dJ6_bitCount_0f7a4_47 rfl hl (by decide) rfl (fun ls hl => ?_)
  refine lv_iload_n hx hb dJ6_bitCount_0f7a4_48 rfl (lv_at hl 0 rfl) ?_
  refine lv_bipush (v := 63) hx hb dJ6_bitCount_0f7a4_49 (by decide) ?_
  refine lv_iand hx hb dJ6_bitCount_0f7a4_51 ?_
  replace hf := Option.some.inj hf
  subst hf
  replace hM : (x5 &&& (63 : Int32)) = out := hM
  subst hM
  exact rt_s hx hb hr hlocks rfl rfl dJ6_bitCount_0f7a4_52
noncomputable def FX7_isIn  (a0 : Int32) (a1 : Int32) : Option (Int32) :=
  if ((a0 >>> (a1 &&& (31 : Int32))) &&& (1 : Int32)) = (0 : Int32) then (some (0 : Int32)) else (some (1 : Int32))
abbrev GX7_isIn (p : Program) (l : Launch) (e : Env) (s : State) (m : MethodId) (below : List Frame) (meth : Method) (c : Code) (a0 : Int32) (a1 : Int32) (out : Int32) (H : Heap) (locs : List Loc) (g : JFrame) : Prop := W p l e (headSpec (Cond.code yX7_isIn cX7_isIn 2 (some .boolean) :: GW) { frames := 0, cells := 0, slots := 0, locals := 0 }).room s m ([.int a0, .int a1] : List Value).toArray below meth c H locs 0 0 (MQ below (vp_Si (fun r => r = out)) ([.int a0, .int a1] : List Value).toArray s 0 0 (fun _ => False)) g
theorem ksX7_isIn : CalS yX7_isIn cX7_isIn 2 (some .boolean) 2 := ⟨wC_yX7_isIn, wT_yX7_isIn, wI_RX7, by decide +kernel⟩
set_option maxHeartbeats 4000000 in
set_option maxRecDepth 100000 in
theorem kX7_isIn (l : Launch) (D : va_G) (cI cJ cZ : ClassId) (a0 : Int32) (a1 : Int32) (out : Int32) (hf : FX7_isIn a0 a1 = some out) : MSi l yX7_isIn (Cond.code yX7_isIn cX7_isIn 2 (some .boolean) :: GW) { frames := 0, cells := 0, slots := 0, locals := 0 } D cI cJ cZ [.int a0, .int a1] out := by
  refine Met.ofW (cc := cX7_isIn) (maxL := 2) (ret := (some .boolean)) (by decide +kernel) rfl ?_
  intro p e s m args below meth c s₁ B hml hv
  obtain ⟨rfl, hK⟩ := hv
  have hx := B.exec
  have hb := B.bytes
  have hr := B.returns
  have hlocks := B.notSynchronized
  have hg : ∀ w ∈ GW, w.before _ s = true := fun w h => atoms_spec (ws := Cond.code yX7_isIn cX7_isIn 2 (some .boolean) :: GW) B.pre w (List.mem_cons_of_mem _ h)
  have hown : s.vm.findClass RX7 = some m.cls := findClass_of_methodNamed B.named
  have hl := lv_entry [.int a0, .int a1] (n := 2) (Nat.le_of_ble_eq_true rfl)
  rw [lg_entry_eq]
  generalize (lg_sl [.int a0, .int a1] ++ List.replicate (2 - (lg_sl [.int a0, .int a1]).length) Slot.unset).toArray = ls at hl ⊢
  replace hl : lv_has ls 2 [(0, .int a0), (1, .int a1)] := hl
  obtain ⟨x, hf, hM⟩ : ∃ x, FX7_isIn a0 a1 = some x ∧ x = out := ⟨out, hf, rfl⟩
  refine lv_iload_n hx hb dX7_isIn_0 rfl (lv_at hl 0 rfl) ?_
  refine lv_iload_n hx hb dX7_isIn_1 rfl (lv_at hl 1 rfl) ?_
  refine lv_ishr hx hb dX7_isIn_2 ?_
  refine lv_iconst (v := 1) hx hb dX7_isIn_3 (by decide) ?_
  refine lv_iand hx hb dX7_isIn_4 ?_
  refine lv_if_eq (tgt := 12) hx hb dX7_isIn_5 (by decide) (fun hc => ?_) (fun hc => ?_)
  · replace hf := ite_t hc hf
    refine lv_iconst (v := 0) hx hb dX7_isIn_12 (by decide) ?_
    replace hf := Option.some.inj hf
    subst hf
    replace hM : (0 : Int32) = out := hM
    subst hM
    exact rt_s hx hb hr hlocks (by decide) rfl dX7_isIn_13
  · replace hf := ite_f hc hf
    refine lv_iconst (v := 1) hx hb dX7_isIn_8 (by decide) ?_
    refine lv_goto (tgt := 13) hx hb dX7_isIn_9 (by decide) ?_
    replace hf := Option.some.inj hf
    subst hf
    replace hM : (1 : Int32) = out := hM
    subst hM
    exact rt_s hx hb hr hlocks (by decide) rfl dX7_isIn_13
noncomputable def X7_leastOutside_L2 (l0 : Int32) (v : Int32) : Option ((Int32) ⊕ (Int32)) :=
  if (16 : Int32) ≤ v then (some (.inr (16 : Int32))) else ((FX7_isIn l0 v).bind (fun x1 => if x1 = (0 : Int32) then (some (.inr v)) else (bnd (v + (1 : Int32)) (fun x2 => some (.inl x2)))))
noncomputable def FX7_leastOutside  (a0 : Int32) : Option (Int32) :=
  loopO (X7_leastOutside_L2 a0) (0 : Int32)
abbrev GX7_leastOutside (p : Program) (l : Launch) (e : Env) (s : State) (m : MethodId) (below : List Frame) (meth : Method) (c : Code) (a0 : Int32) (out : Int32) (H : Heap) (locs : List Loc) (g : JFrame) : Prop := W p l e (headSpec (Cond.code yX7_leastOutside cX7_leastOutside 2 (some .int) :: GW) { frames := 1, cells := 0, slots := 0, locals := 21 }).room s m ([.int a0] : List Value).toArray below meth c H locs 0 0 (MQ below (vp_Si (fun r => r = out)) ([.int a0] : List Value).toArray s 0 0 (fun _ => False)) g
theorem ksX7_leastOutside : CalS yX7_leastOutside cX7_leastOutside 2 (some .int) 1 := ⟨wC_yX7_leastOutside, wT_yX7_leastOutside, wI_RX7, by decide +kernel⟩
set_option maxHeartbeats 4000000 in
set_option maxRecDepth 100000 in
theorem kX7_leastOutside (l : Launch) (D : va_G) (cI cJ cZ : ClassId) (a0 : Int32) (out : Int32) (hf : FX7_leastOutside a0 = some out) : MSi l yX7_leastOutside (Cond.code yX7_leastOutside cX7_leastOutside 2 (some .int) :: GW) { frames := 1, cells := 0, slots := 0, locals := 21 } D cI cJ cZ [.int a0] out := by
  refine Met.ofW (cc := cX7_leastOutside) (maxL := 2) (ret := (some .int)) (by decide +kernel) rfl ?_
  intro p e s m args below meth c s₁ B hml hv
  obtain ⟨rfl, hK⟩ := hv
  have hx := B.exec
  have hb := B.bytes
  have hr := B.returns
  have hlocks := B.notSynchronized
  have hg : ∀ w ∈ GW, w.before _ s = true := fun w h => atoms_spec (ws := Cond.code yX7_leastOutside cX7_leastOutside 2 (some .int) :: GW) B.pre w (List.mem_cons_of_mem _ h)
  have hown : s.vm.findClass RX7 = some m.cls := findClass_of_methodNamed B.named
  have hl := lv_entry [.int a0] (n := 2) (Nat.le_of_ble_eq_true rfl)
  rw [lg_entry_eq]
  generalize (lg_sl [.int a0] ++ List.replicate (2 - (lg_sl [.int a0]).length) Slot.unset).toArray = ls at hl ⊢
  replace hl : lv_has ls 2 [(0, .int a0)] := hl
  have L2 : ∀ (l0 : Int32), ∀ (v : Int32) (x : Int32), loopO (X7_leastOutside_L2 l0) v = some x → (fun z : Int32 => z = out) x → (fun (v : Int32) => ∀ (ls : Array Slot), lv_has ls 2 [(0, .int l0), (1, .int v)] → GX7_leastOutside p l e s m below meth c a0 out s.heap [] (F0 m 2 ls [])) v := by
    intro l0
    refine loopO_ind (fun (v : Int32) => ∀ (ls : Array Slot), lv_has ls 2 [(0, .int l0), (1, .int v)] → GX7_leastOutside p l e s m below meth c a0 out s.heap [] (F0 m 2 ls [])) (fun z : Int32 => z = out) ?_
    intro v x hf hM ls hl
    refine lv_iload_n hx hb dX7_leastOutside_2 rfl (lv_at hl 1 rfl) ?_
    refine lv_bipush (v := 16) hx hb dX7_leastOutside_3 (by decide) ?_
    refine lv_icmp_ge (tgt := 24) hx hb dX7_leastOutside_5 (by decide) (fun hc => ?_) (fun hc => ?_)
    · replace hf := ite_t hc hf
      refine lv_bipush (v := 16) hx hb dX7_leastOutside_24 (by decide) ?_
      replace hf := Option.some.inj hf
      subst hf
      replace hM : (16 : Int32) = out := hM
      subst hM
      exact rt_s hx hb hr hlocks rfl rfl dX7_leastOutside_26
    · replace hf := ite_f hc hf
      refine lv_iload_n hx hb dX7_leastOutside_8 rfl (lv_at hl 0 rfl) ?_
      refine lv_iload_n hx hb dX7_leastOutside_9 rfl (lv_at hl 1 rfl) ?_
      obtain ⟨x1, hx1, hf⟩ := bd_e hf
      refine w_S (rest := []) hx hb hml hg hown hK (kX7_isIn l D cI cJ cZ l0 v x1 hx1) ksX7_isIn wL_RX7_232 ⟨Nat.le_of_ble_eq_true rfl, Nat.le_of_ble_eq_true rfl⟩ ⟨rfl, rfl⟩ rfl rfl hl.1 (Nat.le_of_ble_eq_true rfl) dX7_leastOutside_10 ⟨Nat.zero_le _, Nat.zero_le _⟩ ?_
      refine lv_if_ne (tgt := 18) hx hb dX7_leastOutside_13 (by decide) (fun hc => ?_) (fun hc => ?_)
      · replace hf := ite_f hc hf
        obtain ⟨x2, ex2⟩ : ∃ y : Int32, y = (v + (1 : Int32)) := ⟨_, rfl⟩
        replace hf := bnd_e hf x2 ex2
        refine lv_iinc (v := x2) (lv' := [(1, .int x2), (0, .int l0)]) hx hb dX7_leastOutside_18 hl (k := 1) rfl (by rw [ex2]; rfl) (by decide) rfl (fun ls hl => ?_)
        refine lv_goto (tgt := 2) hx hb dX7_leastOutside_21 (by decide) ?_
        replace hf := Option.some.inj hf
        subst hf
        exact hM _ (lv_sub hl [1, 0] rfl)
      · replace hf := ite_t hc hf
        refine lv_iload_n hx hb dX7_leastOutside_16 rfl (lv_at hl 1 rfl) ?_
        replace hf := Option.some.inj hf
        subst hf
        replace hM : v = out := hM
        subst hM
        exact rt_s hx hb hr hlocks rfl rfl dX7_leastOutside_17
  obtain ⟨x, hf, hM⟩ : ∃ x, FX7_leastOutside a0 = some x ∧ x = out := ⟨out, hf, rfl⟩
  refine lv_iconst (v := 0) hx hb dX7_leastOutside_0 (by decide) ?_
  refine lv_istore_n (lv' := [(1, .int (0 : Int32)), (0, .int a0)]) hx hb dX7_leastOutside_1 rfl hl (by decide) rfl (fun ls hl => ?_)
  exact L2 a0 (0 : Int32) _ hf hM _ (lv_sub hl [1, 0] rfl)
noncomputable def FX7_placeOf  (a0 : Int32) : Option (Int32) :=
  (FJ6_bitCount_0f7a4 (a0 - (1 : Int32))).bind (fun x1 => some x1)
abbrev GX7_placeOf (p : Program) (l : Launch) (e : Env) (s : State) (m : MethodId) (below : List Frame) (meth : Method) (c : Code) (a0 : Int32) (out : Int32) (H : Heap) (locs : List Loc) (g : JFrame) : Prop := W p l e (headSpec (Cond.code yX7_placeOf cX7_placeOf 1 (some .int) :: GW) { frames := 1, cells := 0, slots := 0, locals := 20 }).room s m ([.int a0] : List Value).toArray below meth c H locs 0 0 (MQ below (vp_Si (fun r => r = out)) ([.int a0] : List Value).toArray s 0 0 (fun _ => False)) g
theorem ksX7_placeOf : CalS yX7_placeOf cX7_placeOf 1 (some .int) 1 := ⟨wC_yX7_placeOf, wT_yX7_placeOf, wI_RX7, by decide +kernel⟩
set_option maxHeartbeats 4000000 in
set_option maxRecDepth 100000 in
theorem kX7_placeOf (l : Launch) (D : va_G) (cI cJ cZ : ClassId) (a0 : Int32) (out : Int32) (hf : FX7_placeOf a0 = some out) : MSi l yX7_placeOf (Cond.code yX7_placeOf cX7_placeOf 1 (some .int) :: GW) { frames := 1, cells := 0, slots := 0, locals := 20 } D cI cJ cZ [.int a0] out := by
  refine Met.ofW (cc := cX7_placeOf) (maxL := 1) (ret := (some .int)) (by decide +kernel) rfl ?_
  intro p e s m args below meth c s₁ B hml hv
  obtain ⟨rfl, hK⟩ := hv
  have hx := B.exec
  have hb := B.bytes
  have hr := B.returns
  have hlocks := B.notSynchronized
  have hg : ∀ w ∈ GW, w.before _ s = true := fun w h => atoms_spec (ws := Cond.code yX7_placeOf cX7_placeOf 1 (some .int) :: GW) B.pre w (List.mem_cons_of_mem _ h)
  have hown : s.vm.findClass RX7 = some m.cls := findClass_of_methodNamed B.named
  have hl := lv_entry [.int a0] (n := 1) (Nat.le_of_ble_eq_true rfl)
  rw [lg_entry_eq]
  generalize (lg_sl [.int a0] ++ List.replicate (1 - (lg_sl [.int a0]).length) Slot.unset).toArray = ls at hl ⊢
  replace hl : lv_has ls 1 [(0, .int a0)] := hl
  obtain ⟨x, hf, hM⟩ : ∃ x, FX7_placeOf a0 = some x ∧ x = out := ⟨out, hf, rfl⟩
  refine lv_iload_n hx hb dX7_placeOf_0 rfl (lv_at hl 0 rfl) ?_
  refine lv_iconst (v := 1) hx hb dX7_placeOf_1 (by decide) ?_
  refine lv_isub hx hb dX7_placeOf_2 ?_
  obtain ⟨x1, hx1, hf⟩ := bd_e hf
  refine w_S (rest := []) hx hb hml hg hown hK (kJ6_bitCount_0f7a4 l D cI cJ cZ (a0 - (1 : Int32)) x1 hx1) ksJ6_bitCount_0f7a4 wL_RX7_70 ⟨Nat.le_of_ble_eq_true rfl, Nat.le_of_ble_eq_true rfl⟩ ⟨rfl, rfl⟩ rfl rfl hl.1 (Nat.le_of_ble_eq_true rfl) dX7_placeOf_3 ⟨Nat.zero_le _, Nat.zero_le _⟩ ?_
  replace hf := Option.some.inj hf
  subst hf
  replace hM : x1 = out := hM
  subst hM
  exact rt_s hx hb hr hlocks rfl rfl dX7_placeOf_6
noncomputable def FX7_needFor  (a0 : Int32) (a1 : Int32) : Option (Int32) :=
  dv a1 (2 : Int32) (fun x1 => if x1 = (0 : Int32) then (some (0 : Int32)) else (dv ((a0 + x1) - (1 : Int32)) x1 (fun x2 => some x2)))
abbrev GX7_needFor (p : Program) (l : Launch) (e : Env) (s : State) (m : MethodId) (below : List Frame) (meth : Method) (c : Code) (a0 : Int32) (a1 : Int32) (out : Int32) (H : Heap) (locs : List Loc) (g : JFrame) : Prop := W p l e (headSpec (Cond.code yX7_needFor cX7_needFor 3 (some .int) :: GW) { frames := 0, cells := 0, slots := 0, locals := 0 }).room s m ([.int a0, .int a1] : List Value).toArray below meth c H locs 0 0 (MQ below (vp_Si (fun r => r = out)) ([.int a0, .int a1] : List Value).toArray s 0 0 (fun _ => False)) g
theorem ksX7_needFor : CalS yX7_needFor cX7_needFor 3 (some .int) 2 := ⟨wC_yX7_needFor, wT_yX7_needFor, wI_RX7, by decide +kernel⟩
set_option maxHeartbeats 4000000 in
set_option maxRecDepth 100000 in
theorem kX7_needFor (l : Launch) (D : va_G) (cI cJ cZ : ClassId) (a0 : Int32) (a1 : Int32) (out : Int32) (hf : FX7_needFor a0 a1 = some out) : MSi l yX7_needFor (Cond.code yX7_needFor cX7_needFor 3 (some .int) :: GW) { frames := 0, cells := 0, slots := 0, locals := 0 } D cI cJ cZ [.int a0, .int a1] out := by
  refine Met.ofW (cc := cX7_needFor) (maxL := 3) (ret := (some .int)) (by decide +kernel) rfl ?_
  intro p e s m args below meth c s₁ B hml hv
  obtain ⟨rfl, hK⟩ := hv
  have hx := B.exec
  have hb := B.bytes
  have hr := B.returns
  have hlocks := B.notSynchronized
  have hg : ∀ w ∈ GW, w.before _ s = true := fun w h => atoms_spec (ws := Cond.code yX7_needFor cX7_needFor 3 (some .int) :: GW) B.pre w (List.mem_cons_of_mem _ h)
  have hown : s.vm.findClass RX7 = some m.cls := findClass_of_methodNamed B.named
  have hl := lv_entry [.int a0, .int a1] (n := 3) (Nat.le_of_ble_eq_true rfl)
  rw [lg_entry_eq]
  generalize (lg_sl [.int a0, .int a1] ++ List.replicate (3 - (lg_sl [.int a0, .int a1]).length) Slot.unset).toArray = ls at hl ⊢
  replace hl : lv_has ls 3 [(0, .int a0), (1, .int a1)] := hl
  obtain ⟨x, hf, hM⟩ : ∃ x, FX7_needFor a0 a1 = some x ∧ x = out := ⟨out, hf, rfl⟩
  refine lv_iload_n hx hb dX7_needFor_0 rfl (lv_at hl 1 rfl) ?_
  refine lv_iconst (v := 2) hx hb dX7_needFor_1 (by decide) ?_
  obtain ⟨hne, hf⟩ := dv_e hf
  refine lv_idiv hx hb dX7_needFor_2 hne ?_
  refine lv_topi (fun x1 ex1 => ?_)
  replace hf := hf x1 ex1
  refine lv_istore_n (lv' := [(2, .int x1), (0, .int a0), (1, .int a1)]) hx hb dX7_needFor_3 rfl hl (by decide) rfl (fun ls hl => ?_)
  refine lv_iload_n hx hb dX7_needFor_4 rfl (lv_at hl 0 rfl) ?_
  refine lv_if_ne (tgt := 10) hx hb dX7_needFor_5 (by decide) (fun hc => ?_) (fun hc => ?_)
  · replace hf := ite_f hc hf
    refine lv_iload_n hx hb dX7_needFor_10 rfl (lv_at hl 1 rfl) ?_
    refine lv_iload_n hx hb dX7_needFor_11 rfl (lv_at hl 0 rfl) ?_
    refine lv_iadd hx hb dX7_needFor_12 ?_
    refine lv_iconst (v := 1) hx hb dX7_needFor_13 (by decide) ?_
    refine lv_isub hx hb dX7_needFor_14 ?_
    refine lv_iload_n hx hb dX7_needFor_15 rfl (lv_at hl 0 rfl) ?_
    obtain ⟨hne, hf⟩ := dv_e hf
    refine lv_idiv hx hb dX7_needFor_16 hne ?_
    refine lv_topi (fun x2 ex2 => ?_)
    replace hf := hf x2 ex2
    replace hf := Option.some.inj hf
    subst hf
    replace hM : x2 = out := hM
    subst hM
    exact rt_s hx hb hr hlocks rfl rfl dX7_needFor_17
  · replace hf := ite_t hc hf
    refine lv_iconst (v := 0) hx hb dX7_needFor_8 (by decide) ?_
    replace hf := Option.some.inj hf
    subst hf
    replace hM : (0 : Int32) = out := hM
    subst hM
    exact rt_s hx hb hr hlocks rfl rfl dX7_needFor_9
noncomputable def FX7_asBit  (a0 : Int32) : Option (Int32) :=
  if a0 = (0 : Int32) then (some (0 : Int32)) else (some (1 : Int32))
abbrev GX7_asBit (p : Program) (l : Launch) (e : Env) (s : State) (m : MethodId) (below : List Frame) (meth : Method) (c : Code) (a0 : Int32) (out : Int32) (H : Heap) (locs : List Loc) (g : JFrame) : Prop := W p l e (headSpec (Cond.code yX7_asBit cX7_asBit 1 (some .int) :: GW) { frames := 0, cells := 0, slots := 0, locals := 0 }).room s m ([.int a0] : List Value).toArray below meth c H locs 0 0 (MQ below (vp_Si (fun r => r = out)) ([.int a0] : List Value).toArray s 0 0 (fun _ => False)) g
theorem ksX7_asBit : CalS yX7_asBit cX7_asBit 1 (some .int) 1 := ⟨wC_yX7_asBit, wT_yX7_asBit, wI_RX7, by decide +kernel⟩
set_option maxHeartbeats 4000000 in
set_option maxRecDepth 100000 in
theorem kX7_asBit (l : Launch) (D : va_G) (cI cJ cZ : ClassId) (a0 : Int32) (out : Int32) (hf : FX7_asBit a0 = some out) : MSi l yX7_asBit (Cond.code yX7_asBit cX7_asBit 1 (some .int) :: GW) { frames := 0, cells := 0, slots := 0, locals := 0 } D cI cJ cZ [.int a0] out := by
  refine Met.ofW (cc := cX7_asBit) (maxL := 1) (ret := (some .int)) (by decide +kernel) rfl ?_
  intro p e s m args below meth c s₁ B hml hv
  obtain ⟨rfl, hK⟩ := hv
  have hx := B.exec
  have hb := B.bytes
  have hr := B.returns
  have hlocks := B.notSynchronized
  have hg : ∀ w ∈ GW, w.before _ s = true := fun w h => atoms_spec (ws := Cond.code yX7_asBit cX7_asBit 1 (some .int) :: GW) B.pre w (List.mem_cons_of_mem _ h)
  have hown : s.vm.findClass RX7 = some m.cls := findClass_of_methodNamed B.named
  have hl := lv_entry [.int a0] (n := 1) (Nat.le_of_ble_eq_true rfl)
  rw [lg_entry_eq]
  generalize (lg_sl [.int a0] ++ List.replicate (1 - (lg_sl [.int a0]).length) Slot.unset).toArray = ls at hl ⊢
  replace hl : lv_has ls 1 [(0, .int a0)] := hl
  obtain ⟨x, hf, hM⟩ : ∃ x, FX7_asBit a0 = some x ∧ x = out := ⟨out, hf, rfl⟩
  refine lv_iload_n hx hb dX7_asBit_0 rfl (lv_at hl 0 rfl) ?_
  refine lv_if_eq (tgt := 8) hx hb dX7_asBit_1 (by decide) (fun hc => ?_) (fun hc => ?_)
  · replace hf := ite_t hc hf
    refine lv_iconst (v := 0) hx hb dX7_asBit_8 (by decide) ?_
    replace hf := Option.some.inj hf
    subst hf
    replace hM : (0 : Int32) = out := hM
    subst hM
    exact rt_s hx hb hr hlocks rfl rfl dX7_asBit_9
  · replace hf := ite_f hc hf
    refine lv_iconst (v := 1) hx hb dX7_asBit_4 (by decide) ?_
    refine lv_goto (tgt := 9) hx hb dX7_asBit_5 (by decide) ?_
    replace hf := Option.some.inj hf
    subst hf
    replace hM : (1 : Int32) = out := hM
    subst hM
    exact rt_s hx hb hr hlocks rfl rfl dX7_asBit_9
noncomputable def FJ9_floorMod_7cf53  (a0 : Int32) (a1 : Int32) : Option (Int32) :=
  rm_ a0 a1 (fun x1 => if (0 : Int32) ≤ (a0 ^^^ a1) then (some x1) else (if x1 = (0 : Int32) then (some x1) else (some (x1 + a1))))
abbrev GJ9_floorMod_7cf53 (p : Program) (l : Launch) (e : Env) (s : State) (m : MethodId) (below : List Frame) (meth : Method) (c : Code) (a0 : Int32) (a1 : Int32) (out : Int32) (H : Heap) (locs : List Loc) (g : JFrame) : Prop := W p l e (headSpec (Cond.code yJ9_floorMod_7cf53 cJ9_floorMod_7cf53 3 (some .int) :: GW) { frames := 0, cells := 0, slots := 0, locals := 0 }).room s m ([.int a0, .int a1] : List Value).toArray below meth c H locs 0 0 (MQ below (vp_Si (fun r => r = out)) ([.int a0, .int a1] : List Value).toArray s 0 0 (fun _ => False)) g
theorem ksJ9_floorMod_7cf53 : CalS yJ9_floorMod_7cf53 cJ9_floorMod_7cf53 3 (some .int) 2 := ⟨wC_yJ9_floorMod_7cf53, wT_yJ9_floorMod_7cf53, wI_RJ9, by decide +kernel⟩
set_option maxHeartbeats 4000000 in
set_option maxRecDepth 100000 in
theorem kJ9_floorMod_7cf53 (l : Launch) (D : va_G) (cI cJ cZ : ClassId) (a0 : Int32) (a1 : Int32) (out : Int32) (hf : FJ9_floorMod_7cf53 a0 a1 = some out) : MSi l yJ9_floorMod_7cf53 (Cond.code yJ9_floorMod_7cf53 cJ9_floorMod_7cf53 3 (some .int) :: GW) { frames := 0, cells := 0, slots := 0, locals := 0 } D cI cJ cZ [.int a0, .int a1] out := by
  refine Met.ofWF (cc := cJ9_floorMod_7cf53) (maxL := 3) (ret := (some .int)) (by decide +kernel) rfl ?_
  intro p e s m args below meth c s₁ B hml hv
  obtain ⟨rfl, hK⟩ := hv
  have hx := B.exec
  have hb := B.bytes
  have hr := B.returns
  have hlocks := B.notSynchronized
  have hg : ∀ w ∈ GW, w.before _ s = true := fun w h => atoms_spec (ws := Cond.code yJ9_floorMod_7cf53 cJ9_floorMod_7cf53 3 (some .int) :: GW) B.pre w (List.mem_cons_of_mem _ h)
  have hown : s.vm.findClass RJ9 = some m.cls := findClass_of_methodNamed B.named
  have hl := lv_entry [.int a0, .int a1] (n := 3) (Nat.le_of_ble_eq_true rfl)
  rw [lg_entry_eq]
  generalize (lg_sl [.int a0, .int a1] ++ List.replicate (3 - (lg_sl [.int a0, .int a1]).length) Slot.unset).toArray = ls at hl ⊢
  replace hl : lv_has ls 3 [(0, .int a0), (1, .int a1)] := hl
  obtain ⟨x, hf, hM⟩ : ∃ x, FJ9_floorMod_7cf53 a0 a1 = some x ∧ x = out := ⟨out, hf, rfl⟩
  refine lv_iload_n hx hb dJ9_floorMod_7cf53_0 rfl (lv_at hl 0 rfl) ?_
  refine lv_iload_n hx hb dJ9_floorMod_7cf53_1 rfl (lv_at hl 1 rfl) ?_
  obtain ⟨hne, hf⟩ := rm_e hf
  refine lv_irem hx hb dJ9_floorMod_7cf53_2 hne ?_
  refine lv_topi (fun x1 ex1 => ?_)
  replace hf := hf x1 ex1
  refine lv_istore_n (lv' := [(2, .int x1), (0, .int a0), (1, .int a1)]) hx hb dJ9_floorMod_7cf53_3 rfl hl (by decide) rfl (fun ls hl => ?_)
  refine lv_iload_n hx hb dJ9_floorMod_7cf53_4 rfl (lv_at hl 1 rfl) ?_
  refine lv_iload_n hx hb dJ9_floorMod_7cf53_5 rfl (lv_at hl 2 rfl) ?_
  refine lv_ixor hx hb dJ9_floorMod_7cf53_6 ?_
  refine lv_if_ge (tgt := 18) hx hb dJ9_floorMod_7cf53_7 (by decide) (fun hc => ?_) (fun hc => ?_)
  · replace hf := ite_t hc hf
    refine lv_iload_n hx hb dJ9_floorMod_7cf53_18 rfl (lv_at hl 0 rfl) ?_
    replace hf := Option.some.inj hf
    subst hf
    replace hM : x1 = out := hM
    subst hM
    exact rt_s hx hb hr hlocks rfl rfl dJ9_floorMod_7cf53_19
  · replace hf := ite_f hc hf
    refine lv_iload_n hx hb dJ9_floorMod_7cf53_10 rfl (lv_at hl 0 rfl) ?_
    refine lv_if_eq (tgt := 18) hx hb dJ9_floorMod_7cf53_11 (by decide) (fun hc => ?_) (fun hc => ?_)
    · replace hf := ite_t hc hf
      refine lv_iload_n hx hb dJ9_floorMod_7cf53_18 rfl (lv_at hl 0 rfl) ?_
      replace hf := Option.some.inj hf
      subst hf
      replace hM : x1 = out := hM
      subst hM
      exact rt_s hx hb hr hlocks rfl rfl dJ9_floorMod_7cf53_19
    · replace hf := ite_f hc hf
      refine lv_iload_n hx hb dJ9_floorMod_7cf53_14 rfl (lv_at hl 0 rfl) ?_
      refine lv_iload_n hx hb dJ9_floorMod_7cf53_15 rfl (lv_at hl 2 rfl) ?_
      refine lv_iadd hx hb dJ9_floorMod_7cf53_16 ?_
      replace hf := Option.some.inj hf
      subst hf
      replace hM : (x1 + a1) = out := hM
      subst hM
      exact rt_s hx hb hr hlocks rfl rfl dJ9_floorMod_7cf53_17
