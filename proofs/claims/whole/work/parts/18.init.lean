theorem ky_eq {U : State} {cA cB : ClassId} {ty : FieldType} (hty : ty = .int ∨ ty = .long ∨ ty = .boolean) (h1 : va_RA U cA ty) (h2 : va_RA U cB ty) : cA = cB := by
  rcases hty with rfl | rfl | rfl <;> exact Option.some.inj (h1.symm.trans h2)
def MR {S : Type} (l : Launch) (y : MethodName) (ws : List Cond) (rm : Room) (D : va_G) (cI cJ cZ : ClassId) (av : List Value) (wc : va_W) (w1 : S → va_W) (ra : S → Nat) : Prop := ∀ sz, Met l y ws rm (PcW D cI cJ cZ av wc sz) (va_Qr (fun (_ : S) => True) (fun u a t => a = ra u ∧ BW D wc sz w1 u t) (va_A wc sz)) rm.cells rm.slots (va_A wc sz)
section WRAP2
variable {p : Program} {l : Launch} {e : Env} {R : Room} {s : State} {m : MethodId} {args : Array Value} {below : List Frame} {meth : Method} {c : Code} {H : Heap} {locs : List Loc} {cells slots : Nat} {Q : State → Prop}
variable {cc : ByteArray} {pc : Nat} {ls : Array Slot} {rest st0 : List Value} {D : va_G} {cI cJ cZ : ClassId} {A : Nat → Prop} {H0 : Heap} {W0 W1 wc wr : va_W} {a : Nat} {own ref C : String} {T : u_T} {N ci index : Nat} {fs : List Value} {v : Value}
variable {y : MethodName} {bytes : ByteArray} {maxL n nL : Nat} {ret : Option FieldType} {rm : Room} {As : List Value} {S : Type} {b : Nat}
theorem rt_r {w1 : S → va_W} {ra : S → Nat} {u : S} {rt : FieldType} (hx : p.tables.exec = Jvm.exec) (hb : c.code = cc) (hr : meth.sig.returnType = some rt) (hlocks : meth.locks = false) (hrt : ∃ n, rt = .object n) (hI : WI D A s.heap (w1 u) H locs) (hAe : A = va_A wc s.heap.size) (hp : a = ra u) (hdg : decode cc pc = .ok (.areturn, 1)) : W p l e R s m args below meth c H locs cells slots (MQ below (va_Qr (fun (_ : S) => True) (fun u a t => a = ra u ∧ BW D wc s.heap.size w1 u t) (va_A wc s.heap.size)) args s cells slots (va_A wc s.heap.size)) (F0 m pc ls [.ref a]) := by
  subst hAe
  exact W.aret hx hb hr (Or.inl hrt) (Or.inr ⟨a, rfl⟩) (fun t ht hW => ⟨⟨u, a, rfl, trivial, hp, by rw [ht]; exact hI.1, hI.2.1⟩, hI.2.2.F ht⟩) hI.2.2.2.2 hdg hlocks
theorem w_I {post : S → Prop} {w1 : S → va_W} (hx : p.tables.exec = Jvm.exec) (hb : c.code = cc) (hml : c.maxLocals = nL) (hg : ∀ w ∈ GW, w.before args s = true) (hown : s.vm.findClass own = some m.cls) (hK : KK D cI cJ cZ s) (hA : ∀ q, H0.size ≤ q → A q) (hI : WI D A H0 W0 H locs)
    (hM : MV l y (Cond.code y bytes maxL none :: GW) rm D cI cJ cZ (.ref b :: As) wc post w1) (cal : CalI y bytes maxL n) (hlink : Cond.methodLink own index y ∈ GW) (hR : rm.frames + 1 ≤ R.frames ∧ 8 + (maxL + 11) + rm.locals ≤ R.locals)
    (isC isR : List Nat) (hnC : va_nd isC = true) (hC : isC.map (fun i => W0[i]?) = wc.map some) (hR2 : isR.map (fun i => W0[i]?) = wr.map some) (hnR : va_nd isR = true) (hdis : ∀ i ∈ isR, i ∉ isC) (hst : st0 = As.reverse ++ .ref b :: rest) (hn : As.length = n) (hsz : ls.size = nL) (hroom : (rest.map fun v => v.category).sum ≤ 8) (hdg : decode cc pc = .ok (.invokespecial index, 3)) (hf : cells + rm.cells ≤ R.cells ∧ slots + rm.slots ≤ R.slots)
    (kk : ∀ (u : S) (H1 : Heap) (locs1 : List Loc), post u → WI D A H0 (wr ++ w1 u) H1 locs1 → W p l e R s m args below meth c H1 locs1 (cells + rm.cells) (slots + rm.slots) Q (F0 m (pc + 3) ls rest)) : W p l e R s m args below meth c H locs cells slots Q (F0 m pc ls st0) := by
  obtain ⟨hP, hD, hF⟩ := hI.cut hA isC hnC hC
  obtain ⟨c1, c2, c3, c4, c5⟩ := cal
  exact cl_v (va_runI ⟨hx, hb, hml, hown, hg⟩ (hM H.size) (cwI n hg (gw_good0 c1) rfl rfl rfl (hg _ c3) (hg _ hlink) (hg _ c2) c4 c5 hR) ⟨PcW.blind, pre_W hK hP hD rfl⟩ rfl hn hsz hst (lv_room hroom) hdg hf) hI hF isC isR hC hR2 hnR hdis kk
theorem w_Vr {w1 : S → va_W} {ra : S → Nat} (hx : p.tables.exec = Jvm.exec) (hb : c.code = cc) (hml : c.maxLocals = nL) (hg : ∀ w ∈ GW, w.before args s = true) (hown : s.vm.findClass own = some m.cls) (hK : KK D cI cJ cZ s) (hA : ∀ q, H0.size ≤ q → A q) (hI : WI D A H0 W0 H locs)
    (hM : MR l y (Cond.code y bytes maxL ret :: GW) rm D cI cJ cZ (.ref b :: As) wc w1 ra) (cal : CalV C y bytes maxL ret n) (hlink : Cond.methodLink own index y ∈ GW) (hR : rm.frames + 1 ≤ R.frames ∧ 8 + (maxL + 11) + rm.locals ≤ R.locals) (hcl : vwCl[ci]? = some (C, T, N)) (hrecv : wc[0]? = some (b, .inr (ci, fs)))
    (isC isR : List Nat) (hnC : va_nd isC = true) (hC : isC.map (fun i => W0[i]?) = wc.map some) (hR2 : isR.map (fun i => W0[i]?) = wr.map some) (hnR : va_nd isR = true) (hdis : ∀ i ∈ isR, i ∉ isC) (hst : st0 = As.reverse ++ .ref b :: rest) (hn : As.length = n) (hsz : ls.size = nL) (hroom : (rest.map fun v => v.category).sum ≤ 8) (hdg : decode cc pc = .ok (.invokevirtual index, 3)) (hf : cells + rm.cells ≤ R.cells ∧ slots + rm.slots ≤ R.slots)
    (kk : ∀ (u : S) (q : Nat) (H1 : Heap) (locs1 : List Loc), q = ra u → WI D A H0 (wr ++ w1 u) H1 locs1 → W p l e R s m args below meth c H1 locs1 (cells + rm.cells) (slots + rm.slots) Q (F0 m (pc + 3) ls (.ref q :: rest))) : W p l e R s m args below meth c H locs cells slots Q (F0 m pc ls st0) := by
  obtain ⟨hP, hD, hF⟩ := hI.cut hA isC hnC hC
  obtain ⟨c1, c2, c3, c4, c5⟩ := cal
  refine va_callr (va_runV ⟨hx, hb, hml, hown, hg⟩ (hM H.size) (cwV n hg (gw_goodL (xs := [Cond.methodLink own index y, Cond.instanceMethod y, Cond.selects C y y, Cond.initialized C]) (List.forall_mem_cons.mpr ⟨hlink, List.forall_mem_cons.mpr ⟨c2, List.forall_mem_cons.mpr ⟨c3, List.forall_mem_cons.mpr ⟨c4, fun _ h => absurd h List.not_mem_nil⟩⟩⟩⟩) c1) rfl rfl rfl c5 hR) ⟨PcW.blind, va_recv hK.1 hP hcl hrecv, pre_W hK hP hD rfl⟩ rfl hn hsz hst (lv_room hroom) hdg hf) hI.2.2 (fun q _ h => hF q h) hF (fun u q t H1 locs1 ht hvm hp hB hz hk hS => ?_)
  obtain ⟨hq, hP1, hD1⟩ := hB
  rw [ht] at hP1
  obtain ⟨hP2, hD2⟩ := va_join hI.1 hI.2.1 isC isR hC hR2 hnR hdis hk hF hP1 hD1
  exact kk u q H1 locs1 hq ⟨hP2, hD2, hS⟩
end WRAP2
theorem kiX3_init : CalI yX3_init cX3_init 1 0 := ⟨wC_yX3_init, wM_yX3_init, wI_RX3, rfl, by decide +kernel⟩
set_option maxHeartbeats 4000000 in
set_option maxRecDepth 100000 in
theorem kIX3_init (l : Launch) (D : va_G) (cI cJ cZ : ClassId) (n0 : Nat) : MV l yX3_init (Cond.code yX3_init cX3_init 1 none :: GW) { frames := 1, cells := 6, slots := 132, locals := 40 } D cI cJ cZ [.ref n0] [(n0, .inr (3, [.int (0 : Int32), .int (0 : Int32), .null, .null, .null, .null, .null, .null]))] (fun (_ : Nat × Nat × Nat × Nat × Nat × Nat) => True) (fun u => [(n0, .inr (3, [.int (0), .int (0), .ref u.1, .ref u.2.1, .ref u.2.2.1, .ref u.2.2.2.1, .ref u.2.2.2.2.1, .ref u.2.2.2.2.2])), (u.1, .inl (cI, 24, .inl (fun _ => 0))), (u.2.1, .inl (cI, 24, .inl (fun _ => 0))), (u.2.2.1, .inl (cI, 24, .inl (fun _ => 0))), (u.2.2.2.1, .inl (cI, 24, .inl (fun _ => 0))), (u.2.2.2.2.1, .inl (cI, 12, .inl (fun _ => 0))), (u.2.2.2.2.2, .inl (cI, 24, .inl (fun _ => 0)))]) := by
  intro sz
  refine Met.ofW (cc := cX3_init) (maxL := 1) (ret := none) (by decide +kernel) rfl ?_
  intro p e s m args below meth c s₁ B hml hv
  obtain ⟨rfl, hsz, hP, hK, hD0⟩ := hv
  have hx := B.exec
  have hb := B.bytes
  have hr := B.returns
  have hlocks := B.notSynchronized
  have hin : meth.name = "<init>" := (name_of_methodNamed B.named B.method).1
  have hg : ∀ w ∈ GW, w.before _ s = true := fun w h => atoms_spec (ws := Cond.code yX3_init cX3_init 1 none :: GW) B.pre w (List.mem_cons_of_mem _ h)
  have hown : s.vm.findClass RX3 = some m.cls := findClass_of_methodNamed B.named
  subst hsz
  obtain ⟨A, hAe⟩ : ∃ A, A = va_A [(n0, .inr (3, [.int (0 : Int32), .int (0 : Int32), .null, .null, .null, .null, .null, .null]))] s.heap.size := ⟨_, rfl⟩
  have hA : ∀ q : Nat, s.heap.size ≤ q → A q := fun q h => by rw [hAe]; exact Or.inr h
  have hI : WI D A s.heap [(n0, .inr (3, [.int (0 : Int32), .int (0 : Int32), .null, .null, .null, .null, .null, .null]))] s.heap [] := ⟨hP, by rw [hAe]; exact hD0.self, va_S.rf⟩
  have hl := lv_entry [.ref n0] (n := 1) (Nat.le_of_ble_eq_true rfl)
  rw [lg_entry_eq]
  generalize (lg_sl [.ref n0] ++ List.replicate (1 - (lg_sl [.ref n0]).length) Slot.unset).toArray = ls at hl ⊢
  replace hl : lv_has ls 1 [(0, .ref n0)] := hl
  refine lv_aload_n hx hb dX3_init_0 rfl (lv_at hl 0 rfl) ?_
  refine W.objInit hx hb hown (hg _ wL_RX3_3) (hg _ wM_objectInit) (hg _ wC_objectInit) rfl (by rw [hml]; exact hl.1) rfl dX3_init_1 (Nat.le_of_ble_eq_true rfl) (Nat.le_of_ble_eq_true rfl) ?_
  refine W.eq (g2 := F0 m 4 ls []) rfl ?_
  refine lv_aload_n hx hb dX3_init_4 rfl (lv_at hl 0 rfl) ?_
  refine lv_bipush (v := 24) hx hb dX3_init_5 (by decide) ?_
  refine va_newa (atype := .int) (ty := .int) (a0 := (24, .inl (fun _ => 0))) hx hb (hg _ wA_int) rfl hK.1 hI.1 hI.2.1 hI.2.2 hA (fun cA => rfl) (by decide) (by decide) (by decide) (Nat.le_of_ble_eq_true rfl) (Nat.le_of_ble_eq_true rfl) dX3_init_7 (fun b1 cA H hK9 hP hD hS => ?_)
  obtain rfl : cI = cA := ky_eq (ty := .int) (Or.inl rfl) (hK.1.2 0 _ rfl).2 (hK9.2 3 _ rfl).2
  replace hI : WI D A s.heap [(n0, .inr (3, [.int (0 : Int32), .int (0 : Int32), .null, .null, .null, .null, .null, .null])), (b1, .inl (cI, 24, .inl (fun _ => 0)))] H _ := ⟨hP, hD, hS⟩
  clear hP hD hS hK9
  refine w_putF (W1 := [(n0, .inr (3, [.int (0 : Int32), .int (0 : Int32), .ref b1, .null, .null, .null, .null, .null])), (b1, .inl (cI, 24, .inl (fun _ => 0)))]) hx hb hg hown hK hI iX3 tyX3 tyX3_ok nmX3 0 rfl rfl 2 (by decide) wF_RX3_9 rfl hin rfl (tyX3_ok 2 (by decide)) rfl rfl (Nat.le_of_ble_eq_true rfl) dX3_init_9 rfl (fun H locs hI => ?_)
  refine lv_aload_n hx hb dX3_init_12 rfl (lv_at hl 0 rfl) ?_
  refine lv_bipush (v := 24) hx hb dX3_init_13 (by decide) ?_
  refine va_newa (atype := .int) (ty := .int) (a0 := (24, .inl (fun _ => 0))) hx hb (hg _ wA_int) rfl hK.1 hI.1 hI.2.1 hI.2.2 hA (fun cA => rfl) (by decide) (by decide) (by decide) (Nat.le_of_ble_eq_true rfl) (Nat.le_of_ble_eq_true rfl) dX3_init_15 (fun b2 cA H hK9 hP hD hS => ?_)
  obtain rfl : cI = cA := ky_eq (ty := .int) (Or.inl rfl) (hK.1.2 0 _ rfl).2 (hK9.2 3 _ rfl).2
  replace hI : WI D A s.heap [(n0, .inr (3, [.int (0 : Int32), .int (0 : Int32), .ref b1, .null, .null, .null, .null, .null])), (b1, .inl (cI, 24, .inl (fun _ => 0))), (b2, .inl (cI, 24, .inl (fun _ => 0)))] H _ := ⟨hP, hD, hS⟩
  clear hP hD hS hK9
  refine w_putF (W1 := [(n0, .inr (3, [.int (0 : Int32), .int (0 : Int32), .ref b1, .ref b2, .null, .null, .null, .null])), (b1, .inl (cI, 24, .inl (fun _ => 0))), (b2, .inl (cI, 24, .inl (fun _ => 0)))]) hx hb hg hown hK hI iX3 tyX3 tyX3_ok nmX3 0 rfl rfl 3 (by decide) wF_RX3_15 rfl hin rfl (tyX3_ok 3 (by decide)) rfl rfl (Nat.le_of_ble_eq_true rfl) dX3_init_17 rfl (fun H locs hI => ?_)
  refine lv_aload_n hx hb dX3_init_20 rfl (lv_at hl 0 rfl) ?_
  refine lv_bipush (v := 24) hx hb dX3_init_21 (by decide) ?_
  refine va_newa (atype := .int) (ty := .int) (a0 := (24, .inl (fun _ => 0))) hx hb (hg _ wA_int) rfl hK.1 hI.1 hI.2.1 hI.2.2 hA (fun cA => rfl) (by decide) (by decide) (by decide) (Nat.le_of_ble_eq_true rfl) (Nat.le_of_ble_eq_true rfl) dX3_init_23 (fun b3 cA H hK9 hP hD hS => ?_)
  obtain rfl : cI = cA := ky_eq (ty := .int) (Or.inl rfl) (hK.1.2 0 _ rfl).2 (hK9.2 3 _ rfl).2
  replace hI : WI D A s.heap [(n0, .inr (3, [.int (0 : Int32), .int (0 : Int32), .ref b1, .ref b2, .null, .null, .null, .null])), (b1, .inl (cI, 24, .inl (fun _ => 0))), (b2, .inl (cI, 24, .inl (fun _ => 0))), (b3, .inl (cI, 24, .inl (fun _ => 0)))] H _ := ⟨hP, hD, hS⟩
  clear hP hD hS hK9
  refine w_putF (W1 := [(n0, .inr (3, [.int (0 : Int32), .int (0 : Int32), .ref b1, .ref b2, .ref b3, .null, .null, .null])), (b1, .inl (cI, 24, .inl (fun _ => 0))), (b2, .inl (cI, 24, .inl (fun _ => 0))), (b3, .inl (cI, 24, .inl (fun _ => 0)))]) hx hb hg hown hK hI iX3 tyX3 tyX3_ok nmX3 0 rfl rfl 4 (by decide) wF_RX3_18 rfl hin rfl (tyX3_ok 4 (by decide)) rfl rfl (Nat.le_of_ble_eq_true rfl) dX3_init_25 rfl (fun H locs hI => ?_)
  refine lv_aload_n hx hb dX3_init_28 rfl (lv_at hl 0 rfl) ?_
  refine lv_bipush (v := 24) hx hb dX3_init_29 (by decide) ?_
  refine va_newa (atype := .int) (ty := .int) (a0 := (24, .inl (fun _ => 0))) hx hb (hg _ wA_int) rfl hK.1 hI.1 hI.2.1 hI.2.2 hA (fun cA => rfl) (by decide) (by decide) (by decide) (Nat.le_of_ble_eq_true rfl) (Nat.le_of_ble_eq_true rfl) dX3_init_31 (fun b4 cA H hK9 hP hD hS => ?_)
  obtain rfl : cI = cA := ky_eq (ty := .int) (Or.inl rfl) (hK.1.2 0 _ rfl).2 (hK9.2 3 _ rfl).2
  replace hI : WI D A s.heap [(n0, .inr (3, [.int (0 : Int32), .int (0 : Int32), .ref b1, .ref b2, .ref b3, .null, .null, .null])), (b1, .inl (cI, 24, .inl (fun _ => 0))), (b2, .inl (cI, 24, .inl (fun _ => 0))), (b3, .inl (cI, 24, .inl (fun _ => 0))), (b4, .inl (cI, 24, .inl (fun _ => 0)))] H _ := ⟨hP, hD, hS⟩
  clear hP hD hS hK9
  refine w_putF (W1 := [(n0, .inr (3, [.int (0 : Int32), .int (0 : Int32), .ref b1, .ref b2, .ref b3, .ref b4, .null, .null])), (b1, .inl (cI, 24, .inl (fun _ => 0))), (b2, .inl (cI, 24, .inl (fun _ => 0))), (b3, .inl (cI, 24, .inl (fun _ => 0))), (b4, .inl (cI, 24, .inl (fun _ => 0)))]) hx hb hg hown hK hI iX3 tyX3 tyX3_ok nmX3 0 rfl rfl 5 (by decide) wF_RX3_21 rfl hin rfl (tyX3_ok 5 (by decide)) rfl rfl (Nat.le_of_ble_eq_true rfl) dX3_init_33 rfl (fun H locs hI => ?_)
  refine lv_aload_n hx hb dX3_init_36 rfl (lv_at hl 0 rfl) ?_
  refine lv_bipush (v := 12) hx hb dX3_init_37 (by decide) ?_
  refine va_newa (atype := .int) (ty := .int) (a0 := (12, .inl (fun _ => 0))) hx hb (hg _ wA_int) rfl hK.1 hI.1 hI.2.1 hI.2.2 hA (fun cA => rfl) (by decide) (by decide) (by decide) (Nat.le_of_ble_eq_true rfl) (Nat.le_of_ble_eq_true rfl) dX3_init_39 (fun b5 cA H hK9 hP hD hS => ?_)
  obtain rfl : cI = cA := ky_eq (ty := .int) (Or.inl rfl) (hK.1.2 0 _ rfl).2 (hK9.2 3 _ rfl).2
  replace hI : WI D A s.heap [(n0, .inr (3, [.int (0 : Int32), .int (0 : Int32), .ref b1, .ref b2, .ref b3, .ref b4, .null, .null])), (b1, .inl (cI, 24, .inl (fun _ => 0))), (b2, .inl (cI, 24, .inl (fun _ => 0))), (b3, .inl (cI, 24, .inl (fun _ => 0))), (b4, .inl (cI, 24, .inl (fun _ => 0))), (b5, .inl (cI, 12, .inl (fun _ => 0)))] H _ := ⟨hP, hD, hS⟩
  clear hP hD hS hK9
  refine w_putF (W1 := [(n0, .inr (3, [.int (0 : Int32), .int (0 : Int32), .ref b1, .ref b2, .ref b3, .ref b4, .ref b5, .null])), (b1, .inl (cI, 24, .inl (fun _ => 0))), (b2, .inl (cI, 24, .inl (fun _ => 0))), (b3, .inl (cI, 24, .inl (fun _ => 0))), (b4, .inl (cI, 24, .inl (fun _ => 0))), (b5, .inl (cI, 12, .inl (fun _ => 0)))]) hx hb hg hown hK hI iX3 tyX3 tyX3_ok nmX3 0 rfl rfl 6 (by decide) wF_RX3_24 rfl hin rfl (tyX3_ok 6 (by decide)) rfl rfl (Nat.le_of_ble_eq_true rfl) dX3_init_41 rfl (fun H locs hI => ?_)
  refine lv_aload_n hx hb dX3_init_44 rfl (lv_at hl 0 rfl) ?_
  refine lv_bipush (v := 24) hx hb dX3_init_45 (by decide) ?_
  refine va_newa (atype := .int) (ty := .int) (a0 := (24, .inl (fun _ => 0))) hx hb (hg _ wA_int) rfl hK.1 hI.1 hI.2.1 hI.2.2 hA (fun cA => rfl) (by decide) (by decide) (by decide) (Nat.le_of_ble_eq_true rfl) (Nat.le_of_ble_eq_true rfl) dX3_init_47 (fun b6 cA H hK9 hP hD hS => ?_)
  obtain rfl : cI = cA := ky_eq (ty := .int) (Or.inl rfl) (hK.1.2 0 _ rfl).2 (hK9.2 3 _ rfl).2
  replace hI : WI D A s.heap [(n0, .inr (3, [.int (0 : Int32), .int (0 : Int32), .ref b1, .ref b2, .ref b3, .ref b4, .ref b5, .null])), (b1, .inl (cI, 24, .inl (fun _ => 0))), (b2, .inl (cI, 24, .inl (fun _ => 0))), (b3, .inl (cI, 24, .inl (fun _ => 0))), (b4, .inl (cI, 24, .inl (fun _ => 0))), (b5, .inl (cI, 12, .inl (fun _ => 0))), (b6, .inl (cI, 24, .inl (fun _ => 0)))] H _ := ⟨hP, hD, hS⟩
  clear hP hD hS hK9
  refine w_putF (W1 := [(n0, .inr (3, [.int (0 : Int32), .int (0 : Int32), .ref b1, .ref b2, .ref b3, .ref b4, .ref b5, .ref b6])), (b1, .inl (cI, 24, .inl (fun _ => 0))), (b2, .inl (cI, 24, .inl (fun _ => 0))), (b3, .inl (cI, 24, .inl (fun _ => 0))), (b4, .inl (cI, 24, .inl (fun _ => 0))), (b5, .inl (cI, 12, .inl (fun _ => 0))), (b6, .inl (cI, 24, .inl (fun _ => 0)))]) hx hb hg hown hK hI iX3 tyX3 tyX3_ok nmX3 0 rfl rfl 7 (by decide) wF_RX3_27 rfl hin rfl (tyX3_ok 7 (by decide)) rfl rfl (Nat.le_of_ble_eq_true rfl) dX3_init_49 rfl (fun H locs hI => ?_)
  refine lv_aload_n hx hb dX3_init_52 rfl (lv_at hl 0 rfl) ?_
  refine lv_iconst (v := 0) hx hb dX3_init_53 (by decide) ?_
  refine w_put (W1 := [(n0, .inr (3, [.int (0 : Int32), .int (0 : Int32), .ref b1, .ref b2, .ref b3, .ref b4, .ref b5, .ref b6])), (b1, .inl (cI, 24, .inl (fun _ => 0))), (b2, .inl (cI, 24, .inl (fun _ => 0))), (b3, .inl (cI, 24, .inl (fun _ => 0))), (b4, .inl (cI, 24, .inl (fun _ => 0))), (b5, .inl (cI, 12, .inl (fun _ => 0))), (b6, .inl (cI, 24, .inl (fun _ => 0)))]) hx hb hg hown hK hI iX3 tyX3 tyX3_ok nmX3 0 rfl rfl 0 (by decide) wF_RX3_30 rfl (tyX3_ok 0 (by decide)) rfl rfl (Nat.le_of_ble_eq_true rfl) dX3_init_54 rfl (fun H locs hI => ?_)
  refine lv_aload_n hx hb dX3_init_57 rfl (lv_at hl 0 rfl) ?_
  refine lv_iconst (v := 0) hx hb dX3_init_58 (by decide) ?_
  refine w_put (W1 := [(n0, .inr (3, [.int (0 : Int32), .int (0 : Int32), .ref b1, .ref b2, .ref b3, .ref b4, .ref b5, .ref b6])), (b1, .inl (cI, 24, .inl (fun _ => 0))), (b2, .inl (cI, 24, .inl (fun _ => 0))), (b3, .inl (cI, 24, .inl (fun _ => 0))), (b4, .inl (cI, 24, .inl (fun _ => 0))), (b5, .inl (cI, 12, .inl (fun _ => 0))), (b6, .inl (cI, 24, .inl (fun _ => 0)))]) hx hb hg hown hK hI iX3 tyX3 tyX3_ok nmX3 0 rfl rfl 1 (by decide) wF_RX3_34 rfl (tyX3_ok 1 (by decide)) rfl rfl (Nat.le_of_ble_eq_true rfl) dX3_init_59 rfl (fun H locs hI => ?_)
  refine W.widen (k := 6) (n := 132) (Nat.le_of_ble_eq_true rfl) (Nat.le_of_ble_eq_true rfl) ?_
  replace hI := hI.perm (w2 := [(n0, .inr (3, [.int (0 : Int32), .int (0 : Int32), .ref b1, .ref b2, .ref b3, .ref b4, .ref b5, .ref b6])), (b1, .inl (cI, 24, .inl (fun _ => 0))), (b2, .inl (cI, 24, .inl (fun _ => 0))), (b3, .inl (cI, 24, .inl (fun _ => 0))), (b4, .inl (cI, 24, .inl (fun _ => 0))), (b5, .inl (cI, 12, .inl (fun _ => 0))), (b6, .inl (cI, 24, .inl (fun _ => 0)))]) [0, 1, 2, 3, 4, 5, 6] rfl rfl
  exact rt_v (u := (b1, b2, b3, b4, b5, b6)) hx hb hr hlocks hI hAe trivial dX3_init_62
theorem kiX5_init : CalI yX5_init cX5_init 1 0 := ⟨wC_yX5_init, wM_yX5_init, wI_RX5, rfl, by decide +kernel⟩
set_option maxHeartbeats 4000000 in
set_option maxRecDepth 100000 in
theorem kIX5_init (l : Launch) (D : va_G) (cI cJ cZ : ClassId) (q0 : Nat) : MV l yX5_init (Cond.code yX5_init cX5_init 1 none :: GW) { frames := 1, cells := 3, slots := 602, locals := 40 } D cI cJ cZ [.ref q0] [(q0, .inr (5, [.int (0 : Int32), .int (0 : Int32), .null, .null, .null]))] (fun (_ : Nat × Nat × Nat) => True) (fun u => [(q0, .inr (5, [.int (-1), .int (0), .ref u.1, .ref u.2.1, .ref u.2.2])), (u.1, .inl (cI, 81, .inl (fun _ => 0))), (u.2.1, .inl (cI, 9, .inl (fun _ => 0))), (u.2.2, .inl (cI, 512, .inl (fun _ => 0)))]) := by
  intro sz
  refine Met.ofW (cc := cX5_init) (maxL := 1) (ret := none) (by decide +kernel) rfl ?_
  intro p e s m args below meth c s₁ B hml hv
  obtain ⟨rfl, hsz, hP, hK, hD0⟩ := hv
  have hx := B.exec
  have hb := B.bytes
  have hr := B.returns
  have hlocks := B.notSynchronized
  have hin : meth.name = "<init>" := (name_of_methodNamed B.named B.method).1
  have hg : ∀ w ∈ GW, w.before _ s = true := fun w h => atoms_spec (ws := Cond.code yX5_init cX5_init 1 none :: GW) B.pre w (List.mem_cons_of_mem _ h)
  have hown : s.vm.findClass RX5 = some m.cls := findClass_of_methodNamed B.named
  subst hsz
  obtain ⟨A, hAe⟩ : ∃ A, A = va_A [(q0, .inr (5, [.int (0 : Int32), .int (0 : Int32), .null, .null, .null]))] s.heap.size := ⟨_, rfl⟩
  have hA : ∀ q : Nat, s.heap.size ≤ q → A q := fun q h => by rw [hAe]; exact Or.inr h
  have hI : WI D A s.heap [(q0, .inr (5, [.int (0 : Int32), .int (0 : Int32), .null, .null, .null]))] s.heap [] := ⟨hP, by rw [hAe]; exact hD0.self, va_S.rf⟩
  have hl := lv_entry [.ref q0] (n := 1) (Nat.le_of_ble_eq_true rfl)
  rw [lg_entry_eq]
  generalize (lg_sl [.ref q0] ++ List.replicate (1 - (lg_sl [.ref q0]).length) Slot.unset).toArray = ls at hl ⊢
  replace hl : lv_has ls 1 [(0, .ref q0)] := hl
  refine lv_aload_n hx hb dX5_init_0 rfl (lv_at hl 0 rfl) ?_
  refine W.objInit hx hb hown (hg _ wL_RX5_3) (hg _ wM_objectInit) (hg _ wC_objectInit) rfl (by rw [hml]; exact hl.1) rfl dX5_init_1 (Nat.le_of_ble_eq_true rfl) (Nat.le_of_ble_eq_true rfl) ?_
  refine W.eq (g2 := F0 m 4 ls []) rfl ?_
  refine lv_aload_n hx hb dX5_init_4 rfl (lv_at hl 0 rfl) ?_
  refine lv_bipush (v := 81) hx hb dX5_init_5 (by decide) ?_
  refine va_newa (atype := .int) (ty := .int) (a0 := (81, .inl (fun _ => 0))) hx hb (hg _ wA_int) rfl hK.1 hI.1 hI.2.1 hI.2.2 hA (fun cA => rfl) (by decide) (by decide) (by decide) (Nat.le_of_ble_eq_true rfl) (Nat.le_of_ble_eq_true rfl) dX5_init_7 (fun b1 cA H hK9 hP hD hS => ?_)
  obtain rfl : cI = cA := ky_eq (ty := .int) (Or.inl rfl) (hK.1.2 0 _ rfl).2 (hK9.2 3 _ rfl).2
  replace hI : WI D A s.heap [(q0, .inr (5, [.int (0 : Int32), .int (0 : Int32), .null, .null, .null])), (b1, .inl (cI, 81, .inl (fun _ => 0)))] H _ := ⟨hP, hD, hS⟩
  clear hP hD hS hK9
  refine w_putF (W1 := [(q0, .inr (5, [.int (0 : Int32), .int (0 : Int32), .ref b1, .null, .null])), (b1, .inl (cI, 81, .inl (fun _ => 0)))]) hx hb hg hown hK hI iX5 tyX5 tyX5_ok nmX5 0 rfl rfl 2 (by decide) wF_RX5_9 rfl hin rfl (tyX5_ok 2 (by decide)) rfl rfl (Nat.le_of_ble_eq_true rfl) dX5_init_9 rfl (fun H locs hI => ?_)
  refine lv_aload_n hx hb dX5_init_12 rfl (lv_at hl 0 rfl) ?_
  refine lv_bipush (v := 9) hx hb dX5_init_13 (by decide) ?_
  refine va_newa (atype := .int) (ty := .int) (a0 := (9, .inl (fun _ => 0))) hx hb (hg _ wA_int) rfl hK.1 hI.1 hI.2.1 hI.2.2 hA (fun cA => rfl) (by decide) (by decide) (by decide) (Nat.le_of_ble_eq_true rfl) (Nat.le_of_ble_eq_true rfl) dX5_init_15 (fun b2 cA H hK9 hP hD hS => ?_)
  obtain rfl : cI = cA := ky_eq (ty := .int) (Or.inl rfl) (hK.1.2 0 _ rfl).2 (hK9.2 3 _ rfl).2
  replace hI : WI D A s.heap [(q0, .inr (5, [.int (0 : Int32), .int (0 : Int32), .ref b1, .null, .null])), (b1, .inl (cI, 81, .inl (fun _ => 0))), (b2, .inl (cI, 9, .inl (fun _ => 0)))] H _ := ⟨hP, hD, hS⟩
  clear hP hD hS hK9
  refine w_putF (W1 := [(q0, .inr (5, [.int (0 : Int32), .int (0 : Int32), .ref b1, .ref b2, .null])), (b1, .inl (cI, 81, .inl (fun _ => 0))), (b2, .inl (cI, 9, .inl (fun _ => 0)))]) hx hb hg hown hK hI iX5 tyX5 tyX5_ok nmX5 0 rfl rfl 3 (by decide) wF_RX5_15 rfl hin rfl (tyX5_ok 3 (by decide)) rfl rfl (Nat.le_of_ble_eq_true rfl) dX5_init_17 rfl (fun H locs hI => ?_)
  refine lv_aload_n hx hb dX5_init_20 rfl (lv_at hl 0 rfl) ?_
  refine lv_sipush (v := 512) hx hb dX5_init_21 (by decide) ?_
  refine va_newa (atype := .int) (ty := .int) (a0 := (512, .inl (fun _ => 0))) hx hb (hg _ wA_int) rfl hK.1 hI.1 hI.2.1 hI.2.2 hA (fun cA => rfl) (by decide) (by decide) (by decide) (Nat.le_of_ble_eq_true rfl) (Nat.le_of_ble_eq_true rfl) dX5_init_24 (fun b3 cA H hK9 hP hD hS => ?_)
  obtain rfl : cI = cA := ky_eq (ty := .int) (Or.inl rfl) (hK.1.2 0 _ rfl).2 (hK9.2 3 _ rfl).2
  replace hI : WI D A s.heap [(q0, .inr (5, [.int (0 : Int32), .int (0 : Int32), .ref b1, .ref b2, .null])), (b1, .inl (cI, 81, .inl (fun _ => 0))), (b2, .inl (cI, 9, .inl (fun _ => 0))), (b3, .inl (cI, 512, .inl (fun _ => 0)))] H _ := ⟨hP, hD, hS⟩
  clear hP hD hS hK9
  refine w_putF (W1 := [(q0, .inr (5, [.int (0 : Int32), .int (0 : Int32), .ref b1, .ref b2, .ref b3])), (b1, .inl (cI, 81, .inl (fun _ => 0))), (b2, .inl (cI, 9, .inl (fun _ => 0))), (b3, .inl (cI, 512, .inl (fun _ => 0)))]) hx hb hg hown hK hI iX5 tyX5 tyX5_ok nmX5 0 rfl rfl 4 (by decide) wF_RX5_18 rfl hin rfl (tyX5_ok 4 (by decide)) rfl rfl (Nat.le_of_ble_eq_true rfl) dX5_init_26 rfl (fun H locs hI => ?_)
  refine lv_aload_n hx hb dX5_init_29 rfl (lv_at hl 0 rfl) ?_
  refine lv_iconst (v := -1) hx hb dX5_init_30 (by decide) ?_
  refine w_put (W1 := [(q0, .inr (5, [.int (-1 : Int32), .int (0 : Int32), .ref b1, .ref b2, .ref b3])), (b1, .inl (cI, 81, .inl (fun _ => 0))), (b2, .inl (cI, 9, .inl (fun _ => 0))), (b3, .inl (cI, 512, .inl (fun _ => 0)))]) hx hb hg hown hK hI iX5 tyX5 tyX5_ok nmX5 0 rfl rfl 0 (by decide) wF_RX5_21 rfl (tyX5_ok 0 (by decide)) rfl rfl (Nat.le_of_ble_eq_true rfl) dX5_init_31 rfl (fun H locs hI => ?_)
  refine lv_aload_n hx hb dX5_init_34 rfl (lv_at hl 0 rfl) ?_
  refine lv_iconst (v := 0) hx hb dX5_init_35 (by decide) ?_
  refine w_put (W1 := [(q0, .inr (5, [.int (-1 : Int32), .int (0 : Int32), .ref b1, .ref b2, .ref b3])), (b1, .inl (cI, 81, .inl (fun _ => 0))), (b2, .inl (cI, 9, .inl (fun _ => 0))), (b3, .inl (cI, 512, .inl (fun _ => 0)))]) hx hb hg hown hK hI iX5 tyX5 tyX5_ok nmX5 0 rfl rfl 1 (by decide) wF_RX5_25 rfl (tyX5_ok 1 (by decide)) rfl rfl (Nat.le_of_ble_eq_true rfl) dX5_init_36 rfl (fun H locs hI => ?_)
  refine W.widen (k := 3) (n := 602) (Nat.le_of_ble_eq_true rfl) (Nat.le_of_ble_eq_true rfl) ?_
  replace hI := hI.perm (w2 := [(q0, .inr (5, [.int (-1 : Int32), .int (0 : Int32), .ref b1, .ref b2, .ref b3])), (b1, .inl (cI, 81, .inl (fun _ => 0))), (b2, .inl (cI, 9, .inl (fun _ => 0))), (b3, .inl (cI, 512, .inl (fun _ => 0)))]) [0, 1, 2, 3] rfl rfl
  exact rt_v (u := (b1, b2, b3)) hx hb hr hlocks hI hAe trivial dX5_init_39
theorem kiX2_init : CalI yX2_init cX2_init 2 1 := ⟨wC_yX2_init, wM_yX2_init, wI_RX2, rfl, by decide +kernel⟩
set_option maxHeartbeats 4000000 in
set_option maxRecDepth 100000 in
theorem kIX2_init (l : Launch) (D : va_G) (cI cJ cZ : ClassId) (h0 n0 : Nat) : MV l yX2_init (Cond.code yX2_init cX2_init 2 none :: GW) { frames := 1, cells := 1, slots := 4096, locals := 40 } D cI cJ cZ [.ref h0, .ref n0] [(h0, .inr (2, [.null, .null]))] (fun (_ : Nat) => True) (fun u => [(h0, .inr (2, [.ref n0, .ref u])), (u, .inl (cI, 4096, .inl (fun _ => 0)))]) := by
  intro sz
  refine Met.ofW (cc := cX2_init) (maxL := 2) (ret := none) (by decide +kernel) rfl ?_
  intro p e s m args below meth c s₁ B hml hv
  obtain ⟨rfl, hsz, hP, hK, hD0⟩ := hv
  have hx := B.exec
  have hb := B.bytes
  have hr := B.returns
  have hlocks := B.notSynchronized
  have hin : meth.name = "<init>" := (name_of_methodNamed B.named B.method).1
  have hg : ∀ w ∈ GW, w.before _ s = true := fun w h => atoms_spec (ws := Cond.code yX2_init cX2_init 2 none :: GW) B.pre w (List.mem_cons_of_mem _ h)
  have hown : s.vm.findClass RX2 = some m.cls := findClass_of_methodNamed B.named
  subst hsz
  obtain ⟨A, hAe⟩ : ∃ A, A = va_A [(h0, .inr (2, [.null, .null]))] s.heap.size := ⟨_, rfl⟩
  have hA : ∀ q : Nat, s.heap.size ≤ q → A q := fun q h => by rw [hAe]; exact Or.inr h
  have hI : WI D A s.heap [(h0, .inr (2, [.null, .null]))] s.heap [] := ⟨hP, by rw [hAe]; exact hD0.self, va_S.rf⟩
  have hl := lv_entry [.ref h0, .ref n0] (n := 2) (Nat.le_of_ble_eq_true rfl)
  rw [lg_entry_eq]
  generalize (lg_sl [.ref h0, .ref n0] ++ List.replicate (2 - (lg_sl [.ref h0, .ref n0]).length) Slot.unset).toArray = ls at hl ⊢
  replace hl : lv_has ls 2 [(0, .ref h0), (1, .ref n0)] := hl
  refine lv_aload_n hx hb dX2_init_0 rfl (lv_at hl 0 rfl) ?_
  refine W.objInit hx hb hown (hg _ wL_RX2_3) (hg _ wM_objectInit) (hg _ wC_objectInit) rfl (by rw [hml]; exact hl.1) rfl dX2_init_1 (Nat.le_of_ble_eq_true rfl) (Nat.le_of_ble_eq_true rfl) ?_
  refine W.eq (g2 := F0 m 4 ls []) rfl ?_
  refine lv_aload_n hx hb dX2_init_4 rfl (lv_at hl 0 rfl) ?_
  refine lv_sipush (v := 4096) hx hb dX2_init_5 (by decide) ?_
  refine va_newa (atype := .int) (ty := .int) (a0 := (4096, .inl (fun _ => 0))) hx hb (hg _ wA_int) rfl hK.1 hI.1 hI.2.1 hI.2.2 hA (fun cA => rfl) (by decide) (by decide) (by decide) (Nat.le_of_ble_eq_true rfl) (Nat.le_of_ble_eq_true rfl) dX2_init_8 (fun b1 cA H hK9 hP hD hS => ?_)
  obtain rfl : cI = cA := ky_eq (ty := .int) (Or.inl rfl) (hK.1.2 0 _ rfl).2 (hK9.2 3 _ rfl).2
  replace hI : WI D A s.heap [(h0, .inr (2, [.null, .null])), (b1, .inl (cI, 4096, .inl (fun _ => 0)))] H _ := ⟨hP, hD, hS⟩
  clear hP hD hS hK9
  refine w_putF (W1 := [(h0, .inr (2, [.null, .ref b1])), (b1, .inl (cI, 4096, .inl (fun _ => 0)))]) hx hb hg hown hK hI iX2 tyX2 tyX2_ok nmX2 0 rfl rfl 1 (by decide) wF_RX2_9 rfl hin rfl (tyX2_ok 1 (by decide)) rfl rfl (Nat.le_of_ble_eq_true rfl) dX2_init_10 rfl (fun H locs hI => ?_)
  refine lv_aload_n hx hb dX2_init_13 rfl (lv_at hl 0 rfl) ?_
  refine lv_aload_n hx hb dX2_init_14 rfl (lv_at hl 1 rfl) ?_
  refine w_putF (W1 := [(h0, .inr (2, [.ref n0, .ref b1])), (b1, .inl (cI, 4096, .inl (fun _ => 0)))]) hx hb hg hown hK hI iX2 tyX2 tyX2_ok nmX2 0 rfl rfl 0 (by decide) wF_RX2_15 rfl hin rfl (tyX2_ok 0 (by decide)) rfl rfl (Nat.le_of_ble_eq_true rfl) dX2_init_15 rfl (fun H locs hI => ?_)
  refine W.widen (k := 1) (n := 4096) (Nat.le_of_ble_eq_true rfl) (Nat.le_of_ble_eq_true rfl) ?_
  replace hI := hI.perm (w2 := [(h0, .inr (2, [.ref n0, .ref b1])), (b1, .inl (cI, 4096, .inl (fun _ => 0)))]) [0, 1] rfl rfl
  exact rt_v (u := b1) hx hb hr hlocks hI hAe trivial dX2_init_18
theorem kiX4_init : CalI yX4_init cX4_init 2 1 := ⟨wC_yX4_init, wM_yX4_init, wI_RX4, rfl, by decide +kernel⟩
set_option maxHeartbeats 4000000 in
set_option maxRecDepth 100000 in
theorem kIX4_init (l : Launch) (D : va_G) (cI cJ cZ : ClassId) (p0 n0 : Nat) : MV l yX4_init (Cond.code yX4_init cX4_init 2 none :: GW) { frames := 1, cells := 3, slots := 4120, locals := 40 } D cI cJ cZ [.ref p0, .ref n0] [(p0, .inr (4, [.null, .null, .null, .null]))] (fun (_ : Nat × Nat × Nat) => True) (fun u => [(p0, .inr (4, [.ref n0, .ref u.1, .ref u.2.1, .ref u.2.2])), (u.1, .inl (cI, 12, .inl (fun _ => 0))), (u.2.1, .inl (cI, 12, .inl (fun _ => 0))), (u.2.2, .inl (cZ, 4096, .inl (fun _ => 0)))]) := by
  intro sz
  refine Met.ofW (cc := cX4_init) (maxL := 2) (ret := none) (by decide +kernel) rfl ?_
  intro p e s m args below meth c s₁ B hml hv
  obtain ⟨rfl, hsz, hP, hK, hD0⟩ := hv
  have hx := B.exec
  have hb := B.bytes
  have hr := B.returns
  have hlocks := B.notSynchronized
  have hin : meth.name = "<init>" := (name_of_methodNamed B.named B.method).1
  have hg : ∀ w ∈ GW, w.before _ s = true := fun w h => atoms_spec (ws := Cond.code yX4_init cX4_init 2 none :: GW) B.pre w (List.mem_cons_of_mem _ h)
  have hown : s.vm.findClass RX4 = some m.cls := findClass_of_methodNamed B.named
  subst hsz
  obtain ⟨A, hAe⟩ : ∃ A, A = va_A [(p0, .inr (4, [.null, .null, .null, .null]))] s.heap.size := ⟨_, rfl⟩
  have hA : ∀ q : Nat, s.heap.size ≤ q → A q := fun q h => by rw [hAe]; exact Or.inr h
  have hI : WI D A s.heap [(p0, .inr (4, [.null, .null, .null, .null]))] s.heap [] := ⟨hP, by rw [hAe]; exact hD0.self, va_S.rf⟩
  have hl := lv_entry [.ref p0, .ref n0] (n := 2) (Nat.le_of_ble_eq_true rfl)
  rw [lg_entry_eq]
  generalize (lg_sl [.ref p0, .ref n0] ++ List.replicate (2 - (lg_sl [.ref p0, .ref n0]).length) Slot.unset).toArray = ls at hl ⊢
  replace hl : lv_has ls 2 [(0, .ref p0), (1, .ref n0)] := hl
  refine lv_aload_n hx hb dX4_init_0 rfl (lv_at hl 0 rfl) ?_
  refine W.objInit hx hb hown (hg _ wL_RX4_3) (hg _ wM_objectInit) (hg _ wC_objectInit) rfl (by rw [hml]; exact hl.1) rfl dX4_init_1 (Nat.le_of_ble_eq_true rfl) (Nat.le_of_ble_eq_true rfl) ?_
  refine W.eq (g2 := F0 m 4 ls []) rfl ?_
  refine lv_aload_n hx hb dX4_init_4 rfl (lv_at hl 0 rfl) ?_
  refine lv_bipush (v := 12) hx hb dX4_init_5 (by decide) ?_
  refine va_newa (atype := .int) (ty := .int) (a0 := (12, .inl (fun _ => 0))) hx hb (hg _ wA_int) rfl hK.1 hI.1 hI.2.1 hI.2.2 hA (fun cA => rfl) (by decide) (by decide) (by decide) (Nat.le_of_ble_eq_true rfl) (Nat.le_of_ble_eq_true rfl) dX4_init_7 (fun b1 cA H hK9 hP hD hS => ?_)
  obtain rfl : cI = cA := ky_eq (ty := .int) (Or.inl rfl) (hK.1.2 0 _ rfl).2 (hK9.2 3 _ rfl).2
  replace hI : WI D A s.heap [(p0, .inr (4, [.null, .null, .null, .null])), (b1, .inl (cI, 12, .inl (fun _ => 0)))] H _ := ⟨hP, hD, hS⟩
  clear hP hD hS hK9
  refine w_putF (W1 := [(p0, .inr (4, [.null, .ref b1, .null, .null])), (b1, .inl (cI, 12, .inl (fun _ => 0)))]) hx hb hg hown hK hI iX4 tyX4 tyX4_ok nmX4 0 rfl rfl 1 (by decide) wF_RX4_9 rfl hin rfl (tyX4_ok 1 (by decide)) rfl rfl (Nat.le_of_ble_eq_true rfl) dX4_init_9 rfl (fun H locs hI => ?_)
  refine lv_aload_n hx hb dX4_init_12 rfl (lv_at hl 0 rfl) ?_
  refine lv_bipush (v := 12) hx hb dX4_init_13 (by decide) ?_
  refine va_newa (atype := .int) (ty := .int) (a0 := (12, .inl (fun _ => 0))) hx hb (hg _ wA_int) rfl hK.1 hI.1 hI.2.1 hI.2.2 hA (fun cA => rfl) (by decide) (by decide) (by decide) (Nat.le_of_ble_eq_true rfl) (Nat.le_of_ble_eq_true rfl) dX4_init_15 (fun b2 cA H hK9 hP hD hS => ?_)
  obtain rfl : cI = cA := ky_eq (ty := .int) (Or.inl rfl) (hK.1.2 0 _ rfl).2 (hK9.2 3 _ rfl).2
  replace hI : WI D A s.heap [(p0, .inr (4, [.null, .ref b1, .null, .null])), (b1, .inl (cI, 12, .inl (fun _ => 0))), (b2, .inl (cI, 12, .inl (fun _ => 0)))] H _ := ⟨hP, hD, hS⟩
  clear hP hD hS hK9
  refine w_putF (W1 := [(p0, .inr (4, [.null, .ref b1, .ref b2, .null])), (b1, .inl (cI, 12, .inl (fun _ => 0))), (b2, .inl (cI, 12, .inl (fun _ => 0)))]) hx hb hg hown hK hI iX4 tyX4 tyX4_ok nmX4 0 rfl rfl 2 (by decide) wF_RX4_15 rfl hin rfl (tyX4_ok 2 (by decide)) rfl rfl (Nat.le_of_ble_eq_true rfl) dX4_init_17 rfl (fun H locs hI => ?_)
  refine lv_aload_n hx hb dX4_init_20 rfl (lv_at hl 0 rfl) ?_
  refine lv_sipush (v := 4096) hx hb dX4_init_21 (by decide) ?_
  refine va_newa (atype := .boolean) (ty := .boolean) (a0 := (4096, .inl (fun _ => 0))) hx hb (hg _ wA_boolean) rfl hK.1 hI.1 hI.2.1 hI.2.2 hA (fun cA => rfl) (by decide) (by decide) (by decide) (Nat.le_of_ble_eq_true rfl) (Nat.le_of_ble_eq_true rfl) dX4_init_24 (fun b3 cA H hK9 hP hD hS => ?_)
  obtain rfl : cZ = cA := ky_eq (ty := .boolean) (Or.inr (Or.inr rfl)) (hK.1.2 2 _ rfl).2 (hK9.2 3 _ rfl).2
  replace hI : WI D A s.heap [(p0, .inr (4, [.null, .ref b1, .ref b2, .null])), (b1, .inl (cI, 12, .inl (fun _ => 0))), (b2, .inl (cI, 12, .inl (fun _ => 0))), (b3, .inl (cZ, 4096, .inl (fun _ => 0)))] H _ := ⟨hP, hD, hS⟩
  clear hP hD hS hK9
  refine w_putF (W1 := [(p0, .inr (4, [.null, .ref b1, .ref b2, .ref b3])), (b1, .inl (cI, 12, .inl (fun _ => 0))), (b2, .inl (cI, 12, .inl (fun _ => 0))), (b3, .inl (cZ, 4096, .inl (fun _ => 0)))]) hx hb hg hown hK hI iX4 tyX4 tyX4_ok nmX4 0 rfl rfl 3 (by decide) wF_RX4_18 rfl hin rfl (tyX4_ok 3 (by decide)) rfl rfl (Nat.le_of_ble_eq_true rfl) dX4_init_26 rfl (fun H locs hI => ?_)
  refine lv_aload_n hx hb dX4_init_29 rfl (lv_at hl 0 rfl) ?_
  refine lv_aload_n hx hb dX4_init_30 rfl (lv_at hl 1 rfl) ?_
  refine w_putF (W1 := [(p0, .inr (4, [.ref n0, .ref b1, .ref b2, .ref b3])), (b1, .inl (cI, 12, .inl (fun _ => 0))), (b2, .inl (cI, 12, .inl (fun _ => 0))), (b3, .inl (cZ, 4096, .inl (fun _ => 0)))]) hx hb hg hown hK hI iX4 tyX4 tyX4_ok nmX4 0 rfl rfl 0 (by decide) wF_RX4_22 rfl hin rfl (tyX4_ok 0 (by decide)) rfl rfl (Nat.le_of_ble_eq_true rfl) dX4_init_31 rfl (fun H locs hI => ?_)
  refine W.widen (k := 3) (n := 4120) (Nat.le_of_ble_eq_true rfl) (Nat.le_of_ble_eq_true rfl) ?_
  replace hI := hI.perm (w2 := [(p0, .inr (4, [.ref n0, .ref b1, .ref b2, .ref b3])), (b1, .inl (cI, 12, .inl (fun _ => 0))), (b2, .inl (cI, 12, .inl (fun _ => 0))), (b3, .inl (cZ, 4096, .inl (fun _ => 0)))]) [0, 1, 2, 3] rfl rfl
  exact rt_v (u := (b1, b2, b3)) hx hb hr hlocks hI hAe trivial dX4_init_34
theorem kiX6_init : CalI yX6_init cX6_init 2 1 := ⟨wC_yX6_init, wM_yX6_init, wI_RX6, rfl, by decide +kernel⟩
set_option maxHeartbeats 4000000 in
set_option maxRecDepth 100000 in
theorem kIX6_init (l : Launch) (D : va_G) (cI cJ cZ : ClassId) (t0 n0 : Nat) : MV l yX6_init (Cond.code yX6_init cX6_init 2 none :: GW) { frames := 1, cells := 1, slots := 4096, locals := 40 } D cI cJ cZ [.ref t0, .ref n0] [(t0, .inr (6, [.null, .null]))] (fun (_ : Nat) => True) (fun u => [(t0, .inr (6, [.ref n0, .ref u])), (u, .inl (cJ, 4096, .inr (.inl (fun _ => 0))))]) := by
  intro sz
  refine Met.ofW (cc := cX6_init) (maxL := 2) (ret := none) (by decide +kernel) rfl ?_
  intro p e s m args below meth c s₁ B hml hv
  obtain ⟨rfl, hsz, hP, hK, hD0⟩ := hv
  have hx := B.exec
  have hb := B.bytes
  have hr := B.returns
  have hlocks := B.notSynchronized
  have hin : meth.name = "<init>" := (name_of_methodNamed B.named B.method).1
  have hg : ∀ w ∈ GW, w.before _ s = true := fun w h => atoms_spec (ws := Cond.code yX6_init cX6_init 2 none :: GW) B.pre w (List.mem_cons_of_mem _ h)
  have hown : s.vm.findClass RX6 = some m.cls := findClass_of_methodNamed B.named
  subst hsz
  obtain ⟨A, hAe⟩ : ∃ A, A = va_A [(t0, .inr (6, [.null, .null]))] s.heap.size := ⟨_, rfl⟩
  have hA : ∀ q : Nat, s.heap.size ≤ q → A q := fun q h => by rw [hAe]; exact Or.inr h
  have hI : WI D A s.heap [(t0, .inr (6, [.null, .null]))] s.heap [] := ⟨hP, by rw [hAe]; exact hD0.self, va_S.rf⟩
  have hl := lv_entry [.ref t0, .ref n0] (n := 2) (Nat.le_of_ble_eq_true rfl)
  rw [lg_entry_eq]
  generalize (lg_sl [.ref t0, .ref n0] ++ List.replicate (2 - (lg_sl [.ref t0, .ref n0]).length) Slot.unset).toArray = ls at hl ⊢
  replace hl : lv_has ls 2 [(0, .ref t0), (1, .ref n0)] := hl
  refine lv_aload_n hx hb dX6_init_0 rfl (lv_at hl 0 rfl) ?_
  refine W.objInit hx hb hown (hg _ wL_RX6_3) (hg _ wM_objectInit) (hg _ wC_objectInit) rfl (by rw [hml]; exact hl.1) rfl dX6_init_1 (Nat.le_of_ble_eq_true rfl) (Nat.le_of_ble_eq_true rfl) ?_
  refine W.eq (g2 := F0 m 4 ls []) rfl ?_
  refine lv_aload_n hx hb dX6_init_4 rfl (lv_at hl 0 rfl) ?_
  refine lv_sipush (v := 4096) hx hb dX6_init_5 (by decide) ?_
  refine va_newa (atype := .long) (ty := .long) (a0 := (4096, .inr (.inl (fun _ => 0)))) hx hb (hg _ wA_long) rfl hK.1 hI.1 hI.2.1 hI.2.2 hA (fun cA => rfl) (by decide) (by decide) (by decide) (Nat.le_of_ble_eq_true rfl) (Nat.le_of_ble_eq_true rfl) dX6_init_8 (fun b1 cA H hK9 hP hD hS => ?_)
  obtain rfl : cJ = cA := ky_eq (ty := .long) (Or.inr (Or.inl rfl)) (hK.1.2 1 _ rfl).2 (hK9.2 3 _ rfl).2
  replace hI : WI D A s.heap [(t0, .inr (6, [.null, .null])), (b1, .inl (cJ, 4096, .inr (.inl (fun _ => 0))))] H _ := ⟨hP, hD, hS⟩
  clear hP hD hS hK9
  refine w_putF (W1 := [(t0, .inr (6, [.null, .ref b1])), (b1, .inl (cJ, 4096, .inr (.inl (fun _ => 0))))]) hx hb hg hown hK hI iX6 tyX6 tyX6_ok nmX6 0 rfl rfl 1 (by decide) wF_RX6_9 rfl hin rfl (tyX6_ok 1 (by decide)) rfl rfl (Nat.le_of_ble_eq_true rfl) dX6_init_10 rfl (fun H locs hI => ?_)
  refine lv_aload_n hx hb dX6_init_13 rfl (lv_at hl 0 rfl) ?_
  refine lv_aload_n hx hb dX6_init_14 rfl (lv_at hl 1 rfl) ?_
  refine w_putF (W1 := [(t0, .inr (6, [.ref n0, .ref b1])), (b1, .inl (cJ, 4096, .inr (.inl (fun _ => 0))))]) hx hb hg hown hK hI iX6 tyX6 tyX6_ok nmX6 0 rfl rfl 0 (by decide) wF_RX6_15 rfl hin rfl (tyX6_ok 0 (by decide)) rfl rfl (Nat.le_of_ble_eq_true rfl) dX6_init_15 rfl (fun H locs hI => ?_)
  refine W.widen (k := 1) (n := 4096) (Nat.le_of_ble_eq_true rfl) (Nat.le_of_ble_eq_true rfl) ?_
  replace hI := hI.perm (w2 := [(t0, .inr (6, [.ref n0, .ref b1])), (b1, .inl (cJ, 4096, .inr (.inl (fun _ => 0))))]) [0, 1] rfl rfl
  exact rt_v (u := b1) hx hb hr hlocks hI hAe trivial dX6_init_18
theorem kiX1_init : CalI yX1_init cX1_init 3 2 := ⟨wC_yX1_init, wM_yX1_init, wI_RX1, rfl, by decide +kernel⟩
noncomputable def FX1_init (N_postCount : Int32) (N_roadCount : Int32) (N_first : Nat → Int32) (N_second : Nat → Int32) (N_number : Nat → Int32) (N_allowed : Nat → Int32) (N_at : Nat → Int32) (N_beside : Nat → Int32) (a2 : Int32) : Option (Int32 × (Nat → Int32) × Int32) :=
  rd N_first 24 a2 (fun x2 => wr (fun _ => 0) 24 (0 : Int32) a2 (fun g3 => some (x2, g3, (1 : Int32))))
set_option maxHeartbeats 4000000 in
set_option maxRecDepth 100000 in
theorem kIX1_init (l : Launch) (D : va_G) (cI cJ cZ : ClassId) (f0 n0 n1 n2 n3 n4 n5 n6 : Nat) (N_postCount : Int32) (N_roadCount : Int32) (N_first : Nat → Int32) (N_second : Nat → Int32) (N_number : Nat → Int32) (N_allowed : Nat → Int32) (N_at : Nat → Int32) (N_beside : Nat → Int32) (a2 : Int32) (out : Int32 × (Nat → Int32) × Int32) (hf : FX1_init N_postCount N_roadCount N_first N_second N_number N_allowed N_at N_beside a2 = some out) : MV l yX1_init (Cond.code yX1_init cX1_init 3 none :: GW) { frames := 1, cells := 1, slots := 24, locals := 40 } D cI cJ cZ [.ref f0, .ref n0, .int a2] [(f0, .inr (1, [.null, .int (0 : Int32), .null, .int (0 : Int32)])), (n0, .inr (3, [.int N_postCount, .int N_roadCount, .ref n1, .ref n2, .ref n3, .ref n4, .ref n5, .ref n6])), (n1, .inl (cI, 24, .inl N_first)), (n2, .inl (cI, 24, .inl N_second)), (n3, .inl (cI, 24, .inl N_number)), (n4, .inl (cI, 24, .inl N_allowed)), (n5, .inl (cI, 12, .inl N_at)), (n6, .inl (cI, 24, .inl N_beside))] (fun (_ : Nat) => True) (fun u => [(f0, .inr (1, [.ref n0, .int out.1, .ref u, .int out.2.2])), (u, .inl (cI, 24, .inl out.2.1)), (n0, .inr (3, [.int N_postCount, .int N_roadCount, .ref n1, .ref n2, .ref n3, .ref n4, .ref n5, .ref n6])), (n1, .inl (cI, 24, .inl N_first)), (n2, .inl (cI, 24, .inl N_second)), (n3, .inl (cI, 24, .inl N_number)), (n4, .inl (cI, 24, .inl N_allowed)), (n5, .inl (cI, 12, .inl N_at)), (n6, .inl (cI, 24, .inl N_beside))]) := by
  intro sz
  refine Met.ofW (cc := cX1_init) (maxL := 3) (ret := none) (by decide +kernel) rfl ?_
  intro p e s m args below meth c s₁ B hml hv
  obtain ⟨rfl, hsz, hP, hK, hD0⟩ := hv
  have hx := B.exec
  have hb := B.bytes
  have hr := B.returns
  have hlocks := B.notSynchronized
  have hin : meth.name = "<init>" := (name_of_methodNamed B.named B.method).1
  have hg : ∀ w ∈ GW, w.before _ s = true := fun w h => atoms_spec (ws := Cond.code yX1_init cX1_init 3 none :: GW) B.pre w (List.mem_cons_of_mem _ h)
  have hown : s.vm.findClass RX1 = some m.cls := findClass_of_methodNamed B.named
  subst hsz
  obtain ⟨A, hAe⟩ : ∃ A, A = va_A [(f0, .inr (1, [.null, .int (0 : Int32), .null, .int (0 : Int32)])), (n0, .inr (3, [.int N_postCount, .int N_roadCount, .ref n1, .ref n2, .ref n3, .ref n4, .ref n5, .ref n6])), (n1, .inl (cI, 24, .inl N_first)), (n2, .inl (cI, 24, .inl N_second)), (n3, .inl (cI, 24, .inl N_number)), (n4, .inl (cI, 24, .inl N_allowed)), (n5, .inl (cI, 12, .inl N_at)), (n6, .inl (cI, 24, .inl N_beside))] s.heap.size := ⟨_, rfl⟩
  have hA : ∀ q : Nat, s.heap.size ≤ q → A q := fun q h => by rw [hAe]; exact Or.inr h
  have hI : WI D A s.heap [(f0, .inr (1, [.null, .int (0 : Int32), .null, .int (0 : Int32)])), (n0, .inr (3, [.int N_postCount, .int N_roadCount, .ref n1, .ref n2, .ref n3, .ref n4, .ref n5, .ref n6])), (n1, .inl (cI, 24, .inl N_first)), (n2, .inl (cI, 24, .inl N_second)), (n3, .inl (cI, 24, .inl N_number)), (n4, .inl (cI, 24, .inl N_allowed)), (n5, .inl (cI, 12, .inl N_at)), (n6, .inl (cI, 24, .inl N_beside))] s.heap [] := ⟨hP, by rw [hAe]; exact hD0.self, va_S.rf⟩
  have hl := lv_entry [.ref f0, .ref n0, .int a2] (n := 3) (Nat.le_of_ble_eq_true rfl)
  rw [lg_entry_eq]
  generalize (lg_sl [.ref f0, .ref n0, .int a2] ++ List.replicate (3 - (lg_sl [.ref f0, .ref n0, .int a2]).length) Slot.unset).toArray = ls at hl ⊢
  replace hl : lv_has ls 3 [(0, .ref f0), (1, .ref n0), (2, .int a2)] := hl
  obtain ⟨x, hf, hM⟩ : ∃ x, FX1_init N_postCount N_roadCount N_first N_second N_number N_allowed N_at N_beside a2 = some x ∧ x = out := ⟨out, hf, rfl⟩
  refine lv_aload_n hx hb dX1_init_0 rfl (lv_at hl 0 rfl) ?_
  refine W.objInit hx hb hown (hg _ wL_RX1_3) (hg _ wM_objectInit) (hg _ wC_objectInit) rfl (by rw [hml]; exact hl.1) rfl dX1_init_1 (Nat.le_of_ble_eq_true rfl) (Nat.le_of_ble_eq_true rfl) ?_
  refine W.eq (g2 := F0 m 4 ls []) rfl ?_
  refine lv_aload_n hx hb dX1_init_4 rfl (lv_at hl 0 rfl) ?_
  refine lv_bipush (v := 24) hx hb dX1_init_5 (by decide) ?_
  refine va_newa (atype := .int) (ty := .int) (a0 := (24, .inl (fun _ => 0))) hx hb (hg _ wA_int) rfl hK.1 hI.1 hI.2.1 hI.2.2 hA (fun cA => rfl) (by decide) (by decide) (by decide) (Nat.le_of_ble_eq_true rfl) (Nat.le_of_ble_eq_true rfl) dX1_init_7 (fun b1 cA H hK9 hP hD hS => ?_)
  obtain rfl : cI = cA := ky_eq (ty := .int) (Or.inl rfl) (hK.1.2 0 _ rfl).2 (hK9.2 3 _ rfl).2
  replace hI : WI D A s.heap [(f0, .inr (1, [.null, .int (0 : Int32), .null, .int (0 : Int32)])), (n0, .inr (3, [.int N_postCount, .int N_roadCount, .ref n1, .ref n2, .ref n3, .ref n4, .ref n5, .ref n6])), (n1, .inl (cI, 24, .inl N_first)), (n2, .inl (cI, 24, .inl N_second)), (n3, .inl (cI, 24, .inl N_number)), (n4, .inl (cI, 24, .inl N_allowed)), (n5, .inl (cI, 12, .inl N_at)), (n6, .inl (cI, 24, .inl N_beside)), (b1, .inl (cI, 24, .inl (fun _ => 0)))] H _ := ⟨hP, hD, hS⟩
  clear hP hD hS hK9
  refine w_putF (W1 := [(f0, .inr (1, [.null, .int (0 : Int32), .ref b1, .int (0 : Int32)])), (n0, .inr (3, [.int N_postCount, .int N_roadCount, .ref n1, .ref n2, .ref n3, .ref n4, .ref n5, .ref n6])), (n1, .inl (cI, 24, .inl N_first)), (n2, .inl (cI, 24, .inl N_second)), (n3, .inl (cI, 24, .inl N_number)), (n4, .inl (cI, 24, .inl N_allowed)), (n5, .inl (cI, 12, .inl N_at)), (n6, .inl (cI, 24, .inl N_beside)), (b1, .inl (cI, 24, .inl (fun _ => 0)))]) hx hb hg hown hK hI iX1 tyX1 tyX1_ok nmX1 0 rfl rfl 2 (by decide) wF_RX1_9 rfl hin rfl (tyX1_ok 2 (by decide)) rfl rfl (Nat.le_of_ble_eq_true rfl) dX1_init_9 rfl (fun H locs hI => ?_)
  refine lv_aload_n hx hb dX1_init_12 rfl (lv_at hl 0 rfl) ?_
  refine lv_aload_n hx hb dX1_init_13 rfl (lv_at hl 1 rfl) ?_
  refine w_putF (W1 := [(f0, .inr (1, [.ref n0, .int (0 : Int32), .ref b1, .int (0 : Int32)])), (n0, .inr (3, [.int N_postCount, .int N_roadCount, .ref n1, .ref n2, .ref n3, .ref n4, .ref n5, .ref n6])), (n1, .inl (cI, 24, .inl N_first)), (n2, .inl (cI, 24, .inl N_second)), (n3, .inl (cI, 24, .inl N_number)), (n4, .inl (cI, 24, .inl N_allowed)), (n5, .inl (cI, 12, .inl N_at)), (n6, .inl (cI, 24, .inl N_beside)), (b1, .inl (cI, 24, .inl (fun _ => 0)))]) hx hb hg hown hK hI iX1 tyX1 tyX1_ok nmX1 0 rfl rfl 0 (by decide) wF_RX1_15 rfl hin rfl (tyX1_ok 0 (by decide)) rfl rfl (Nat.le_of_ble_eq_true rfl) dX1_init_14 rfl (fun H locs hI => ?_)
  refine lv_aload_n hx hb dX1_init_17 rfl (lv_at hl 0 rfl) ?_
  refine lv_aload_n hx hb dX1_init_18 rfl (lv_at hl 1 rfl) ?_
  refine w_get hx hb hg hown hK hI iX3 1 rfl rfl 2 (by decide) wF_RX1_19 rfl dX1_init_19 ?_
  refine lv_iload_n hx hb dX1_init_22 rfl (lv_at hl 2 rfl) ?_
  obtain ⟨hix, hf⟩ := rd_e hf
  refine w_iald hx hb hK hI 2 rfl hix dX1_init_23 (fun x2 ex2 => ?_)
  replace hf := hf x2 ex2
  refine w_putF (W1 := [(f0, .inr (1, [.ref n0, .int x2, .ref b1, .int (0 : Int32)])), (n0, .inr (3, [.int N_postCount, .int N_roadCount, .ref n1, .ref n2, .ref n3, .ref n4, .ref n5, .ref n6])), (n1, .inl (cI, 24, .inl N_first)), (n2, .inl (cI, 24, .inl N_second)), (n3, .inl (cI, 24, .inl N_number)), (n4, .inl (cI, 24, .inl N_allowed)), (n5, .inl (cI, 12, .inl N_at)), (n6, .inl (cI, 24, .inl N_beside)), (b1, .inl (cI, 24, .inl (fun _ => 0)))]) hx hb hg hown hK hI iX1 tyX1 tyX1_ok nmX1 0 rfl rfl 1 (by decide) wF_RX1_24 rfl hin rfl (tyX1_ok 1 (by decide)) rfl rfl (Nat.le_of_ble_eq_true rfl) dX1_init_24 rfl (fun H locs hI => ?_)
  refine lv_aload_n hx hb dX1_init_27 rfl (lv_at hl 0 rfl) ?_
  refine w_get hx hb hg hown hK hI iX1 0 rfl rfl 2 (by decide) wF_RX1_9 rfl dX1_init_28 ?_
  refine lv_iconst (v := 0) hx hb dX1_init_31 (by decide) ?_
  refine lv_iload_n hx hb dX1_init_32 rfl (lv_at hl 2 rfl) ?_
  obtain ⟨hix, hf⟩ := wr_e hf
  obtain ⟨g3, eg3⟩ : ∃ g : Nat → Int32, g = upd (fun _ => 0) ((0 : Int32)).toNatClampNeg a2 := ⟨_, rfl⟩
  replace hf := hf g3 eg3
  refine w_iast (g := g3) (W1 := [(f0, .inr (1, [.ref n0, .int x2, .ref b1, .int (0 : Int32)])), (n0, .inr (3, [.int N_postCount, .int N_roadCount, .ref n1, .ref n2, .ref n3, .ref n4, .ref n5, .ref n6])), (n1, .inl (cI, 24, .inl N_first)), (n2, .inl (cI, 24, .inl N_second)), (n3, .inl (cI, 24, .inl N_number)), (n4, .inl (cI, 24, .inl N_allowed)), (n5, .inl (cI, 12, .inl N_at)), (n6, .inl (cI, 24, .inl N_beside)), (b1, .inl (cI, 24, .inl g3))]) hx hb hK hI 8 rfl hix eg3 dX1_init_33 rfl (fun H locs hI => ?_)
  refine lv_aload_n hx hb dX1_init_34 rfl (lv_at hl 0 rfl) ?_
  refine lv_iconst (v := 1) hx hb dX1_init_35 (by decide) ?_
  refine w_put (W1 := [(f0, .inr (1, [.ref n0, .int x2, .ref b1, .int (1 : Int32)])), (n0, .inr (3, [.int N_postCount, .int N_roadCount, .ref n1, .ref n2, .ref n3, .ref n4, .ref n5, .ref n6])), (n1, .inl (cI, 24, .inl N_first)), (n2, .inl (cI, 24, .inl N_second)), (n3, .inl (cI, 24, .inl N_number)), (n4, .inl (cI, 24, .inl N_allowed)), (n5, .inl (cI, 12, .inl N_at)), (n6, .inl (cI, 24, .inl N_beside)), (b1, .inl (cI, 24, .inl g3))]) hx hb hg hown hK hI iX1 tyX1 tyX1_ok nmX1 0 rfl rfl 3 (by decide) wF_RX1_28 rfl (tyX1_ok 3 (by decide)) rfl rfl (Nat.le_of_ble_eq_true rfl) dX1_init_36 rfl (fun H locs hI => ?_)
  replace hf := Option.some.inj hf
  subst hf
  replace hM : (x2, g3, (1 : Int32)) = out := hM
  subst hM
  refine W.widen (k := 1) (n := 24) (Nat.le_of_ble_eq_true rfl) (Nat.le_of_ble_eq_true rfl) ?_
  replace hI := hI.perm (w2 := [(f0, .inr (1, [.ref n0, .int x2, .ref b1, .int (1 : Int32)])), (b1, .inl (cI, 24, .inl g3)), (n0, .inr (3, [.int N_postCount, .int N_roadCount, .ref n1, .ref n2, .ref n3, .ref n4, .ref n5, .ref n6])), (n1, .inl (cI, 24, .inl N_first)), (n2, .inl (cI, 24, .inl N_second)), (n3, .inl (cI, 24, .inl N_number)), (n4, .inl (cI, 24, .inl N_allowed)), (n5, .inl (cI, 12, .inl N_at)), (n6, .inl (cI, 24, .inl N_beside))]) [0, 8, 1, 2, 3, 4, 5, 6, 7] rfl rfl
  exact rt_v (u := b1) hx hb hr hlocks hI hAe trivial dX1_init_39
theorem kiX0_init : CalI yX0_init cX0_init 3 2 := ⟨wC_yX0_init, wM_yX0_init, wI_RX0, rfl, by decide +kernel⟩
set_option maxHeartbeats 4000000 in
set_option maxRecDepth 100000 in
theorem kIX0_init (l : Launch) (D : va_G) (cI cJ cZ : ClassId) (e0 n0 : Nat) (a2 : Int32) : MV l yX0_init (Cond.code yX0_init cX0_init 3 none :: GW) { frames := 1, cells := 1, slots := 16, locals := 40 } D cI cJ cZ [.ref e0, .ref n0, .int a2] [(e0, .inr (0, [.null, .int (0 : Int32), .null]))] (fun (_ : Nat) => True) (fun u => [(e0, .inr (0, [.ref n0, .int a2, .ref u])), (u, .inl (cI, 16, .inl (fun _ => 0)))]) := by
  intro sz
  refine Met.ofW (cc := cX0_init) (maxL := 3) (ret := none) (by decide +kernel) rfl ?_
  intro p e s m args below meth c s₁ B hml hv
  obtain ⟨rfl, hsz, hP, hK, hD0⟩ := hv
  have hx := B.exec
  have hb := B.bytes
  have hr := B.returns
  have hlocks := B.notSynchronized
  have hin : meth.name = "<init>" := (name_of_methodNamed B.named B.method).1
  have hg : ∀ w ∈ GW, w.before _ s = true := fun w h => atoms_spec (ws := Cond.code yX0_init cX0_init 3 none :: GW) B.pre w (List.mem_cons_of_mem _ h)
  have hown : s.vm.findClass RX0 = some m.cls := findClass_of_methodNamed B.named
  subst hsz
  obtain ⟨A, hAe⟩ : ∃ A, A = va_A [(e0, .inr (0, [.null, .int (0 : Int32), .null]))] s.heap.size := ⟨_, rfl⟩
  have hA : ∀ q : Nat, s.heap.size ≤ q → A q := fun q h => by rw [hAe]; exact Or.inr h
  have hI : WI D A s.heap [(e0, .inr (0, [.null, .int (0 : Int32), .null]))] s.heap [] := ⟨hP, by rw [hAe]; exact hD0.self, va_S.rf⟩
  have hl := lv_entry [.ref e0, .ref n0, .int a2] (n := 3) (Nat.le_of_ble_eq_true rfl)
  rw [lg_entry_eq]
  generalize (lg_sl [.ref e0, .ref n0, .int a2] ++ List.replicate (3 - (lg_sl [.ref e0, .ref n0, .int a2]).length) Slot.unset).toArray = ls at hl ⊢
  replace hl : lv_has ls 3 [(0, .ref e0), (1, .ref n0), (2, .int a2)] := hl
  refine lv_aload_n hx hb dX0_init_0 rfl (lv_at hl 0 rfl) ?_
  refine W.objInit hx hb hown (hg _ wL_RX0_3) (hg _ wM_objectInit) (hg _ wC_objectInit) rfl (by rw [hml]; exact hl.1) rfl dX0_init_1 (Nat.le_of_ble_eq_true rfl) (Nat.le_of_ble_eq_true rfl) ?_
  refine W.eq (g2 := F0 m 4 ls []) rfl ?_
  refine lv_aload_n hx hb dX0_init_4 rfl (lv_at hl 0 rfl) ?_
  refine lv_bipush (v := 16) hx hb dX0_init_5 (by decide) ?_
  refine va_newa (atype := .int) (ty := .int) (a0 := (16, .inl (fun _ => 0))) hx hb (hg _ wA_int) rfl hK.1 hI.1 hI.2.1 hI.2.2 hA (fun cA => rfl) (by decide) (by decide) (by decide) (Nat.le_of_ble_eq_true rfl) (Nat.le_of_ble_eq_true rfl) dX0_init_7 (fun b1 cA H hK9 hP hD hS => ?_)
  obtain rfl : cI = cA := ky_eq (ty := .int) (Or.inl rfl) (hK.1.2 0 _ rfl).2 (hK9.2 3 _ rfl).2
  replace hI : WI D A s.heap [(e0, .inr (0, [.null, .int (0 : Int32), .null])), (b1, .inl (cI, 16, .inl (fun _ => 0)))] H _ := ⟨hP, hD, hS⟩
  clear hP hD hS hK9
  refine w_putF (W1 := [(e0, .inr (0, [.null, .int (0 : Int32), .ref b1])), (b1, .inl (cI, 16, .inl (fun _ => 0)))]) hx hb hg hown hK hI iX0 tyX0 tyX0_ok nmX0 0 rfl rfl 2 (by decide) wF_RX0_9 rfl hin rfl (tyX0_ok 2 (by decide)) rfl rfl (Nat.le_of_ble_eq_true rfl) dX0_init_9 rfl (fun H locs hI => ?_)
  refine lv_aload_n hx hb dX0_init_12 rfl (lv_at hl 0 rfl) ?_
  refine lv_aload_n hx hb dX0_init_13 rfl (lv_at hl 1 rfl) ?_
  refine w_putF (W1 := [(e0, .inr (0, [.ref n0, .int (0 : Int32), .ref b1])), (b1, .inl (cI, 16, .inl (fun _ => 0)))]) hx hb hg hown hK hI iX0 tyX0 tyX0_ok nmX0 0 rfl rfl 0 (by decide) wF_RX0_15 rfl hin rfl (tyX0_ok 0 (by decide)) rfl rfl (Nat.le_of_ble_eq_true rfl) dX0_init_14 rfl (fun H locs hI => ?_)
  refine lv_aload_n hx hb dX0_init_17 rfl (lv_at hl 0 rfl) ?_
  refine lv_iload_n hx hb dX0_init_18 rfl (lv_at hl 2 rfl) ?_
  refine w_putF (W1 := [(e0, .inr (0, [.ref n0, .int a2, .ref b1])), (b1, .inl (cI, 16, .inl (fun _ => 0)))]) hx hb hg hown hK hI iX0 tyX0 tyX0_ok nmX0 0 rfl rfl 1 (by decide) wF_RX0_19 rfl hin rfl (tyX0_ok 1 (by decide)) rfl rfl (Nat.le_of_ble_eq_true rfl) dX0_init_19 rfl (fun H locs hI => ?_)
  refine W.widen (k := 1) (n := 16) (Nat.le_of_ble_eq_true rfl) (Nat.le_of_ble_eq_true rfl) ?_
  replace hI := hI.perm (w2 := [(e0, .inr (0, [.ref n0, .int a2, .ref b1])), (b1, .inl (cI, 16, .inl (fun _ => 0)))]) [0, 1] rfl rfl
  exact rt_v (u := b1) hx hb hr hlocks hI hAe trivial dX0_init_22
theorem kiX8_init : CalI yX8_init cX8_init 1 0 := ⟨wC_yX8_init, wM_yX8_init, wI_RX8, rfl, by decide +kernel⟩
set_option maxHeartbeats 4000000 in
set_option maxRecDepth 100000 in
theorem kIX8_init (l : Launch) (D : va_G) (cI cJ cZ : ClassId) (m0 : Nat) : MV l yX8_init (Cond.code yX8_init cX8_init 1 none :: GW) { frames := 1, cells := 13, slots := 4671, locals := 40 } D cI cJ cZ [.ref m0] [(m0, .inr (8, [.int (0 : Int32), .int (0 : Int32), .null, .null, .null, .null, .int (0 : Int32), .int (0 : Int32), .int (0 : Int32), .null, .null, .null, .null, .null, .null, .null, .null, .null]))] (fun (_ : Nat × Nat × Nat × Nat × Nat × Nat × Nat × Nat × Nat × Nat × Nat × Nat × Nat) => True) (fun u => [(m0, .inr (8, [.int (0), .int (0), .ref u.1, .ref u.2.1, .ref u.2.2.1, .ref u.2.2.2.1, .int (-1), .int (0), .int (-1), .ref u.2.2.2.2.1, .ref u.2.2.2.2.2.1, .ref u.2.2.2.2.2.2.1, .ref u.2.2.2.2.2.2.2.1, .ref u.2.2.2.2.2.2.2.2.1, .ref u.2.2.2.2.2.2.2.2.2.1, .ref u.2.2.2.2.2.2.2.2.2.2.1, .ref u.2.2.2.2.2.2.2.2.2.2.2.1, .ref u.2.2.2.2.2.2.2.2.2.2.2.2])), (u.1, .inl (cI, 24, .inl (fun _ => 0))), (u.2.1, .inl (cI, 24, .inl (fun _ => 0))), (u.2.2.1, .inl (cI, 24, .inl (fun _ => 0))), (u.2.2.2.1, .inl (cI, 24, .inl (fun _ => 0))), (u.2.2.2.2.1, .inl (cI, 81, .inl (fun _ => 0))), (u.2.2.2.2.2.1, .inl (cI, 12, .inl (fun _ => 0))), (u.2.2.2.2.2.2.1, .inl (cI, 24, .inl (fun _ => 0))), (u.2.2.2.2.2.2.2.1, .inl (cI, 24, .inl (fun _ => 0))), (u.2.2.2.2.2.2.2.2.1, .inl (cI, 24, .inl (fun _ => 0))), (u.2.2.2.2.2.2.2.2.2.1, .inl (cI, 25, .inl (fun _ => 0))), (u.2.2.2.2.2.2.2.2.2.2.1, .inl (cI, 24, .inl (fun _ => 0))), (u.2.2.2.2.2.2.2.2.2.2.2.1, .inl (cZ, 4352, .inl (fun _ => 0))), (u.2.2.2.2.2.2.2.2.2.2.2.2, .inl (cI, 9, .inl (fun _ => 0)))]) := by
  intro sz
  refine Met.ofW (cc := cX8_init) (maxL := 1) (ret := none) (by decide +kernel) rfl ?_
  intro p e s m args below meth c s₁ B hml hv
  obtain ⟨rfl, hsz, hP, hK, hD0⟩ := hv
  have hx := B.exec
  have hb := B.bytes
  have hr := B.returns
  have hlocks := B.notSynchronized
  have hin : meth.name = "<init>" := (name_of_methodNamed B.named B.method).1
  have hg : ∀ w ∈ GW, w.before _ s = true := fun w h => atoms_spec (ws := Cond.code yX8_init cX8_init 1 none :: GW) B.pre w (List.mem_cons_of_mem _ h)
  have hown : s.vm.findClass RX8 = some m.cls := findClass_of_methodNamed B.named
  subst hsz
  obtain ⟨A, hAe⟩ : ∃ A, A = va_A [(m0, .inr (8, [.int (0 : Int32), .int (0 : Int32), .null, .null, .null, .null, .int (0 : Int32), .int (0 : Int32), .int (0 : Int32), .null, .null, .null, .null, .null, .null, .null, .null, .null]))] s.heap.size := ⟨_, rfl⟩
  have hA : ∀ q : Nat, s.heap.size ≤ q → A q := fun q h => by rw [hAe]; exact Or.inr h
  have hI : WI D A s.heap [(m0, .inr (8, [.int (0 : Int32), .int (0 : Int32), .null, .null, .null, .null, .int (0 : Int32), .int (0 : Int32), .int (0 : Int32), .null, .null, .null, .null, .null, .null, .null, .null, .null]))] s.heap [] := ⟨hP, by rw [hAe]; exact hD0.self, va_S.rf⟩
  have hl := lv_entry [.ref m0] (n := 1) (Nat.le_of_ble_eq_true rfl)
  rw [lg_entry_eq]
  generalize (lg_sl [.ref m0] ++ List.replicate (1 - (lg_sl [.ref m0]).length) Slot.unset).toArray = ls at hl ⊢
  replace hl : lv_has ls 1 [(0, .ref m0)] := hl
  refine lv_aload_n hx hb dX8_init_0 rfl (lv_at hl 0 rfl) ?_
  refine W.objInit hx hb hown (hg _ wL_RX8_1) (hg _ wM_objectInit) (hg _ wC_objectInit) rfl (by rw [hml]; exact hl.1) rfl dX8_init_1 (Nat.le_of_ble_eq_true rfl) (Nat.le_of_ble_eq_true rfl) ?_
  refine W.eq (g2 := F0 m 4 ls []) rfl ?_
  refine lv_aload_n hx hb dX8_init_4 rfl (lv_at hl 0 rfl) ?_
  refine lv_bipush (v := 24) hx hb dX8_init_5 (by decide) ?_
  refine va_newa (atype := .int) (ty := .int) (a0 := (24, .inl (fun _ => 0))) hx hb (hg _ wA_int) rfl hK.1 hI.1 hI.2.1 hI.2.2 hA (fun cA => rfl) (by decide) (by decide) (by decide) (Nat.le_of_ble_eq_true rfl) (Nat.le_of_ble_eq_true rfl) dX8_init_7 (fun b1 cA H hK9 hP hD hS => ?_)
  obtain rfl : cI = cA := ky_eq (ty := .int) (Or.inl rfl) (hK.1.2 0 _ rfl).2 (hK9.2 3 _ rfl).2
  replace hI : WI D A s.heap [(m0, .inr (8, [.int (0 : Int32), .int (0 : Int32), .null, .null, .null, .null, .int (0 : Int32), .int (0 : Int32), .int (0 : Int32), .null, .null, .null, .null, .null, .null, .null, .null, .null])), (b1, .inl (cI, 24, .inl (fun _ => 0)))] H _ := ⟨hP, hD, hS⟩
  clear hP hD hS hK9
  refine w_putF (W1 := [(m0, .inr (8, [.int (0 : Int32), .int (0 : Int32), .ref b1, .null, .null, .null, .int (0 : Int32), .int (0 : Int32), .int (0 : Int32), .null, .null, .null, .null, .null, .null, .null, .null, .null])), (b1, .inl (cI, 24, .inl (fun _ => 0)))]) hx hb hg hown hK hI iX8 tyX8 tyX8_ok nmX8 0 rfl rfl 2 (by decide) wF_RX8_7 rfl hin rfl (tyX8_ok 2 (by decide)) rfl rfl (Nat.le_of_ble_eq_true rfl) dX8_init_9 rfl (fun H locs hI => ?_)
  refine lv_aload_n hx hb dX8_init_12 rfl (lv_at hl 0 rfl) ?_
  refine lv_bipush (v := 24) hx hb dX8_init_13 (by decide) ?_
  refine va_newa (atype := .int) (ty := .int) (a0 := (24, .inl (fun _ => 0))) hx hb (hg _ wA_int) rfl hK.1 hI.1 hI.2.1 hI.2.2 hA (fun cA => rfl) (by decide) (by decide) (by decide) (Nat.le_of_ble_eq_true rfl) (Nat.le_of_ble_eq_true rfl) dX8_init_15 (fun b2 cA H hK9 hP hD hS => ?_)
  obtain rfl : cI = cA := ky_eq (ty := .int) (Or.inl rfl) (hK.1.2 0 _ rfl).2 (hK9.2 3 _ rfl).2
  replace hI : WI D A s.heap [(m0, .inr (8, [.int (0 : Int32), .int (0 : Int32), .ref b1, .null, .null, .null, .int (0 : Int32), .int (0 : Int32), .int (0 : Int32), .null, .null, .null, .null, .null, .null, .null, .null, .null])), (b1, .inl (cI, 24, .inl (fun _ => 0))), (b2, .inl (cI, 24, .inl (fun _ => 0)))] H _ := ⟨hP, hD, hS⟩
  clear hP hD hS hK9
  refine w_putF (W1 := [(m0, .inr (8, [.int (0 : Int32), .int (0 : Int32), .ref b1, .ref b2, .null, .null, .int (0 : Int32), .int (0 : Int32), .int (0 : Int32), .null, .null, .null, .null, .null, .null, .null, .null, .null])), (b1, .inl (cI, 24, .inl (fun _ => 0))), (b2, .inl (cI, 24, .inl (fun _ => 0)))]) hx hb hg hown hK hI iX8 tyX8 tyX8_ok nmX8 0 rfl rfl 3 (by decide) wF_RX8_13 rfl hin rfl (tyX8_ok 3 (by decide)) rfl rfl (Nat.le_of_ble_eq_true rfl) dX8_init_17 rfl (fun H locs hI => ?_)
  refine lv_aload_n hx hb dX8_init_20 rfl (lv_at hl 0 rfl) ?_
  refine lv_bipush (v := 24) hx hb dX8_init_21 (by decide) ?_
  refine va_newa (atype := .int) (ty := .int) (a0 := (24, .inl (fun _ => 0))) hx hb (hg _ wA_int) rfl hK.1 hI.1 hI.2.1 hI.2.2 hA (fun cA => rfl) (by decide) (by decide) (by decide) (Nat.le_of_ble_eq_true rfl) (Nat.le_of_ble_eq_true rfl) dX8_init_23 (fun b3 cA H hK9 hP hD hS => ?_)
  obtain rfl : cI = cA := ky_eq (ty := .int) (Or.inl rfl) (hK.1.2 0 _ rfl).2 (hK9.2 3 _ rfl).2
  replace hI : WI D A s.heap [(m0, .inr (8, [.int (0 : Int32), .int (0 : Int32), .ref b1, .ref b2, .null, .null, .int (0 : Int32), .int (0 : Int32), .int (0 : Int32), .null, .null, .null, .null, .null, .null, .null, .null, .null])), (b1, .inl (cI, 24, .inl (fun _ => 0))), (b2, .inl (cI, 24, .inl (fun _ => 0))), (b3, .inl (cI, 24, .inl (fun _ => 0)))] H _ := ⟨hP, hD, hS⟩
  clear hP hD hS hK9
  refine w_putF (W1 := [(m0, .inr (8, [.int (0 : Int32), .int (0 : Int32), .ref b1, .ref b2, .ref b3, .null, .int (0 : Int32), .int (0 : Int32), .int (0 : Int32), .null, .null, .null, .null, .null, .null, .null, .null, .null])), (b1, .inl (cI, 24, .inl (fun _ => 0))), (b2, .inl (cI, 24, .inl (fun _ => 0))), (b3, .inl (cI, 24, .inl (fun _ => 0)))]) hx hb hg hown hK hI iX8 tyX8 tyX8_ok nmX8 0 rfl rfl 4 (by decide) wF_RX8_16 rfl hin rfl (tyX8_ok 4 (by decide)) rfl rfl (Nat.le_of_ble_eq_true rfl) dX8_init_25 rfl (fun H locs hI => ?_)
  refine lv_aload_n hx hb dX8_init_28 rfl (lv_at hl 0 rfl) ?_
  refine lv_bipush (v := 24) hx hb dX8_init_29 (by decide) ?_
  refine va_newa (atype := .int) (ty := .int) (a0 := (24, .inl (fun _ => 0))) hx hb (hg _ wA_int) rfl hK.1 hI.1 hI.2.1 hI.2.2 hA (fun cA => rfl) (by decide) (by decide) (by decide) (Nat.le_of_ble_eq_true rfl) (Nat.le_of_ble_eq_true rfl) dX8_init_31 (fun b4 cA H hK9 hP hD hS => ?_)
  obtain rfl : cI = cA := ky_eq (ty := .int) (Or.inl rfl) (hK.1.2 0 _ rfl).2 (hK9.2 3 _ rfl).2
  replace hI : WI D A s.heap [(m0, .inr (8, [.int (0 : Int32), .int (0 : Int32), .ref b1, .ref b2, .ref b3, .null, .int (0 : Int32), .int (0 : Int32), .int (0 : Int32), .null, .null, .null, .null, .null, .null, .null, .null, .null])), (b1, .inl (cI, 24, .inl (fun _ => 0))), (b2, .inl (cI, 24, .inl (fun _ => 0))), (b3, .inl (cI, 24, .inl (fun _ => 0))), (b4, .inl (cI, 24, .inl (fun _ => 0)))] H _ := ⟨hP, hD, hS⟩
  clear hP hD hS hK9
  refine w_putF (W1 := [(m0, .inr (8, [.int (0 : Int32), .int (0 : Int32), .ref b1, .ref b2, .ref b3, .ref b4, .int (0 : Int32), .int (0 : Int32), .int (0 : Int32), .null, .null, .null, .null, .null, .null, .null, .null, .null])), (b1, .inl (cI, 24, .inl (fun _ => 0))), (b2, .inl (cI, 24, .inl (fun _ => 0))), (b3, .inl (cI, 24, .inl (fun _ => 0))), (b4, .inl (cI, 24, .inl (fun _ => 0)))]) hx hb hg hown hK hI iX8 tyX8 tyX8_ok nmX8 0 rfl rfl 5 (by decide) wF_RX8_19 rfl hin rfl (tyX8_ok 5 (by decide)) rfl rfl (Nat.le_of_ble_eq_true rfl) dX8_init_33 rfl (fun H locs hI => ?_)
  refine lv_aload_n hx hb dX8_init_36 rfl (lv_at hl 0 rfl) ?_
  refine lv_iconst (v := -1) hx hb dX8_init_37 (by decide) ?_
  refine w_put (W1 := [(m0, .inr (8, [.int (0 : Int32), .int (0 : Int32), .ref b1, .ref b2, .ref b3, .ref b4, .int (-1 : Int32), .int (0 : Int32), .int (0 : Int32), .null, .null, .null, .null, .null, .null, .null, .null, .null])), (b1, .inl (cI, 24, .inl (fun _ => 0))), (b2, .inl (cI, 24, .inl (fun _ => 0))), (b3, .inl (cI, 24, .inl (fun _ => 0))), (b4, .inl (cI, 24, .inl (fun _ => 0)))]) hx hb hg hown hK hI iX8 tyX8 tyX8_ok nmX8 0 rfl rfl 6 (by decide) wF_RX8_22 rfl (tyX8_ok 6 (by decide)) rfl rfl (Nat.le_of_ble_eq_true rfl) dX8_init_38 rfl (fun H locs hI => ?_)
  refine lv_aload_n hx hb dX8_init_41 rfl (lv_at hl 0 rfl) ?_
  refine lv_iconst (v := -1) hx hb dX8_init_42 (by decide) ?_
  refine w_put (W1 := [(m0, .inr (8, [.int (0 : Int32), .int (0 : Int32), .ref b1, .ref b2, .ref b3, .ref b4, .int (-1 : Int32), .int (0 : Int32), .int (-1 : Int32), .null, .null, .null, .null, .null, .null, .null, .null, .null])), (b1, .inl (cI, 24, .inl (fun _ => 0))), (b2, .inl (cI, 24, .inl (fun _ => 0))), (b3, .inl (cI, 24, .inl (fun _ => 0))), (b4, .inl (cI, 24, .inl (fun _ => 0)))]) hx hb hg hown hK hI iX8 tyX8 tyX8_ok nmX8 0 rfl rfl 8 (by decide) wF_RX8_26 rfl (tyX8_ok 8 (by decide)) rfl rfl (Nat.le_of_ble_eq_true rfl) dX8_init_43 rfl (fun H locs hI => ?_)
  refine lv_aload_n hx hb dX8_init_46 rfl (lv_at hl 0 rfl) ?_
  refine lv_bipush (v := 81) hx hb dX8_init_47 (by decide) ?_
  refine va_newa (atype := .int) (ty := .int) (a0 := (81, .inl (fun _ => 0))) hx hb (hg _ wA_int) rfl hK.1 hI.1 hI.2.1 hI.2.2 hA (fun cA => rfl) (by decide) (by decide) (by decide) (Nat.le_of_ble_eq_true rfl) (Nat.le_of_ble_eq_true rfl) dX8_init_49 (fun b5 cA H hK9 hP hD hS => ?_)
  obtain rfl : cI = cA := ky_eq (ty := .int) (Or.inl rfl) (hK.1.2 0 _ rfl).2 (hK9.2 3 _ rfl).2
  replace hI : WI D A s.heap [(m0, .inr (8, [.int (0 : Int32), .int (0 : Int32), .ref b1, .ref b2, .ref b3, .ref b4, .int (-1 : Int32), .int (0 : Int32), .int (-1 : Int32), .null, .null, .null, .null, .null, .null, .null, .null, .null])), (b1, .inl (cI, 24, .inl (fun _ => 0))), (b2, .inl (cI, 24, .inl (fun _ => 0))), (b3, .inl (cI, 24, .inl (fun _ => 0))), (b4, .inl (cI, 24, .inl (fun _ => 0))), (b5, .inl (cI, 81, .inl (fun _ => 0)))] H _ := ⟨hP, hD, hS⟩
  clear hP hD hS hK9
  refine w_putF (W1 := [(m0, .inr (8, [.int (0 : Int32), .int (0 : Int32), .ref b1, .ref b2, .ref b3, .ref b4, .int (-1 : Int32), .int (0 : Int32), .int (-1 : Int32), .ref b5, .null, .null, .null, .null, .null, .null, .null, .null])), (b1, .inl (cI, 24, .inl (fun _ => 0))), (b2, .inl (cI, 24, .inl (fun _ => 0))), (b3, .inl (cI, 24, .inl (fun _ => 0))), (b4, .inl (cI, 24, .inl (fun _ => 0))), (b5, .inl (cI, 81, .inl (fun _ => 0)))]) hx hb hg hown hK hI iX8 tyX8 tyX8_ok nmX8 0 rfl rfl 9 (by decide) wF_RX8_29 rfl hin rfl (tyX8_ok 9 (by decide)) rfl rfl (Nat.le_of_ble_eq_true rfl) dX8_init_51 rfl (fun H locs hI => ?_)
  refine lv_aload_n hx hb dX8_init_54 rfl (lv_at hl 0 rfl) ?_
  refine lv_bipush (v := 12) hx hb dX8_init_55 (by decide) ?_
  refine va_newa (atype := .int) (ty := .int) (a0 := (12, .inl (fun _ => 0))) hx hb (hg _ wA_int) rfl hK.1 hI.1 hI.2.1 hI.2.2 hA (fun cA => rfl) (by decide) (by decide) (by decide) (Nat.le_of_ble_eq_true rfl) (Nat.le_of_ble_eq_true rfl) dX8_init_57 (fun b6 cA H hK9 hP hD hS => ?_)
  obtain rfl : cI = cA := ky_eq (ty := .int) (Or.inl rfl) (hK.1.2 0 _ rfl).2 (hK9.2 3 _ rfl).2
  replace hI : WI D A s.heap [(m0, .inr (8, [.int (0 : Int32), .int (0 : Int32), .ref b1, .ref b2, .ref b3, .ref b4, .int (-1 : Int32), .int (0 : Int32), .int (-1 : Int32), .ref b5, .null, .null, .null, .null, .null, .null, .null, .null])), (b1, .inl (cI, 24, .inl (fun _ => 0))), (b2, .inl (cI, 24, .inl (fun _ => 0))), (b3, .inl (cI, 24, .inl (fun _ => 0))), (b4, .inl (cI, 24, .inl (fun _ => 0))), (b5, .inl (cI, 81, .inl (fun _ => 0))), (b6, .inl (cI, 12, .inl (fun _ => 0)))] H _ := ⟨hP, hD, hS⟩
  clear hP hD hS hK9
  refine w_putF (W1 := [(m0, .inr (8, [.int (0 : Int32), .int (0 : Int32), .ref b1, .ref b2, .ref b3, .ref b4, .int (-1 : Int32), .int (0 : Int32), .int (-1 : Int32), .ref b5, .ref b6, .null, .null, .null, .null, .null, .null, .null])), (b1, .inl (cI, 24, .inl (fun _ => 0))), (b2, .inl (cI, 24, .inl (fun _ => 0))), (b3, .inl (cI, 24, .inl (fun _ => 0))), (b4, .inl (cI, 24, .inl (fun _ => 0))), (b5, .inl (cI, 81, .inl (fun _ => 0))), (b6, .inl (cI, 12, .inl (fun _ => 0)))]) hx hb hg hown hK hI iX8 tyX8 tyX8_ok nmX8 0 rfl rfl 10 (by decide) wF_RX8_32 rfl hin rfl (tyX8_ok 10 (by decide)) rfl rfl (Nat.le_of_ble_eq_true rfl) dX8_init_59 rfl (fun H locs hI => ?_)
  refine lv_aload_n hx hb dX8_init_62 rfl (lv_at hl 0 rfl) ?_
  refine lv_bipush (v := 24) hx hb dX8_init_63 (by decide) ?_
  refine va_newa (atype := .int) (ty := .int) (a0 := (24, .inl (fun _ => 0))) hx hb (hg _ wA_int) rfl hK.1 hI.1 hI.2.1 hI.2.2 hA (fun cA => rfl) (by decide) (by decide) (by decide) (Nat.le_of_ble_eq_true rfl) (Nat.le_of_ble_eq_true rfl) dX8_init_65 (fun b7 cA H hK9 hP hD hS => ?_)
  obtain rfl : cI = cA := ky_eq (ty := .int) (Or.inl rfl) (hK.1.2 0 _ rfl).2 (hK9.2 3 _ rfl).2
  replace hI : WI D A s.heap [(m0, .inr (8, [.int (0 : Int32), .int (0 : Int32), .ref b1, .ref b2, .ref b3, .ref b4, .int (-1 : Int32), .int (0 : Int32), .int (-1 : Int32), .ref b5, .ref b6, .null, .null, .null, .null, .null, .null, .null])), (b1, .inl (cI, 24, .inl (fun _ => 0))), (b2, .inl (cI, 24, .inl (fun _ => 0))), (b3, .inl (cI, 24, .inl (fun _ => 0))), (b4, .inl (cI, 24, .inl (fun _ => 0))), (b5, .inl (cI, 81, .inl (fun _ => 0))), (b6, .inl (cI, 12, .inl (fun _ => 0))), (b7, .inl (cI, 24, .inl (fun _ => 0)))] H _ := ⟨hP, hD, hS⟩
  clear hP hD hS hK9
  refine w_putF (W1 := [(m0, .inr (8, [.int (0 : Int32), .int (0 : Int32), .ref b1, .ref b2, .ref b3, .ref b4, .int (-1 : Int32), .int (0 : Int32), .int (-1 : Int32), .ref b5, .ref b6, .ref b7, .null, .null, .null, .null, .null, .null])), (b1, .inl (cI, 24, .inl (fun _ => 0))), (b2, .inl (cI, 24, .inl (fun _ => 0))), (b3, .inl (cI, 24, .inl (fun _ => 0))), (b4, .inl (cI, 24, .inl (fun _ => 0))), (b5, .inl (cI, 81, .inl (fun _ => 0))), (b6, .inl (cI, 12, .inl (fun _ => 0))), (b7, .inl (cI, 24, .inl (fun _ => 0)))]) hx hb hg hown hK hI iX8 tyX8 tyX8_ok nmX8 0 rfl rfl 11 (by decide) wF_RX8_35 rfl hin rfl (tyX8_ok 11 (by decide)) rfl rfl (Nat.le_of_ble_eq_true rfl) dX8_init_67 rfl (fun H locs hI => ?_)
  refine lv_aload_n hx hb dX8_init_70 rfl (lv_at hl 0 rfl) ?_
  refine lv_bipush (v := 24) hx hb dX8_init_71 (by decide) ?_
  refine va_newa (atype := .int) (ty := .int) (a0 := (24, .inl (fun _ => 0))) hx hb (hg _ wA_int) rfl hK.1 hI.1 hI.2.1 hI.2.2 hA (fun cA => rfl) (by decide) (by decide) (by decide) (Nat.le_of_ble_eq_true rfl) (Nat.le_of_ble_eq_true rfl) dX8_init_73 (fun b8 cA H hK9 hP hD hS => ?_)
  obtain rfl : cI = cA := ky_eq (ty := .int) (Or.inl rfl) (hK.1.2 0 _ rfl).2 (hK9.2 3 _ rfl).2
  replace hI : WI D A s.heap [(m0, .inr (8, [.int (0 : Int32), .int (0 : Int32), .ref b1, .ref b2, .ref b3, .ref b4, .int (-1 : Int32), .int (0 : Int32), .int (-1 : Int32), .ref b5, .ref b6, .ref b7, .null, .null, .null, .null, .null, .null])), (b1, .inl (cI, 24, .inl (fun _ => 0))), (b2, .inl (cI, 24, .inl (fun _ => 0))), (b3, .inl (cI, 24, .inl (fun _ => 0))), (b4, .inl (cI, 24, .inl (fun _ => 0))), (b5, .inl (cI, 81, .inl (fun _ => 0))), (b6, .inl (cI, 12, .inl (fun _ => 0))), (b7, .inl (cI, 24, .inl (fun _ => 0))), (b8, .inl (cI, 24, .inl (fun _ => 0)))] H _ := ⟨hP, hD, hS⟩
  clear hP hD hS hK9
  refine w_putF (W1 := [(m0, .inr (8, [.int (0 : Int32), .int (0 : Int32), .ref b1, .ref b2, .ref b3, .ref b4, .int (-1 : Int32), .int (0 : Int32), .int (-1 : Int32), .ref b5, .ref b6, .ref b7, .ref b8, .null, .null, .null, .null, .null])), (b1, .inl (cI, 24, .inl (fun _ => 0))), (b2, .inl (cI, 24, .inl (fun _ => 0))), (b3, .inl (cI, 24, .inl (fun _ => 0))), (b4, .inl (cI, 24, .inl (fun _ => 0))), (b5, .inl (cI, 81, .inl (fun _ => 0))), (b6, .inl (cI, 12, .inl (fun _ => 0))), (b7, .inl (cI, 24, .inl (fun _ => 0))), (b8, .inl (cI, 24, .inl (fun _ => 0)))]) hx hb hg hown hK hI iX8 tyX8 tyX8_ok nmX8 0 rfl rfl 12 (by decide) wF_RX8_38 rfl hin rfl (tyX8_ok 12 (by decide)) rfl rfl (Nat.le_of_ble_eq_true rfl) dX8_init_75 rfl (fun H locs hI => ?_)
  refine lv_aload_n hx hb dX8_init_78 rfl (lv_at hl 0 rfl) ?_
  refine lv_bipush (v := 24) hx hb dX8_init_79 (by decide) ?_
  refine va_newa (atype := .int) (ty := .int) (a0 := (24, .inl (fun _ => 0))) hx hb (hg _ wA_int) rfl hK.1 hI.1 hI.2.1 hI.2.2 hA (fun cA => rfl) (by decide) (by decide) (by decide) (Nat.le_of_ble_eq_true rfl) (Nat.le_of_ble_eq_true rfl) dX8_init_81 (fun b9 cA H hK9 hP hD hS => ?_)
  obtain rfl : cI = cA := ky_eq (ty := .int) (Or.inl rfl) (hK.1.2 0 _ rfl).2 (hK9.2 3 _ rfl).2
  replace hI : WI D A s.heap [(m0, .inr (8, [.int (0 : Int32), .int (0 : Int32), .ref b1, .ref b2, .ref b3, .ref b4, .int (-1 : Int32), .int (0 : Int32), .int (-1 : Int32), .ref b5, .ref b6, .ref b7, .ref b8, .null, .null, .null, .null, .null])), (b1, .inl (cI, 24, .inl (fun _ => 0))), (b2, .inl (cI, 24, .inl (fun _ => 0))), (b3, .inl (cI, 24, .inl (fun _ => 0))), (b4, .inl (cI, 24, .inl (fun _ => 0))), (b5, .inl (cI, 81, .inl (fun _ => 0))), (b6, .inl (cI, 12, .inl (fun _ => 0))), (b7, .inl (cI, 24, .inl (fun _ => 0))), (b8, .inl (cI, 24, .inl (fun _ => 0))), (b9, .inl (cI, 24, .inl (fun _ => 0)))] H _ := ⟨hP, hD, hS⟩
  clear hP hD hS hK9
  refine w_putF (W1 := [(m0, .inr (8, [.int (0 : Int32), .int (0 : Int32), .ref b1, .ref b2, .ref b3, .ref b4, .int (-1 : Int32), .int (0 : Int32), .int (-1 : Int32), .ref b5, .ref b6, .ref b7, .ref b8, .ref b9, .null, .null, .null, .null])), (b1, .inl (cI, 24, .inl (fun _ => 0))), (b2, .inl (cI, 24, .inl (fun _ => 0))), (b3, .inl (cI, 24, .inl (fun _ => 0))), (b4, .inl (cI, 24, .inl (fun _ => 0))), (b5, .inl (cI, 81, .inl (fun _ => 0))), (b6, .inl (cI, 12, .inl (fun _ => 0))), (b7, .inl (cI, 24, .inl (fun _ => 0))), (b8, .inl (cI, 24, .inl (fun _ => 0))), (b9, .inl (cI, 24, .inl (fun _ => 0)))]) hx hb hg hown hK hI iX8 tyX8 tyX8_ok nmX8 0 rfl rfl 13 (by decide) wF_RX8_41 rfl hin rfl (tyX8_ok 13 (by decide)) rfl rfl (Nat.le_of_ble_eq_true rfl) dX8_init_83 rfl (fun H locs hI => ?_)
  refine lv_aload_n hx hb dX8_init_86 rfl (lv_at hl 0 rfl) ?_
  refine lv_bipush (v := 25) hx hb dX8_init_87 (by decide) ?_
  refine va_newa (atype := .int) (ty := .int) (a0 := (25, .inl (fun _ => 0))) hx hb (hg _ wA_int) rfl hK.1 hI.1 hI.2.1 hI.2.2 hA (fun cA => rfl) (by decide) (by decide) (by decide) (Nat.le_of_ble_eq_true rfl) (Nat.le_of_ble_eq_true rfl) dX8_init_89 (fun b10 cA H hK9 hP hD hS => ?_)
  obtain rfl : cI = cA := ky_eq (ty := .int) (Or.inl rfl) (hK.1.2 0 _ rfl).2 (hK9.2 3 _ rfl).2
  replace hI : WI D A s.heap [(m0, .inr (8, [.int (0 : Int32), .int (0 : Int32), .ref b1, .ref b2, .ref b3, .ref b4, .int (-1 : Int32), .int (0 : Int32), .int (-1 : Int32), .ref b5, .ref b6, .ref b7, .ref b8, .ref b9, .null, .null, .null, .null])), (b1, .inl (cI, 24, .inl (fun _ => 0))), (b2, .inl (cI, 24, .inl (fun _ => 0))), (b3, .inl (cI, 24, .inl (fun _ => 0))), (b4, .inl (cI, 24, .inl (fun _ => 0))), (b5, .inl (cI, 81, .inl (fun _ => 0))), (b6, .inl (cI, 12, .inl (fun _ => 0))), (b7, .inl (cI, 24, .inl (fun _ => 0))), (b8, .inl (cI, 24, .inl (fun _ => 0))), (b9, .inl (cI, 24, .inl (fun _ => 0))), (b10, .inl (cI, 25, .inl (fun _ => 0)))] H _ := ⟨hP, hD, hS⟩
  clear hP hD hS hK9
  refine w_putF (W1 := [(m0, .inr (8, [.int (0 : Int32), .int (0 : Int32), .ref b1, .ref b2, .ref b3, .ref b4, .int (-1 : Int32), .int (0 : Int32), .int (-1 : Int32), .ref b5, .ref b6, .ref b7, .ref b8, .ref b9, .ref b10, .null, .null, .null])), (b1, .inl (cI, 24, .inl (fun _ => 0))), (b2, .inl (cI, 24, .inl (fun _ => 0))), (b3, .inl (cI, 24, .inl (fun _ => 0))), (b4, .inl (cI, 24, .inl (fun _ => 0))), (b5, .inl (cI, 81, .inl (fun _ => 0))), (b6, .inl (cI, 12, .inl (fun _ => 0))), (b7, .inl (cI, 24, .inl (fun _ => 0))), (b8, .inl (cI, 24, .inl (fun _ => 0))), (b9, .inl (cI, 24, .inl (fun _ => 0))), (b10, .inl (cI, 25, .inl (fun _ => 0)))]) hx hb hg hown hK hI iX8 tyX8 tyX8_ok nmX8 0 rfl rfl 14 (by decide) wF_RX8_44 rfl hin rfl (tyX8_ok 14 (by decide)) rfl rfl (Nat.le_of_ble_eq_true rfl) dX8_init_91 rfl (fun H locs hI => ?_)
  refine lv_aload_n hx hb dX8_init_94 rfl (lv_at hl 0 rfl) ?_
  refine lv_bipush (v := 24) hx hb dX8_init_95 (by decide) ?_
  refine va_newa (atype := .int) (ty := .int) (a0 := (24, .inl (fun _ => 0))) hx hb (hg _ wA_int) rfl hK.1 hI.1 hI.2.1 hI.2.2 hA (fun cA => rfl) (by decide) (by decide) (by decide) (Nat.le_of_ble_eq_true rfl) (Nat.le_of_ble_eq_true rfl) dX8_init_97 (fun b11 cA H hK9 hP hD hS => ?_)
  obtain rfl : cI = cA := ky_eq (ty := .int) (Or.inl rfl) (hK.1.2 0 _ rfl).2 (hK9.2 3 _ rfl).2
  replace hI : WI D A s.heap [(m0, .inr (8, [.int (0 : Int32), .int (0 : Int32), .ref b1, .ref b2, .ref b3, .ref b4, .int (-1 : Int32), .int (0 : Int32), .int (-1 : Int32), .ref b5, .ref b6, .ref b7, .ref b8, .ref b9, .ref b10, .null, .null, .null])), (b1, .inl (cI, 24, .inl (fun _ => 0))), (b2, .inl (cI, 24, .inl (fun _ => 0))), (b3, .inl (cI, 24, .inl (fun _ => 0))), (b4, .inl (cI, 24, .inl (fun _ => 0))), (b5, .inl (cI, 81, .inl (fun _ => 0))), (b6, .inl (cI, 12, .inl (fun _ => 0))), (b7, .inl (cI, 24, .inl (fun _ => 0))), (b8, .inl (cI, 24, .inl (fun _ => 0))), (b9, .inl (cI, 24, .inl (fun _ => 0))), (b10, .inl (cI, 25, .inl (fun _ => 0))), (b11, .inl (cI, 24, .inl (fun _ => 0)))] H _ := ⟨hP, hD, hS⟩
  clear hP hD hS hK9
  refine w_putF (W1 := [(m0, .inr (8, [.int (0 : Int32), .int (0 : Int32), .ref b1, .ref b2, .ref b3, .ref b4, .int (-1 : Int32), .int (0 : Int32), .int (-1 : Int32), .ref b5, .ref b6, .ref b7, .ref b8, .ref b9, .ref b10, .ref b11, .null, .null])), (b1, .inl (cI, 24, .inl (fun _ => 0))), (b2, .inl (cI, 24, .inl (fun _ => 0))), (b3, .inl (cI, 24, .inl (fun _ => 0))), (b4, .inl (cI, 24, .inl (fun _ => 0))), (b5, .inl (cI, 81, .inl (fun _ => 0))), (b6, .inl (cI, 12, .inl (fun _ => 0))), (b7, .inl (cI, 24, .inl (fun _ => 0))), (b8, .inl (cI, 24, .inl (fun _ => 0))), (b9, .inl (cI, 24, .inl (fun _ => 0))), (b10, .inl (cI, 25, .inl (fun _ => 0))), (b11, .inl (cI, 24, .inl (fun _ => 0)))]) hx hb hg hown hK hI iX8 tyX8 tyX8_ok nmX8 0 rfl rfl 15 (by decide) wF_RX8_47 rfl hin rfl (tyX8_ok 15 (by decide)) rfl rfl (Nat.le_of_ble_eq_true rfl) dX8_init_99 rfl (fun H locs hI => ?_)
  refine lv_aload_n hx hb dX8_init_102 rfl (lv_at hl 0 rfl) ?_
  refine lv_sipush (v := 4352) hx hb dX8_init_103 (by decide) ?_
  refine va_newa (atype := .boolean) (ty := .boolean) (a0 := (4352, .inl (fun _ => 0))) hx hb (hg _ wA_boolean) rfl hK.1 hI.1 hI.2.1 hI.2.2 hA (fun cA => rfl) (by decide) (by decide) (by decide) (Nat.le_of_ble_eq_true rfl) (Nat.le_of_ble_eq_true rfl) dX8_init_106 (fun b12 cA H hK9 hP hD hS => ?_)
  obtain rfl : cZ = cA := ky_eq (ty := .boolean) (Or.inr (Or.inr rfl)) (hK.1.2 2 _ rfl).2 (hK9.2 3 _ rfl).2
  replace hI : WI D A s.heap [(m0, .inr (8, [.int (0 : Int32), .int (0 : Int32), .ref b1, .ref b2, .ref b3, .ref b4, .int (-1 : Int32), .int (0 : Int32), .int (-1 : Int32), .ref b5, .ref b6, .ref b7, .ref b8, .ref b9, .ref b10, .ref b11, .null, .null])), (b1, .inl (cI, 24, .inl (fun _ => 0))), (b2, .inl (cI, 24, .inl (fun _ => 0))), (b3, .inl (cI, 24, .inl (fun _ => 0))), (b4, .inl (cI, 24, .inl (fun _ => 0))), (b5, .inl (cI, 81, .inl (fun _ => 0))), (b6, .inl (cI, 12, .inl (fun _ => 0))), (b7, .inl (cI, 24, .inl (fun _ => 0))), (b8, .inl (cI, 24, .inl (fun _ => 0))), (b9, .inl (cI, 24, .inl (fun _ => 0))), (b10, .inl (cI, 25, .inl (fun _ => 0))), (b11, .inl (cI, 24, .inl (fun _ => 0))), (b12, .inl (cZ, 4352, .inl (fun _ => 0)))] H _ := ⟨hP, hD, hS⟩
  clear hP hD hS hK9
  refine w_putF (W1 := [(m0, .inr (8, [.int (0 : Int32), .int (0 : Int32), .ref b1, .ref b2, .ref b3, .ref b4, .int (-1 : Int32), .int (0 : Int32), .int (-1 : Int32), .ref b5, .ref b6, .ref b7, .ref b8, .ref b9, .ref b10, .ref b11, .ref b12, .null])), (b1, .inl (cI, 24, .inl (fun _ => 0))), (b2, .inl (cI, 24, .inl (fun _ => 0))), (b3, .inl (cI, 24, .inl (fun _ => 0))), (b4, .inl (cI, 24, .inl (fun _ => 0))), (b5, .inl (cI, 81, .inl (fun _ => 0))), (b6, .inl (cI, 12, .inl (fun _ => 0))), (b7, .inl (cI, 24, .inl (fun _ => 0))), (b8, .inl (cI, 24, .inl (fun _ => 0))), (b9, .inl (cI, 24, .inl (fun _ => 0))), (b10, .inl (cI, 25, .inl (fun _ => 0))), (b11, .inl (cI, 24, .inl (fun _ => 0))), (b12, .inl (cZ, 4352, .inl (fun _ => 0)))]) hx hb hg hown hK hI iX8 tyX8 tyX8_ok nmX8 0 rfl rfl 16 (by decide) wF_RX8_50 rfl hin rfl (tyX8_ok 16 (by decide)) rfl rfl (Nat.le_of_ble_eq_true rfl) dX8_init_108 rfl (fun H locs hI => ?_)
  refine lv_aload_n hx hb dX8_init_111 rfl (lv_at hl 0 rfl) ?_
  refine lv_bipush (v := 9) hx hb dX8_init_112 (by decide) ?_
  refine va_newa (atype := .int) (ty := .int) (a0 := (9, .inl (fun _ => 0))) hx hb (hg _ wA_int) rfl hK.1 hI.1 hI.2.1 hI.2.2 hA (fun cA => rfl) (by decide) (by decide) (by decide) (Nat.le_of_ble_eq_true rfl) (Nat.le_of_ble_eq_true rfl) dX8_init_114 (fun b13 cA H hK9 hP hD hS => ?_)
  obtain rfl : cI = cA := ky_eq (ty := .int) (Or.inl rfl) (hK.1.2 0 _ rfl).2 (hK9.2 3 _ rfl).2
  replace hI : WI D A s.heap [(m0, .inr (8, [.int (0 : Int32), .int (0 : Int32), .ref b1, .ref b2, .ref b3, .ref b4, .int (-1 : Int32), .int (0 : Int32), .int (-1 : Int32), .ref b5, .ref b6, .ref b7, .ref b8, .ref b9, .ref b10, .ref b11, .ref b12, .null])), (b1, .inl (cI, 24, .inl (fun _ => 0))), (b2, .inl (cI, 24, .inl (fun _ => 0))), (b3, .inl (cI, 24, .inl (fun _ => 0))), (b4, .inl (cI, 24, .inl (fun _ => 0))), (b5, .inl (cI, 81, .inl (fun _ => 0))), (b6, .inl (cI, 12, .inl (fun _ => 0))), (b7, .inl (cI, 24, .inl (fun _ => 0))), (b8, .inl (cI, 24, .inl (fun _ => 0))), (b9, .inl (cI, 24, .inl (fun _ => 0))), (b10, .inl (cI, 25, .inl (fun _ => 0))), (b11, .inl (cI, 24, .inl (fun _ => 0))), (b12, .inl (cZ, 4352, .inl (fun _ => 0))), (b13, .inl (cI, 9, .inl (fun _ => 0)))] H _ := ⟨hP, hD, hS⟩
  clear hP hD hS hK9
  refine w_putF (W1 := [(m0, .inr (8, [.int (0 : Int32), .int (0 : Int32), .ref b1, .ref b2, .ref b3, .ref b4, .int (-1 : Int32), .int (0 : Int32), .int (-1 : Int32), .ref b5, .ref b6, .ref b7, .ref b8, .ref b9, .ref b10, .ref b11, .ref b12, .ref b13])), (b1, .inl (cI, 24, .inl (fun _ => 0))), (b2, .inl (cI, 24, .inl (fun _ => 0))), (b3, .inl (cI, 24, .inl (fun _ => 0))), (b4, .inl (cI, 24, .inl (fun _ => 0))), (b5, .inl (cI, 81, .inl (fun _ => 0))), (b6, .inl (cI, 12, .inl (fun _ => 0))), (b7, .inl (cI, 24, .inl (fun _ => 0))), (b8, .inl (cI, 24, .inl (fun _ => 0))), (b9, .inl (cI, 24, .inl (fun _ => 0))), (b10, .inl (cI, 25, .inl (fun _ => 0))), (b11, .inl (cI, 24, .inl (fun _ => 0))), (b12, .inl (cZ, 4352, .inl (fun _ => 0))), (b13, .inl (cI, 9, .inl (fun _ => 0)))]) hx hb hg hown hK hI iX8 tyX8 tyX8_ok nmX8 0 rfl rfl 17 (by decide) wF_RX8_54 rfl hin rfl (tyX8_ok 17 (by decide)) rfl rfl (Nat.le_of_ble_eq_true rfl) dX8_init_116 rfl (fun H locs hI => ?_)
  refine W.widen (k := 13) (n := 4671) (Nat.le_of_ble_eq_true rfl) (Nat.le_of_ble_eq_true rfl) ?_
  replace hI := hI.perm (w2 := [(m0, .inr (8, [.int (0 : Int32), .int (0 : Int32), .ref b1, .ref b2, .ref b3, .ref b4, .int (-1 : Int32), .int (0 : Int32), .int (-1 : Int32), .ref b5, .ref b6, .ref b7, .ref b8, .ref b9, .ref b10, .ref b11, .ref b12, .ref b13])), (b1, .inl (cI, 24, .inl (fun _ => 0))), (b2, .inl (cI, 24, .inl (fun _ => 0))), (b3, .inl (cI, 24, .inl (fun _ => 0))), (b4, .inl (cI, 24, .inl (fun _ => 0))), (b5, .inl (cI, 81, .inl (fun _ => 0))), (b6, .inl (cI, 12, .inl (fun _ => 0))), (b7, .inl (cI, 24, .inl (fun _ => 0))), (b8, .inl (cI, 24, .inl (fun _ => 0))), (b9, .inl (cI, 24, .inl (fun _ => 0))), (b10, .inl (cI, 25, .inl (fun _ => 0))), (b11, .inl (cI, 24, .inl (fun _ => 0))), (b12, .inl (cZ, 4352, .inl (fun _ => 0))), (b13, .inl (cI, 9, .inl (fun _ => 0)))]) [0, 1, 2, 3, 4, 5, 6, 7, 8, 9, 10, 11, 12, 13] rfl rfl
  exact rt_v (u := (b1, b2, b3, b4, b5, b6, b7, b8, b9, b10, b11, b12, b13)) hx hb hr hlocks hI hAe trivial dX8_init_119
