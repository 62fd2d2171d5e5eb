/-! ===== worlds up to order; calls on a prefix of the world ===== -/
theorem va_P_mem {D : va_G} {cl : List vw_C} {ws : va_W} {H : Heap} : va_P D cl ws H ↔ ∀ q ∈ ws, va_at D cl q H := by
  constructor
  · intro h q hq
    obtain ⟨k, hk⟩ := List.getElem?_of_mem hq
    exact h k q hk
  · intro h k q hk
    exact h q (List.mem_of_getElem? hk)
theorem va_D_mem {A : Nat → Prop} {ws : va_W} : va_D A ws ↔ (ws.map Prod.fst).Nodup ∧ ∀ q ∈ ws, A q.1 := by
  constructor
  · intro h
    refine ⟨?_, fun q hq => ?_⟩
    · refine List.pairwise_iff_getElem.mpr ?_
      intro i j hi hj hij e
      simp only [List.length_map] at hi hj
      simp only [List.getElem_map] at e
      have := h.1 i j ws[i] ws[j] (List.getElem?_eq_getElem hi) (List.getElem?_eq_getElem hj) e
      omega
    · obtain ⟨k, hk⟩ := List.getElem?_of_mem hq
      exact h.2 k q hk
  · rintro ⟨h1, h2⟩
    refine ⟨?_, fun k q hk => h2 q (List.mem_of_getElem? hk)⟩
    intro i j p q hi hj e
    have hp := List.pairwise_iff_getElem.mp h1
    obtain ⟨hi', ei⟩ := List.getElem?_eq_some_iff.mp hi
    obtain ⟨hj', ej⟩ := List.getElem?_eq_some_iff.mp hj
    rcases Nat.lt_trichotomy i j with h | h | h
    · refine absurd ?_ (hp i j (by simpa using hi') (by simpa using hj') h)
      simp only [List.getElem_map, ei, ej]; exact e
    · exact h
    · refine absurd ?_ (hp j i (by simpa using hj') (by simpa using hi') h)
      simp only [List.getElem_map, ei, ej]; exact e.symm
theorem WI.ofPerm {D : va_G} {A : Nat → Prop} {H0 : Heap} {W0 W1 : va_W} {H : Heap} {locs : List Loc} (hI : WI D A H0 W0 H locs) (h : W0.Perm W1) : WI D A H0 W1 H locs := by
  obtain ⟨hP, hD, hS⟩ := hI
  rw [va_P_mem] at hP
  rw [va_D_mem] at hD
  refine ⟨va_P_mem.mpr (fun q hq => hP q (h.mem_iff.mpr hq)), va_D_mem.mpr ⟨(h.map Prod.fst).nodup_iff.mp hD.1, fun q hq => hD.2 q (h.mem_iff.mpr hq)⟩, hS⟩
theorem va_nd_of : ∀ (l : List Nat), l.Nodup → va_nd l = true
  | [], _ => rfl
  | a :: l, h => by
    have h1 := List.nodup_cons.mp h
    simp only [va_nd, va_nd_of l h1.2, Bool.and_true]
    simpa using h1.1
theorem ap_C (wc wr : va_W) : (List.range wc.length).map (fun i => (wc ++ wr)[i]?) = wc.map some := by
  apply List.ext_getElem
  · simp
  · intro i h1 h2
    simp only [List.length_map, List.length_range] at h1
    simp [List.getElem?_append_left h1, List.getElem?_eq_getElem h1]
theorem ap_R (wc wr : va_W) : ((List.range wr.length).map (fun i => wc.length + i)).map (fun i => (wc ++ wr)[i]?) = wr.map some := by
  apply List.ext_getElem
  · simp
  · intro i h1 h2
    simp only [List.length_map, List.length_range] at h1
    simp [List.getElem?_append_right, List.getElem?_eq_getElem h1]
theorem ap_nC (wc : va_W) : va_nd (List.range wc.length) = true := va_nd_of _ List.nodup_range
theorem ap_nR (wc wr : va_W) : va_nd ((List.range wr.length).map (fun i => wc.length + i)) = true := by
  apply va_nd_of
  refine List.pairwise_iff_getElem.mpr ?_
  intro i j hi hj hij e
  simp at e
  omega
theorem ap_dis (wc wr : va_W) : ∀ i ∈ (List.range wr.length).map (fun i => wc.length + i), i ∉ List.range wc.length := by
  intro i hi
  simp only [List.mem_map, List.mem_range] at hi ⊢
  obtain ⟨j, -, rfl⟩ := hi
  omega
section LAWCALLS
variable {p : Program} {l : Launch} {e : Env} {R : Room} {s : State} {m : MethodId} {args : Array Value} {below : List Frame} {meth : Method} {c : Code} {H : Heap} {locs : List Loc} {cells slots : Nat} {Q : State → Prop}
variable {cc : ByteArray} {pc : Nat} {ls : Array Slot} {rest st0 : List Value} {D : va_G} {cI cJ cZ : ClassId} {A : Nat → Prop} {H0 : Heap} {W0 wc wr : va_W} {own C : String} {T : u_T} {N ci index : Nat} {fs : List Value}
variable {y : MethodName} {bytes : ByteArray} {maxL n nL : Nat} {ret : Option FieldType} {rm : Room} {As : List Value} {S : Type} {b : Nat}
theorem w_ViA {post : Int32 → S → Prop} {w1 : S → va_W} (hx : p.tables.exec = Jvm.exec) (hb : c.code = cc) (hml : c.maxLocals = nL) (hg : ∀ w ∈ GW, w.before args s = true) (hown : s.vm.findClass own = some m.cls) (hK : KK D cI cJ cZ s) (hA : ∀ q, H0.size ≤ q → A q) (hI : WI D A H0 W0 H locs) (hW : W0.Perm (wc ++ wr))
    (hM : MI l y (Cond.code y bytes maxL ret :: GW) rm D cI cJ cZ (.ref b :: As) wc post w1) (cal : CalV C y bytes maxL ret n) (hlink : Cond.methodLink own index y ∈ GW) (hR : rm.frames + 1 ≤ R.frames ∧ 8 + (maxL + 11) + rm.locals ≤ R.locals) (hcl : vwCl[ci]? = some (C, T, N)) (hrecv : wc[0]? = some (b, .inr (ci, fs)))
    (hst : st0 = As.reverse ++ .ref b :: rest) (hn : As.length = n) (hsz : ls.size = nL) (hroom : (rest.map fun v => v.category).sum ≤ 8) (hdg : decode cc pc = .ok (.invokevirtual index, 3)) (hf : cells + rm.cells ≤ R.cells ∧ slots + rm.slots ≤ R.slots)
    (kk : ∀ (r : Int32) (u : S) (H1 : Heap) (locs1 : List Loc), post r u → WI D A H0 (w1 u ++ wr) H1 locs1 → W p l e R s m args below meth c H1 locs1 (cells + rm.cells) (slots + rm.slots) Q (F0 m (pc + 3) ls (.int r :: rest))) : W p l e R s m args below meth c H locs cells slots Q (F0 m pc ls st0) :=
  w_Vi hx hb hml hg hown hK hA (hI.ofPerm hW) hM cal hlink hR hcl hrecv (List.range wc.length) ((List.range wr.length).map (fun i => wc.length + i)) (ap_nC wc) (ap_C wc wr) (ap_R wc wr) (ap_nR wc wr) (ap_dis wc wr) hst hn hsz hroom hdg hf (fun r u H1 locs1 hp hI1 => kk r u H1 locs1 hp (hI1.ofPerm List.perm_append_comm))
theorem w_VlA {post : Int64 → S → Prop} {w1 : S → va_W} (hx : p.tables.exec = Jvm.exec) (hb : c.code = cc) (hml : c.maxLocals = nL) (hg : ∀ w ∈ GW, w.before args s = true) (hown : s.vm.findClass own = some m.cls) (hK : KK D cI cJ cZ s) (hA : ∀ q, H0.size ≤ q → A q) (hI : WI D A H0 W0 H locs) (hW : W0.Perm (wc ++ wr))
    (hM : ML l y (Cond.code y bytes maxL ret :: GW) rm D cI cJ cZ (.ref b :: As) wc post w1) (cal : CalV C y bytes maxL ret n) (hlink : Cond.methodLink own index y ∈ GW) (hR : rm.frames + 1 ≤ R.frames ∧ 8 + (maxL + 11) + rm.locals ≤ R.locals) (hcl : vwCl[ci]? = some (C, T, N)) (hrecv : wc[0]? = some (b, .inr (ci, fs)))
    (hst : st0 = As.reverse ++ .ref b :: rest) (hn : As.length = n) (hsz : ls.size = nL) (hroom : (rest.map fun v => v.category).sum ≤ 8) (hdg : decode cc pc = .ok (.invokevirtual index, 3)) (hf : cells + rm.cells ≤ R.cells ∧ slots + rm.slots ≤ R.slots)
    (kk : ∀ (r : Int64) (u : S) (H1 : Heap) (locs1 : List Loc), post r u → WI D A H0 (w1 u ++ wr) H1 locs1 → W p l e R s m args below meth c H1 locs1 (cells + rm.cells) (slots + rm.slots) Q (F0 m (pc + 3) ls (.long r :: rest))) : W p l e R s m args below meth c H locs cells slots Q (F0 m pc ls st0) :=
  w_Vl hx hb hml hg hown hK hA (hI.ofPerm hW) hM cal hlink hR hcl hrecv (List.range wc.length) ((List.range wr.length).map (fun i => wc.length + i)) (ap_nC wc) (ap_C wc wr) (ap_R wc wr) (ap_nR wc wr) (ap_dis wc wr) hst hn hsz hroom hdg hf (fun r u H1 locs1 hp hI1 => kk r u H1 locs1 hp (hI1.ofPerm List.perm_append_comm))
end LAWCALLS
/-! caches -/
def vH (o : Option (Nat × Nat × (Nat → Int32))) : Value := o.elim .null (fun q => .ref q.1)
def vPk (o : Option ((Nat × Nat × Nat × Nat) × (Nat → Int32) × (Nat → Int32) × (Nat → Int32))) : Value := o.elim .null (fun q => .ref q.1.1)
def vT (o : Option (Nat × Nat × (Nat → Int64))) : Value := o.elim .null (fun q => .ref q.1)
def eH (cI : ClassId) (n0 : Nat) (o : Option (Nat × Nat × (Nat → Int32))) : va_W := o.elim [] (fun q => [(q.1, .inr (2, [.ref n0, .ref q.2.1])), (q.2.1, .inl (cI, 4096, .inl q.2.2))])
def eP (cI cZ : ClassId) (n0 : Nat) (o : Option ((Nat × Nat × Nat × Nat) × (Nat → Int32) × (Nat → Int32) × (Nat → Int32))) : va_W := o.elim [] (fun q => [(q.1.1, .inr (4, [.ref n0, .ref q.1.2.1, .ref q.1.2.2.1, .ref q.1.2.2.2])), (q.1.2.1, .inl (cI, 12, .inl q.2.1)), (q.1.2.2.1, .inl (cI, 12, .inl q.2.2.1)), (q.1.2.2.2, .inl (cZ, 4096, .inl q.2.2.2))])
def eT (cJ : ClassId) (n0 : Nat) (o : Option (Nat × Nat × (Nat → Int64))) : va_W := o.elim [] (fun q => [(q.1, .inr (6, [.ref n0, .ref q.2.1])), (q.2.1, .inl (cJ, 4096, .inr (.inl q.2.2)))])
