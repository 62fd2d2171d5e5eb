/-! ===== loops as least fixed points, and the words of the decompiled functions ===== -/
def stepN {σ ρ : Type} (f : σ → Option (σ ⊕ ρ)) : Nat → σ → Option ρ
  | 0, _ => none
  | n + 1, s => (f s).bind (fun x => Sum.elim (stepN f n) some x)
noncomputable def loopO {σ ρ : Type} (f : σ → Option (σ ⊕ ρ)) (s : σ) : Option ρ :=
  @dite _ (∃ n r, stepN f n s = some r) (Classical.propDecidable _) (fun h => some (Classical.choose (Classical.choose_spec h))) (fun _ => none)
theorem stepN_succ {σ ρ : Type} {f : σ → Option (σ ⊕ ρ)} : ∀ {n : Nat} {s : σ} {r : ρ}, stepN f n s = some r → stepN f (n + 1) s = some r
  | 0, s, r, h => by cases h
  | n + 1, s, r, h => by
    rw [stepN] at h ⊢
    cases hs : f s with
    | none => rw [hs] at h; cases h
    | some x =>
      rw [hs] at h
      cases x with
      | inl s' => exact stepN_succ (n := n) h
      | inr q => exact h
theorem stepN_le {σ ρ : Type} {f : σ → Option (σ ⊕ ρ)} {n m : Nat} {s : σ} {r : ρ} (hnm : n ≤ m) (h : stepN f n s = some r) : stepN f m s = some r := by
  induction hnm with
  | refl => exact h
  | step _ ih => exact stepN_succ ih
theorem loopO_some {σ ρ : Type} {f : σ → Option (σ ⊕ ρ)} {s : σ} {r : ρ} : loopO f s = some r ↔ ∃ n, stepN f n s = some r := by
  constructor
  · intro h
    unfold loopO at h
    split at h
    · rename_i hx
      have h2 := Classical.choose_spec (Classical.choose_spec hx)
      rw [Option.some.inj h] at h2
      exact ⟨_, h2⟩
    · cases h
  · rintro ⟨n, h⟩
    unfold loopO
    split
    · rename_i hx
      have h2 := Classical.choose_spec (Classical.choose_spec hx)
      have h3 := stepN_le (Nat.le_max_left n (Classical.choose hx)) h
      have h4 := stepN_le (Nat.le_max_right n (Classical.choose hx)) h2
      rw [h3] at h4
      exact h4.symm
    · rename_i hx
      exact absurd ⟨n, r, h⟩ hx
theorem loopO_eq {σ ρ : Type} (f : σ → Option (σ ⊕ ρ)) (s : σ) : loopO f s = (f s).bind (fun x => Sum.elim (loopO f) some x) := by
  apply Option.ext
  intro r
  cases hs : f s with
  | none =>
    constructor
    · intro h
      obtain ⟨n, hn⟩ := loopO_some.mp h
      cases n with
      | zero => cases hn
      | succ n => rw [stepN, hs] at hn; cases hn
    · intro h; cases h
  | some x =>
    cases x with
    | inl s' =>
      constructor
      · intro h
        obtain ⟨n, hn⟩ := loopO_some.mp h
        cases n with
        | zero => cases hn
        | succ n => rw [stepN, hs] at hn; exact loopO_some.mpr ⟨n, hn⟩
      · intro h
        obtain ⟨n, hn⟩ := loopO_some.mp h
        refine loopO_some.mpr ⟨n + 1, ?_⟩
        rw [stepN, hs]; exact hn
    | inr q =>
      constructor
      · intro h
        obtain ⟨n, hn⟩ := loopO_some.mp h
        cases n with
        | zero => cases hn
        | succ n => rw [stepN, hs] at hn; exact hn
      · intro h
        refine loopO_some.mpr ⟨1, ?_⟩
        rw [stepN, hs]; exact h
theorem loopO_ind {σ ρ : Type} {f : σ → Option (σ ⊕ ρ)} (P : σ → Prop) (M : ρ → Prop) (hs : ∀ s x, f s = some x → Sum.elim P M x → P s) : ∀ s r, loopO f s = some r → M r → P s := by
  intro s r h hM
  obtain ⟨n, hn⟩ := loopO_some.mp h
  induction n generalizing s with
  | zero => cases hn
  | succ n ih =>
    rw [stepN] at hn
    cases hx : f s with
    | none => rw [hx] at hn; cases hn
    | some x =>
      rw [hx] at hn
      cases x with
      | inl s' => exact hs s _ hx (ih s' (loopO_some.mpr ⟨n, hn⟩) hn)
      | inr q => exact hs s _ hx (by cases hn; exact hM)
def bnd {α β : Type} (a : α) (k : α → β) : β := k a
def rd {α β : Type} (f : Nat → α) (n : Nat) (i : Int32) (k : α → Option β) : Option β := if i < 0 ∨ n ≤ i.toNatClampNeg then none else k (f i.toNatClampNeg)
def wr {β : Type} (f : Nat → Int32) (n : Nat) (i : Int32) (x : Int32) (k : (Nat → Int32) → Option β) : Option β := if i < 0 ∨ n ≤ i.toNatClampNeg then none else k (upd f i.toNatClampNeg x)
def wrJ {β : Type} (f : Nat → Int64) (n : Nat) (i : Int32) (x : Int64) (k : (Nat → Int64) → Option β) : Option β := if i < 0 ∨ n ≤ i.toNatClampNeg then none else k (vp_updL f i.toNatClampNeg x)
def dv {β : Type} (x y : Int32) (k : Int32 → Option β) : Option β := if y = 0 then none else k (x / y)
def rm_ {β : Type} (x y : Int32) (k : Int32 → Option β) : Option β := if y = 0 then none else k (x - x / y * y)
theorem bnd_e {α β : Type} {a : α} {k : α → Option β} {r : β} (h : bnd a k = some r) : ∀ x, x = a → k x = some r := fun _ e => e ▸ h
theorem rd_e {α β : Type} {f : Nat → α} {n : Nat} {i : Int32} {k : α → Option β} {r : β} (h : rd f n i k = some r) : vp_in i n ∧ ∀ x, x = f i.toNatClampNeg → k x = some r := by
  unfold rd at h
  split at h
  · cases h
  · rename_i hn; exact ⟨hn, fun _ e => e ▸ h⟩
theorem wr_e {β : Type} {f : Nat → Int32} {n : Nat} {i x : Int32} {k : (Nat → Int32) → Option β} {r : β} (h : wr f n i x k = some r) : vp_in i n ∧ ∀ g, g = upd f i.toNatClampNeg x → k g = some r := by
  unfold wr at h
  split at h
  · cases h
  · rename_i hn; exact ⟨hn, fun _ e => e ▸ h⟩
theorem wrJ_e {β : Type} {f : Nat → Int64} {n : Nat} {i : Int32} {x : Int64} {k : (Nat → Int64) → Option β} {r : β} (h : wrJ f n i x k = some r) : vp_in i n ∧ ∀ g, g = vp_updL f i.toNatClampNeg x → k g = some r := by
  unfold wrJ at h
  split at h
  · cases h
  · rename_i hn; exact ⟨hn, fun _ e => e ▸ h⟩
theorem dv_e {β : Type} {x y : Int32} {k : Int32 → Option β} {r : β} (h : dv x y k = some r) : ¬ y = 0 ∧ ∀ z, z = x / y → k z = some r := by
  unfold dv at h
  split at h
  · cases h
  · rename_i hn; exact ⟨hn, fun _ e => e ▸ h⟩
theorem rm_e {β : Type} {x y : Int32} {k : Int32 → Option β} {r : β} (h : rm_ x y k = some r) : ¬ y = 0 ∧ ∀ z, z = x - x / y * y → k z = some r := by
  unfold rm_ at h
  split at h
  · cases h
  · rename_i hn; exact ⟨hn, fun _ e => e ▸ h⟩
theorem bd_e {α β : Type} {o : Option α} {k : α → Option β} {r : β} (h : o.bind k = some r) : ∃ x, o = some x ∧ k x = some r := Option.bind_eq_some_iff.mp h
theorem ite_t {β : Type} {c : Prop} [Decidable c] {a b : Option β} {r : β} (hc : c) (h : (if c then a else b) = some r) : a = some r := by rw [if_pos hc] at h; exact h
theorem ite_f {β : Type} {c : Prop} [Decidable c] {a b : Option β} {r : β} (hc : ¬ c) (h : (if c then a else b) = some r) : b = some r := by rw [if_neg hc] at h; exact h
theorem mp_e {α β : Type} {o : Option α} {g : α → β} {r : β} (h : o.map g = some r) : ∃ x, o = some x ∧ g x = r := Option.map_eq_some_iff.mp h
/-! ===== the world of a method: the cells it holds, apart, and nothing else changed ===== -/
def WI (D : va_G) (A : Nat → Prop) (H0 : Heap) (ws : va_W) (H : Heap) (locs : List Loc) : Prop := va_P D vwCl ws H ∧ va_D A ws ∧ va_S A H0 H locs
def nestW : List Cond := [.methodLinkNest RX0 55 yX7_isIn RX7, .methodLinkNest RX2 29 yX7_needFor RX7, .methodLinkNest RX2 51 yX7_placeOf RX7, .methodLinkNest RX3 38 yX7_isIn RX7, .methodLinkNest RX3 61 yX7_leastOutside RX7, .methodLinkNest RX4 57 yX7_isIn RX7, .methodLinkNest RX5 32 yX7_isIn RX7, .methodLinkNest RX6 29 yX7_placeOf RX7, .methodLinkNest RX6 45 yX7_isIn RX7]
theorem nestW_in : ∀ w ∈ nestW, w ∈ lw_tbl := by decide +kernel
def KK (D : va_G) (cI cJ cZ : ClassId) (U : State) : Prop := va_K D vwCl [(cI, .int), (cJ, .long), (cZ, .boolean)] U ∧ ∀ w ∈ nestW, va_Nw w U
theorem nestW_warm {s U : State} (hW : s.WarmedH U.vm) (h : ∀ w ∈ nestW, va_Nw w s) : ∀ w ∈ nestW, va_Nw w U := by
  unfold nestW at h ⊢
  simp only [List.forall_mem_cons] at h ⊢
  obtain ⟨h1, h2, h3, h4, h5, h6, h7, h8, h9, h10⟩ := h
  exact ⟨h1.warmM hW, h2.warmM hW, h3.warmM hW, h4.warmM hW, h5.warmM hW, h6.warmM hW, h7.warmM hW, h8.warmM hW, h9.warmM hW, fun _ h => absurd h List.not_mem_nil⟩
theorem nestW_on : ∀ w ∈ nestW, w.onTables = true := by decide +kernel
theorem KK.warm {D : va_G} {cI cJ cZ : ClassId} {s U : State} (hW : s.WarmedH U.vm) (h : KK D cI cJ cZ s) : KK D cI cJ cZ U := ⟨va_K.moved hW.alike h.1, nestW_warm hW h.2⟩
theorem KK.blind {D : va_G} {cI cJ cZ : ClassId} {U : State} {g : JFrame} {mk : MethodId} {a : Array Value} (h : KK D cI cJ cZ U) : KK D cI cJ cZ (U.calling g mk a) := ⟨va_K.moved (u := U) (U := U.calling g mk a) (Vm.Alike.refl U.vm) h.1, fun w hw => va_Nw.same (nestW_on w hw) (u := U) (U := U.calling g mk a) rfl (h.2 w hw)⟩
/-! contracts: a method of world wc, args av -/
def PcW (D : va_G) (cI cJ cZ : ClassId) (av : List Value) (wc : va_W) (sz : Nat) : Array Value → State → Prop := va_Pc av (fun U => U.heap.size = sz ∧ va_P D vwCl wc U.heap ∧ KK D cI cJ cZ U ∧ va_D (fun _ => True) wc)
def BW (D : va_G) {S : Type} (wc : va_W) (sz : Nat) (w1 : S → va_W) : S → State → Prop := fun u t => va_P D vwCl (w1 u) t.heap ∧ va_D (va_A wc sz) (w1 u)
def MI {S : Type} (l : Launch) (y : MethodName) (ws : List Cond) (rm : Room) (D : va_G) (cI cJ cZ : ClassId) (av : List Value) (wc : va_W) (post : Int32 → S → Prop) (w1 : S → va_W) : Prop := ∀ sz, Met l y ws rm (PcW D cI cJ cZ av wc sz) (va_Qi post (BW D wc sz w1) (va_A wc sz)) rm.cells rm.slots (va_A wc sz)
def ML {S : Type} (l : Launch) (y : MethodName) (ws : List Cond) (rm : Room) (D : va_G) (cI cJ cZ : ClassId) (av : List Value) (wc : va_W) (post : Int64 → S → Prop) (w1 : S → va_W) : Prop := ∀ sz, Met l y ws rm (PcW D cI cJ cZ av wc sz) (va_Ql post (BW D wc sz w1) (va_A wc sz)) rm.cells rm.slots (va_A wc sz)
def MV {S : Type} (l : Launch) (y : MethodName) (ws : List Cond) (rm : Room) (D : va_G) (cI cJ cZ : ClassId) (av : List Value) (wc : va_W) (post : S → Prop) (w1 : S → va_W) : Prop := ∀ sz, Met l y ws rm (PcW D cI cJ cZ av wc sz) (va_Qv post (BW D wc sz w1) (va_A wc sz)) rm.cells rm.slots (va_A wc sz)
def MSi (l : Launch) (y : MethodName) (ws : List Cond) (rm : Room) (D : va_G) (cI cJ cZ : ClassId) (av : List Value) (r0 : Int32) : Prop := Met l y ws rm (va_Pc av (fun U => KK D cI cJ cZ U)) (vp_Si (fun r => r = r0)) 0 0 (fun _ => False)
theorem PcW.blind {D : va_G} {cI cJ cZ : ClassId} {av : List Value} {wc : va_W} {sz : Nat} : FrameBlind (PcW D cI cJ cZ av wc sz) := fun a U g mk q => by
  obtain ⟨q0, q1, qP, qK, qD⟩ := q
  exact ⟨q0, q1, qP, qK.blind, qD⟩
section CALLS
variable {p : Program} {l : Launch} {e : Env} {R : Room} {s : State} {m : MethodId} {args : Array Value} {below : List Frame} {meth : Method} {c : Code} {H : Heap} {locs : List Loc} {cells slots : Nat} {Q : State → Prop}
variable {cc : ByteArray} {pc : Nat} {ls : Array Slot} {rest st0 : List Value} {D : va_G} {cI cJ cZ : ClassId} {A : Nat → Prop} {H0 : Heap} {W0 wc wr : va_W} {y : MethodName} {ws : List Cond} {rm : Room} {av : List Value} {S : Type}
theorem WI.cut (hI : WI D A H0 W0 H locs) (hA : ∀ q, H0.size ≤ q → A q) (isC : List Nat) (hn : va_nd isC = true) (hC : isC.map (fun i => W0[i]?) = wc.map some) : va_P D vwCl wc H ∧ va_D (fun _ => True) wc ∧ ∀ q, va_A wc H.size q → A q := by
  obtain ⟨hP, hD, hS⟩ := hI
  refine ⟨?_, (hD.sub isC hn hC).weaken (fun _ _ _ _ => trivial), va_free hD hS hA isC hC⟩
  intro k q hq
  have h1 : (isC.map (fun i => W0[i]?))[k]? = some (some q) := by rw [hC, List.getElem?_map, hq]; rfl
  rw [List.getElem?_map] at h1
  cases hi : isC[k]? with
  | none => rw [hi] at h1; cases h1
  | some i => rw [hi] at h1; exact hP i q (Option.some.inj h1)
theorem WI.perm {w2 : va_W} (hI : WI D A H0 W0 H locs) (is : List Nat) (hn : va_nd is = true) (hs : is.map (fun i => W0[i]?) = w2.map some) : WI D A H0 w2 H locs := by
  obtain ⟨hP, hD, hS⟩ := hI
  refine ⟨?_, hD.sub is hn hs, hS⟩
  intro k q hq
  have h1 : (is.map (fun i => W0[i]?))[k]? = some (some q) := by rw [hs, List.getElem?_map, hq]; rfl
  rw [List.getElem?_map] at h1
  cases hi : is[k]? with
  | none => rw [hi] at h1; cases h1
  | some i => rw [hi] at h1; exact hP i q (Option.some.inj h1)
theorem pre_W {sz : Nat} (hK : KK D cI cJ cZ s) (hP : va_P D vwCl wc H) (hD : va_D (fun _ => True) wc) (hz : H.size = sz) : ∀ U : State, U.heap = H → s.WarmedH U.vm → PcW D cI cJ cZ av wc sz av.toArray U := fun U hU hW => ⟨rfl, by rw [hU]; exact hz, by rw [hU]; exact hP, hK.warm hW, hD⟩
theorem cl_i {post : Int32 → S → Prop} {w1 : S → va_W} {a : Array Value} {mc ms : Nat} (hr : va_Run p l e R s m args below meth c H locs cells slots mc ms (F0 m pc ls st0) rest (va_Qi post (BW D wc H.size w1) (va_A wc H.size) a) (va_A wc H.size))
    (hI : WI D A H0 W0 H locs) (hF : ∀ q, va_A wc H.size q → A q) (isC isR : List Nat) (hC : isC.map (fun i => W0[i]?) = wc.map some) (hR : isR.map (fun i => W0[i]?) = wr.map some) (hn : va_nd isR = true) (hdis : ∀ i ∈ isR, i ∉ isC)
    (kk : ∀ (r : Int32) (u : S) (H1 : Heap) (locs1 : List Loc), post r u → WI D A H0 (wr ++ w1 u) H1 locs1 → W p l e R s m args below meth c H1 locs1 (cells + mc) (slots + ms) Q (F0 m (pc + 3) ls (.int r :: rest))) : W p l e R s m args below meth c H locs cells slots Q (F0 m pc ls st0) := by
  refine va_calli hr hI.2.2 (fun q _ h => hF q h) hF (fun r u t H1 locs1 ht hvm hp hB hz hk hS => ?_)
  obtain ⟨hP1, hD1⟩ := hB
  rw [ht] at hP1
  obtain ⟨hP2, hD2⟩ := va_join hI.1 hI.2.1 isC isR hC hR hn hdis hk hF hP1 hD1
  exact kk r u H1 locs1 hp ⟨hP2, hD2, hS⟩
theorem cl_l {post : Int64 → S → Prop} {w1 : S → va_W} {a : Array Value} {mc ms : Nat} (hr : va_Run p l e R s m args below meth c H locs cells slots mc ms (F0 m pc ls st0) rest (va_Ql post (BW D wc H.size w1) (va_A wc H.size) a) (va_A wc H.size))
    (hI : WI D A H0 W0 H locs) (hF : ∀ q, va_A wc H.size q → A q) (isC isR : List Nat) (hC : isC.map (fun i => W0[i]?) = wc.map some) (hR : isR.map (fun i => W0[i]?) = wr.map some) (hn : va_nd isR = true) (hdis : ∀ i ∈ isR, i ∉ isC)
    (kk : ∀ (r : Int64) (u : S) (H1 : Heap) (locs1 : List Loc), post r u → WI D A H0 (wr ++ w1 u) H1 locs1 → W p l e R s m args below meth c H1 locs1 (cells + mc) (slots + ms) Q (F0 m (pc + 3) ls (.long r :: rest))) : W p l e R s m args below meth c H locs cells slots Q (F0 m pc ls st0) := by
  refine va_calll hr hI.2.2 (fun q _ h => hF q h) hF (fun r u t H1 locs1 ht hvm hp hB hz hk hS => ?_)
  obtain ⟨hP1, hD1⟩ := hB
  rw [ht] at hP1
  obtain ⟨hP2, hD2⟩ := va_join hI.1 hI.2.1 isC isR hC hR hn hdis hk hF hP1 hD1
  exact kk r u H1 locs1 hp ⟨hP2, hD2, hS⟩
theorem cl_v {post : S → Prop} {w1 : S → va_W} {a : Array Value} {mc ms : Nat} (hr : va_Run p l e R s m args below meth c H locs cells slots mc ms (F0 m pc ls st0) rest (va_Qv post (BW D wc H.size w1) (va_A wc H.size) a) (va_A wc H.size))
    (hI : WI D A H0 W0 H locs) (hF : ∀ q, va_A wc H.size q → A q) (isC isR : List Nat) (hC : isC.map (fun i => W0[i]?) = wc.map some) (hR : isR.map (fun i => W0[i]?) = wr.map some) (hn : va_nd isR = true) (hdis : ∀ i ∈ isR, i ∉ isC)
    (kk : ∀ (u : S) (H1 : Heap) (locs1 : List Loc), post u → WI D A H0 (wr ++ w1 u) H1 locs1 → W p l e R s m args below meth c H1 locs1 (cells + mc) (slots + ms) Q (F0 m (pc + 3) ls rest)) : W p l e R s m args below meth c H locs cells slots Q (F0 m pc ls st0) := by
  refine va_callv hr hI.2.2 (fun q _ h => hF q h) hF (fun u t H1 locs1 ht hvm hp hB hz hk hS => ?_)
  obtain ⟨hP1, hD1⟩ := hB
  rw [ht] at hP1
  obtain ⟨hP2, hD2⟩ := va_join hI.1 hI.2.1 isC isR hC hR hn hdis hk hF hP1 hD1
  exact kk u H1 locs1 hp ⟨hP2, hD2, hS⟩
theorem cs_i {post : Int32 → Prop} {a : Array Value} (hr : va_Run p l e R s m args below meth c H locs cells slots 0 0 (F0 m pc ls st0) rest (vp_Si post a) (fun _ => False))
    (kk : ∀ r : Int32, post r → W p l e R s m args below meth c H locs cells slots Q (F0 m (pc + 3) ls (.int r :: rest))) : W p l e R s m args below meth c H locs cells slots Q (F0 m pc ls st0) := by
  intro T hT X
  obtain ⟨v, st₀, t, T', L, h0, X', hL, e1, e2, ⟨r, hv, hp, hh⟩, st⟩ := hr T hT X
  cases hv
  obtain ⟨t2, a1, b1⟩ := kk r hp T' (by rw [e1, hh, h0]) (Stand.forget X' (fun q h => (hL q h).elim))
  exact ⟨t2, st t2 a1, b1⟩
end CALLS
