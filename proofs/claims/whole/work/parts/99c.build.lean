/-! ===== cells are made: an object, and new cells behind each other ===== -/
def iwl (sz : Nat) (Es : List va_E) : va_W := Es.mapIdx (fun i e => (sz + i, e))
theorem iwl_get {sz : Nat} {Es : List va_E} {i : Nat} : (iwl sz Es)[i]? = (Es[i]?).map (fun e => (sz + i, e)) := by unfold iwl; rw [List.getElem?_mapIdx]
theorem iwl_len (sz : Nat) (Es : List va_E) : (iwl sz Es).length = Es.length := by unfold iwl; rw [List.length_mapIdx]
theorem iwl_app (sz : Nat) (Es : List va_E) (e : va_E) : iwl sz (Es ++ [e]) = iwl sz Es ++ [(sz + Es.length, e)] := by unfold iwl; rw [List.mapIdx_concat]
theorem iwl_mem {sz : Nat} {Es : List va_E} {q : Nat × va_E} (h : q ∈ iwl sz Es) : ∃ i e, Es[i]? = some e ∧ q = (sz + i, e) := by
  obtain ⟨i, hi⟩ := List.getElem?_of_mem h
  rw [iwl_get] at hi
  cases hE : Es[i]? with
  | none => rw [hE] at hi; cases hi
  | some e => rw [hE] at hi; exact ⟨i, e, hE, (Option.some.inj hi).symm⟩
/-- what else the tables say that a maker needs -/
def nI1 : Cond := .methodLinkNest RX11 9 yX6_init RX11
def nI2 : Cond := .methodLinkNest RX11 36 yX9_init RX11
def ExI (U : State) : Prop := va_AO RX5 U ∧ AG U ∧ va_Nw nI1 U ∧ va_Nw nI2 U
theorem ExI.warm {s U : State} (hW : s.WarmedH U.vm) (h : ExI s) : ExI U := ⟨h.1.moved hW.alike, h.2.1.moved hW.alike, va_Nw.warmM hW h.2.2.1, va_Nw.warmM hW h.2.2.2⟩
theorem ExI.same {s U : State} (hv : s.vm = U.vm) (h : ExI s) : ExI U := by
  have ha : s.vm.Alike U.vm := by rw [hv]; exact Vm.Alike.refl _
  exact ⟨h.1.moved ha, h.2.1.moved ha, va_Nw.same rfl hv h.2.2.1, va_Nw.same rfl hv h.2.2.2⟩
def Wi (D : va_G) (tys : List (ClassId × FieldType)) (base : va_W) (sz : Nat) (Es : List va_E) (A : Nat → Prop) (s : State) (H : Heap) (locs : List Loc) : Prop :=
  va_K D cls13 tys s ∧ va_P D cls13 (base ++ iwl sz Es) H ∧ va_D A (base ++ iwl sz Es) ∧ va_S A s.heap H locs ∧ (∀ q, sz ≤ q → A q) ∧ s.heap.size = sz
section Build
variable {p : Program} {l : Launch} {e : Env} {R : Room} {s : State} {m : MethodId} {args : Array Value} {below : List Frame} {meth : Method} {c : Code} {H : Heap} {locs : List Loc} {cells slots : Nat} {Q : State → Prop}
variable {D : va_G} {tys : List (ClassId × FieldType)} {base : va_W} {sz : Nat} {Es : List va_E} {A : Nat → Prop} {pc : Nat} {ls : Array Slot} {rest : List Value} {M : MI}
theorem Wi.low (w : Wi D tys base sz Es A s H locs) : sz + Es.length ≤ H.size := by
  obtain ⟨-, hP, -, hS, -, hz⟩ := w
  rcases Nat.eq_zero_or_pos Es.length with h0 | h0
  · have := hS.1; omega
  · have hi : Es.length - 1 < Es.length := by omega
    have h1 : (base ++ iwl sz Es)[base.length + (Es.length - 1)]? = some (sz + (Es.length - 1), Es[Es.length - 1]) := by
      rw [List.getElem?_append_right (by omega), Nat.add_sub_cancel_left, iwl_get, List.getElem?_eq_getElem hi]; rfl
    have := (hP _ _ h1).lt
    have h2 : sz + (Es.length - 1) < H.size := this
    omega
theorem W_sz {g : JFrame} (k : H.size ≤ s.heap.size + cells → W p l e R s m args below meth c H locs cells slots Q g) : W p l e R s m args below meth c H locs cells slots Q g :=
  fun T hT X => k (by rw [← hT]; exact X.heapSize) T hT X
theorem Wi.push {E : va_E} {H1 : Heap} (w : Wi D tys base sz Es A s H locs) (hz : H.size = sz + Es.length) (z1 : H1.size = H.size + 1) (o1 : ∀ q, q < H.size → H1[q]? = H[q]?) (ha : va_at D cls13 (sz + Es.length, E) H1) : Wi D tys base sz (Es ++ [E]) A s H1 locs := by
  obtain ⟨hK, hP, hD, hS, hA, hs⟩ := w
  refine ⟨hK, ?_, ?_, ⟨Nat.le_trans hS.1 (by omega), fun q h1 h2 => (o1 q (Nat.lt_of_lt_of_le h1 hS.1)).trans (hS.2.1 q h1 h2), hS.2.2⟩, hA, hs⟩
  · rw [iwl_app, ← List.append_assoc]
    refine (hP.kept (fun k x hx => o1 x.1 ((hP k x hx).lt))).app (fun k x hx => ?_)
    have hk : k < 1 := (List.getElem?_eq_some_iff.mp hx).1
    rw [show k = 0 by omega] at hx
    cases hx
    exact ha
  · rw [iwl_app, ← List.append_assoc]
    exact hD.push hP hz.symm (hA _ (by omega))
theorem i_newa (F : Fx p M s m args meth c) {atype : ArrayType} (harr : (.arrayClass (newarray.typeOf atype) : Cond) ∈ TT) {ty : FieldType} (hty : newarray.typeOf atype = ty) (t0 : Nat) {cI : ClassId} (ht : tys[t0]? = some (cI, ty)) (hra : va_RA s cI ty → s.vm.findClass ("[" ++ ty.toString) = some cI) (w : Wi D tys base sz Es A s H locs) {n : Int32} {N : Nat} {a0 : vp_A} (ha : vp_cell cI a0 = arrV cI N (fun _ => defaultValue ty)) (hn : ¬ n < 0) (hN : n.toNatClampNeg = N) (hbytes : N * componentBytes ty ≤ 536870912) (hcell : cells = Es.length) (hcells : cells + 1 ≤ R.cells) (hslots : slots + N ≤ R.slots) (hdg : decode M.2.1 pc = .ok (.newarray atype, 2))
    (kk : ∀ H1 : Heap, Wi D tys base sz (Es ++ [.inl (cI, a0)]) A s H1 locs → W p l e R s m args below meth c H1 locs (cells + 1) (slots + N) Q (F0 m (pc + 2) ls (.ref (sz + Es.length) :: rest))) : W p l e R s m args below meth c H locs cells slots Q (F0 m pc ls (.int n :: rest)) := by
  subst hty
  refine W_sz (fun hup => ?_)
  have hlow := w.low
  have hz : H.size = sz + Es.length := by have := w.2.2.2.2.2; omega
  refine va_newaK F.1 F.2.1 (F.2.2.2.2.2.2 _ harr) rfl hdg rfl hn hN hbytes hcells hslots hz (fun H1 cA e1 z1 o1 hAr hNm => ?_)
  have ec : cA = cI := by
    have := hra (w.1.2 t0 _ ht).2
    rw [hNm] at this
    exact Option.some.inj this
  subst ec
  refine kk H1 (w.push hz (by omega) (fun q hq => o1 q (by omega)) ?_)
  show H1[sz + Es.length]? = some (vp_cell cA a0)
  rw [ha]; exact e1
theorem i_newc (F : Fx p M s m args meth c) {C : String} {T : u_T} {N ci index : Nat} (hin : ∀ w ∈ u_ws C T N, w ∈ TT) (ty : Nat → FieldType) (hty : ∀ k, k < N → parseFieldDescriptor (T k).2.2.1 = some (ty k)) (hcl : (.classLink M.1.cls index C : Cond) ∈ TT) (hinst : (.instantiable C N : Cond) ∈ TT) (hini : (.initialized C : Cond) ∈ TT) (w : Wi D tys base sz Es A s H locs) (hc : cls13[ci]? = some (C, T, N)) {fs : List Value} (hfs : ∀ j, j < N → defaultValue (ty j) = vp_V fs j) (hcell : cells = Es.length) (hcells : cells + 1 ≤ R.cells) (hslots : slots + N ≤ R.slots) (hdg : decode M.2.1 pc = .ok (.new index, 3))
    (kk : ∀ H1 : Heap, Wi D tys base sz (Es ++ [.inr (ci, fs)]) A s H1 locs → W p l e R s m args below meth c H1 locs (cells + 1) (slots + N) Q (F0 m (pc + 3) ls (.ref (sz + Es.length) :: rest))) : W p l e R s m args below meth c H locs cells slots Q (F0 m pc ls rest) := by
  refine W_sz (fun hup => ?_)
  have hlow := w.low
  have hz : H.size = sz + Es.length := by have := w.2.2.2.2.2; omega
  have hts := F.2.2.2.2.2.2
  have hKn := w.1.1 ci _ hc
  refine W.newcK F.1 F.2.1 F.2.2.2.2.2.1 (hts _ hcl) (hts _ hinst) (hts _ hini) rfl hdg hcells hslots hKn.2.1 hz (fun H1 kC hkC e1 z1 o1 => ?_)
  refine kk H1 (w.push hz (by omega) (fun q hq => o1 q (by omega)) ?_)
  exact ⟨_, hc, (u_born ty hts hin hKn hkC e1 hty).to hfs⟩
theorem i_newq (F : Fx p M s m args meth c) {C : String} {index : Nat} (hcl : (.classLink M.1.cls index C : Cond) ∈ TT) (hov : va_AO C s) (t0 : Nat) {cA : ClassId} (ht : tys[t0]? = some (cA, .object C)) (w : Wi D tys base sz Es A s H locs) {n : Int32} {N : Nat} (hn : ¬ n < 0) (hN : n.toNatClampNeg = N) (hbytes : N * 4 ≤ 536870912) (hcell : cells = Es.length) (hcells : cells + 1 ≤ R.cells) (hslots : slots + N ≤ R.slots) (hdg : decode M.2.1 pc = .ok (.anewarray index, 3))
    (kk : ∀ H1 : Heap, Wi D tys base sz (Es ++ [.inl (cA, N, .inr (.inr (.inr (.inr (fun _ => none)))))]) A s H1 locs → W p l e R s m args below meth c H1 locs (cells + 1) (slots + N) Q (F0 m (pc + 3) ls (.ref (sz + Es.length) :: rest))) : W p l e R s m args below meth c H locs cells slots Q (F0 m pc ls (.int n :: rest)) := by
  subst hN
  refine W_sz (fun hup => ?_)
  have hlow := w.low
  have hz : H.size = sz + Es.length := by have := w.2.2.2.2.2; omega
  have hts := F.2.2.2.2.2.2
  refine W.anew F.1 F.2.1 F.2.2.2.2.2.1 (hts _ hcl) (va_AO.use hov) rfl hdg rfl hn hbytes hcells hslots (fun cB kB comp f1 f2 f3 f4 => ?_)
  have ec : cB = cA := by
    obtain ⟨kA, comp', g1, g2, g3, g4⟩ := (w.1.2 t0 _ ht).2
    rw [f1] at g4
    exact Option.some.inj g4
  subst ec
  have hk := kk (H.push ({ cls := cB, slots := Array.replicate n.toNatClampNeg .null, vm := .none } : Cell)) (w.push hz (by rw [Array.size_push]) (fun q hq => by rw [Array.getElem?_push, if_neg (Nat.ne_of_lt hq)]) (by
    show (H.push _)[sz + Es.length]? = some (vp_cell _ _)
    rw [← hz, Array.getElem?_push_size, vp_cell_q, arrV_new]
    rfl))
  rw [hz]
  exact hk
/-- a field of the object -/
theorem i_put (F : Fx p M s m args meth c) {h0 ci k index : Nat} {C : String} {T : u_T} {N : Nat} {fs : List Value} {v : Value} (hin : ∀ w ∈ u_ws C T N, w ∈ TT) (ty0 : Nat → FieldType) (hty : ∀ k, k < N → parseFieldDescriptor (T k).2.2.1 = some (ty0 k)) (hnm : ∀ a, a < N → ∀ b, b < N → a ≠ b → (T a).2.1 ≠ (T b).2.1) (hc : cls13[ci]? = some (C, T, N)) (hl : Fl M.1.cls index ci k) (hi : meth.name = "<init>") (hdecl : (T k).1 = M.1.cls) (w : Wi D tys [(h0, .inr (ci, fs))] sz Es A s H locs) {ty : FieldType} (hd : parseFieldDescriptor (T k).2.2.1 = some ty) (hn : narrow ty v = v) (hfit : fits ty v = true) (hk : k < fs.length) (hdg : decode M.2.1 pc = .ok (.putfield index, 3))
    (kk : ∀ (H1 : Heap) (locs1 : List Loc), Wi D tys [(h0, .inr (ci, fs.set k v))] sz Es A s H1 locs1 → W p l e R s m args below meth c H1 locs1 cells slots Q (F0 m (pc + 3) ls rest)) : W p l e R s m args below meth c H locs cells slots Q (F0 m pc ls (v :: .ref h0 :: rest)) := by
  obtain ⟨r, hr, hkN, hlk, hr1⟩ := hl
  have er : r = (C, T, N) := Option.some.inj (hr.symm.trans hc)
  subst er
  have hts := F.2.2.2.2.2.2
  obtain ⟨hK, hP, hD, hS, hA, hs⟩ := w
  have hsame : ∀ x, s.fieldFound? (T k).1 (T k).2.1 (T k).2.2.1 = some x → s.fieldFound? C (T k).2.1 (T k).2.2.1 = some x := fun x h => by rw [show (T k).1 = C from hr1] at h; exact h
  cases hf : (T k).2.2.2 with
  | true => exact va_putF F.1 F.2.1 hts hin ty0 hty hnm F.2.2.2.2.2.1 hK hP hD hS 0 (ci := ci) (fs := fs) rfl hc k hkN (hts _ hlk) hsame hf hi hdecl hd hn hfit hk hdg (fun H1 locs1 a b d => kk H1 locs1 ⟨hK, a, b, d, hA, hs⟩)
  | false => exact va_put F.1 F.2.1 hts hin ty0 hty hnm F.2.2.2.2.2.1 hK hP hD hS 0 (ci := ci) (fs := fs) rfl hc k hkN (hts _ hlk) hsame hf hd hn hfit hk hdg (fun H1 locs1 a b d => kk H1 locs1 ⟨hK, a, b, d, hA, hs⟩)
theorem i_get (F : Fx p M s m args meth c) {h0 ci k index : Nat} {C : String} {T : u_T} {N : Nat} {fs : List Value} {v : Value} (hin : ∀ w ∈ u_ws C T N, w ∈ TT) (hc : cls13[ci]? = some (C, T, N)) (hl : Fl M.1.cls index ci k) (w : Wi D tys [(h0, .inr (ci, fs))] sz Es A s H locs) (hv : fs[k]? = some v) (hdg : decode M.2.1 pc = .ok (.getfield index, 3))
    (kk : W p l e R s m args below meth c H locs cells slots Q (F0 m (pc + 3) ls (v :: rest))) : W p l e R s m args below meth c H locs cells slots Q (F0 m pc ls (.ref h0 :: rest)) := by
  obtain ⟨r, hr, hkN, hlk, hr1⟩ := hl
  have er : r = (C, T, N) := Option.some.inj (hr.symm.trans hc)
  subst er
  have hts := F.2.2.2.2.2.2
  obtain ⟨hK, hP, hD, hS, hA, hs⟩ := w
  have hsame : ∀ x, s.fieldFound? (T k).1 (T k).2.1 (T k).2.2.1 = some x → s.fieldFound? C (T k).2.1 (T k).2.2.1 = some x := fun x h => by rw [show (T k).1 = C from hr1] at h; exact h
  exact va_get F.1 F.2.1 hts hin F.2.2.2.2.2.1 hK hP 0 (ci := ci) (fs := fs) rfl hc k hkN (hts _ hlk) hsame hv hdg kk
/-! the contract of a maker -/
def frI (h0 sz : Nat) : Nat → Prop := fun q => q = h0 ∨ sz ≤ q
def PcI (D : va_G) (tys : List (ClassId × FieldType)) (as : List Value) (h0 ci sz : Nat) (fs0 : List Value) : Array Value → State → Prop := fun a U => a = as.toArray ∧ va_K D cls13 tys U ∧ va_P D cls13 [(h0, .inr (ci, fs0))] U.heap ∧ U.heap.size = sz ∧ ExI U
def QcI (D : va_G) (h0 ci sz : Nat) (fs1 : List Value) (Es1 : List va_E) : Array Value → State → Outcome → State → Prop := va_Qv (fun _ : Unit => True) (fun _ t => va_P D cls13 ([(h0, .inr (ci, fs1))] ++ iwl sz Es1) t.heap) (frI h0 sz)
def Ic (l : Launch) (D : va_G) (tys : List (ClassId × FieldType)) (M : MI) (rm : Room) (as : List Value) (h0 ci sz : Nat) (fs0 fs1 : List Value) (Es1 : List va_E) : Prop := Met l M.1 (wsM M) rm (PcI D tys (.ref h0 :: as) h0 ci sz fs0) (QcI D h0 ci sz fs1 Es1) rm.cells rm.slots (frI h0 sz)
theorem PcI_blind (D : va_G) (tys : List (ClassId × FieldType)) (as : List Value) (h0 ci sz : Nat) (fs0 : List Value) : FrameBlind (PcI D tys as h0 ci sz fs0) := by
  intro a U g mk h
  obtain ⟨h1, h2, h3, h4, h5⟩ := h
  exact ⟨h1, va_K.moved (u := U) (U := U.calling g mk a) (Vm.Alike.refl U.vm) h2, h3, h4, h5.same rfl⟩
/-- the walk of a maker -/
theorem Ic.of {l : Launch} {rm : Room} {as : List Value} {h0 ci sz : Nat} {fs0 fs1 : List Value} {Es1 : List va_E} (hy : plainName M.1.cls = true) (hyn : M.1.name = "<init>") (hn : (lg_sl (.ref h0 :: as)).length ≤ M.2.2.1)
    (h : ∀ (p : Program) (e : Env) (s : State) (m : MethodId) (args : Array Value) (below : List Frame) (meth : Method) (c : Code) (lsA : Array Slot), Fx p M s m args meth c → ExI s → meth.name = "<init>" → Wi D tys [(h0, .inr (ci, fs0))] sz [] (frI h0 sz) s s.heap [] → lv_has lsA M.2.2.1 (lv_args 0 (.ref h0 :: as)) → W p l e rm s m args below meth c s.heap [] 0 0 (MQ below (QcI D h0 ci sz fs1 Es1) args s rm.cells rm.slots (frI h0 sz)) (F0 m 0 lsA [])) : Ic l D tys M rm as h0 ci sz fs0 fs1 Es1 := by
  refine Met.ofW (cc := M.2.1) (maxL := M.2.2.1) (ret := M.2.2.2) hy rfl ?_
  intro p e s mm args below meth c s₁ B hml hv
  obtain ⟨rfl, hK, hP, hz, hex⟩ := hv
  have hts := atoms_spec (ws := wsM M) B.pre
  have hl := lv_entry (.ref h0 :: as) (n := M.2.2.1) hn
  rw [lg_entry_eq]
  generalize (lg_sl (.ref h0 :: as) ++ List.replicate (M.2.2.1 - (lg_sl (.ref h0 :: as)).length) Slot.unset).toArray = lsA at hl ⊢
  refine h p e s mm _ below meth c lsA ⟨B.exec, B.bytes, hml, B.returns, B.notSynchronized, findClass_of_methodNamed B.named, fun w hw => hts w (List.mem_cons_of_mem _ hw)⟩ hex ((name_of_methodNamed B.named B.method).1.trans hyn) ⟨hK, by rw [show iwl sz [] = [] from rfl, List.append_nil]; exact hP, ?_, va_S.rf, fun q hq => Or.inr hq, hz⟩ hl
  rw [show iwl sz [] = [] from rfl, List.append_nil]
  refine ⟨fun i j x y hx hy _ => ?_, fun k x hx => ?_⟩
  · have h1 : i < 1 := (List.getElem?_eq_some_iff.mp hx).1
    have h2 : j < 1 := (List.getElem?_eq_some_iff.mp hy).1
    omega
  · have h1 : k < 1 := (List.getElem?_eq_some_iff.mp hx).1
    rw [show k = 0 by omega] at hx
    cases hx
    exact Or.inl rfl
theorem i_ret (F : Fx p M s m args meth c) {h0 ci : Nat} {fs : List Value} (hr : M.2.2.2 = none) (w : Wi D tys [(h0, .inr (ci, fs))] sz Es (frI h0 sz) s H locs) (hdg : decode M.2.1 pc = .ok (.return_, 1)) : W p l e R s m args below meth c H locs cells slots (MQ below (QcI D h0 ci sz fs Es) args s cells slots (frI h0 sz)) (F0 m pc ls []) := by
  have hlk := F.2.2.2.2.1
  obtain ⟨hK, hP, hD, hS, hA, hs⟩ := w
  exact W.vret F.1 F.2.1 (F.2.2.2.1.trans hr) (fun t ht hW => ⟨⟨(), rfl, trivial, by show va_P D cls13 ([(h0, Sum.inr (ci, fs))] ++ iwl sz Es) t.heap; rw [ht]; exact hP⟩, hS.F ht⟩) hS.2.2 hdg hlk
/-- a call of a maker, the object being the last cell made -/
theorem i_call (F : Fx p M s m args meth c) (ex : ExI s) (hsz : ls.size = M.2.2.1) {M' : MI} {rm : Room} {as : List Value} {ci : Nat} {fs0 fs1 : List Value} {Es1 : List va_E} {index k : Nat} (hc : Ic l D tys M' rm as (sz + Es.length) ci (sz + Es.length + 1) fs0 fs1 Es1) (hco : (.code M'.1 M'.2.1 M'.2.2.1 M'.2.2.2 : Cond) ∈ TT) (hret : M'.2.2.2 = none)
    (hrun : ∀ (hS : CallFix p m c M.2.1 M.2.2.1 s args TT M.1.cls) (hp : PreS s H (PcI D tys (.ref (sz + Es.length) :: as) (sz + Es.length) ci (sz + Es.length + 1) fs0) (.ref (sz + Es.length) :: as)), va_Run p l e R s m args below meth c H locs cells slots rm.cells rm.slots (F0 m pc ls (as.reverse ++ .ref (sz + Es.length) :: rest)) rest (QcI D (sz + Es.length) ci (sz + Es.length + 1) fs1 Es1 (Value.ref (sz + Es.length) :: as).toArray) (frI (sz + Es.length) (sz + Es.length + 1)))
    (w : Wi D tys base sz (Es ++ [.inr (ci, fs0)]) A s H locs) (hb : ∀ q ∈ base, q.1 < sz) (hcell : cells = Es.length + 1)
    (kk : ∀ (H1 : Heap) (locs1 : List Loc), Wi D tys base sz (Es ++ .inr (ci, fs1) :: Es1) A s H1 locs1 → W p l e R s m args below meth c H1 locs1 (cells + rm.cells) (slots + rm.slots) Q (F0 m (pc + 3) ls rest)) : W p l e R s m args below meth c H locs cells slots Q (F0 m pc ls (as.reverse ++ .ref (sz + Es.length) :: rest)) := by
  refine W_sz (fun hup => ?_)
  have hlow := w.low
  have hlen : (Es ++ [(.inr (ci, fs0) : va_E)]).length = Es.length + 1 := by rw [List.length_append]; rfl
  have hz : H.size = sz + Es.length + 1 := by have := w.2.2.2.2.2; omega
  have hw := w
  obtain ⟨hK, hP, hD, hS, hA, hs⟩ := w
  have hfree : ∀ q, frI (sz + Es.length) (sz + Es.length + 1) q → A q := fun q hq => by
    rcases hq with z | z
    · exact hA q (by omega)
    · exact hA q (by omega)
  have hPo : va_P D cls13 [(sz + Es.length, .inr (ci, fs0))] H := by
    intro k x hx
    have hk : k < 1 := (List.getElem?_eq_some_iff.mp hx).1
    rw [show k = 0 by omega] at hx
    cases hx
    refine hP (base.length + Es.length) _ ?_
    rw [List.getElem?_append_right (by omega), Nat.add_sub_cancel_left, iwl_get, List.getElem?_append_right (Nat.le_refl _), Nat.sub_self]; rfl
  refine va_callv (hrun ⟨F.1, F.2.1, F.2.2.1, F.2.2.2.2.2.1, F.2.2.2.2.2.2⟩ ⟨PcI_blind _ _ _ _ _ _ _, fun U hU hW => ⟨rfl, va_K.moved hW.alike hK, by rw [hU]; exact hPo, by rw [hU]; exact hz, ex.warm hW⟩⟩) hS (fun q _ h => hfree q h) hfree (fun u t H1 locs1 ht hvm _ hB hz1 hk1 hS1 => ?_)
  rw [ht] at hB
  have keep : ∀ (q : Nat), q < sz + Es.length → H1[q]? = H[q]? := fun q hq => hk1 q (by omega) (fun z => by
    rcases z with y | y <;> omega)
  have ad : ∀ (x : Nat × va_E), x ∈ base ++ iwl sz Es → x.1 < sz + Es.length := fun x hx => by
    rcases List.mem_append.mp hx with y | y
    · have := hb x y; omega
    · obtain ⟨i, E, hi, rfl⟩ := iwl_mem y
      have := (List.getElem?_eq_some_iff.mp hi).1
      show sz + i < _; omega
  have hall : ∀ x ∈ base ++ iwl sz (Es ++ .inr (ci, fs1) :: Es1), va_at D cls13 x H1 := by
    intro x hx
    rcases List.mem_append.mp hx with y | y
    · obtain ⟨i, hi⟩ := List.getElem?_of_mem y
      have hi2 : (base ++ iwl sz (Es ++ [.inr (ci, fs0)]))[i]? = some x := by rw [List.getElem?_append_left (List.getElem?_eq_some_iff.mp hi).1]; exact hi
      exact (hP i x hi2).kept (keep _ (by have := hb x y; omega))
    · obtain ⟨i, E, hi, rfl⟩ := iwl_mem y
      by_cases h1 : i < Es.length
      · rw [List.getElem?_append_left h1] at hi
        have hi2 : (base ++ iwl sz (Es ++ [.inr (ci, fs0)]))[base.length + i]? = some (sz + i, E) := by
          rw [List.getElem?_append_right (by omega), Nat.add_sub_cancel_left, iwl_get, List.getElem?_append_left h1, hi]; rfl
        exact (hP _ _ hi2).kept (keep _ (by show sz + i < _; omega))
      · rw [List.getElem?_append_right (by omega)] at hi
        by_cases h2 : i = Es.length
        · subst h2
          rw [Nat.sub_self] at hi
          cases hi
          exact hB 0 _ rfl
        · obtain ⟨j, hj⟩ : ∃ j, i - Es.length = j + 1 := ⟨i - Es.length - 1, by omega⟩
          rw [hj] at hi
          have hi3 : Es1[j]? = some E := hi
          have := hB (j + 1) (sz + Es.length + 1 + j, E) (by
            show (iwl (sz + Es.length + 1) Es1)[j]? = _
            rw [iwl_get, hi3]; rfl)
          rw [show sz + Es.length + 1 + j = sz + i by omega] at this
          exact this
  refine kk H1 locs1 ⟨hK, fun k x hx => hall x (List.mem_of_getElem? hx), ?_, hS1, hA, hs⟩
  refine ⟨fun i j x y hx hy hxy => ?_, fun k x hx => ?_⟩
  · have hxm : ∀ (i : Nat) (x : Nat × va_E), (base ++ iwl sz (Es ++ .inr (ci, fs1) :: Es1))[i]? = some x → (i < base.length ∧ base[i]? = some x) ∨ (base.length ≤ i ∧ x.1 = sz + (i - base.length)) := by
      intro i x hx
      by_cases hi : i < base.length
      · rw [List.getElem?_append_left hi] at hx; exact Or.inl ⟨hi, hx⟩
      · rw [List.getElem?_append_right (by omega), iwl_get] at hx
        cases hE : (Es ++ .inr (ci, fs1) :: Es1)[i - base.length]? with
        | none => rw [hE] at hx; cases hx
        | some E => rw [hE] at hx; exact Or.inr ⟨by omega, by rw [← Option.some.inj hx]⟩
    rcases hxm i x hx with ⟨a1, a2⟩ | ⟨a1, a2⟩ <;> rcases hxm j y hy with ⟨b1, b2⟩ | ⟨b1, b2⟩
    · exact hD.1 i j x y (by rw [List.getElem?_append_left a1]; exact a2) (by rw [List.getElem?_append_left b1]; exact b2) hxy
    · have := hb x (List.mem_of_getElem? a2); omega
    · have := hb y (List.mem_of_getElem? b2); omega
    · omega
  · rcases List.mem_append.mp (List.mem_of_getElem? hx) with y | y
    · obtain ⟨i, hi⟩ := List.getElem?_of_mem y
      exact hD.2 i x (by rw [List.getElem?_append_left (List.getElem?_eq_some_iff.mp hi).1]; exact hi)
    · obtain ⟨i, E, hi, rfl⟩ := iwl_mem y
      exact hA _ (Nat.le_add_right _ _)
end Build
