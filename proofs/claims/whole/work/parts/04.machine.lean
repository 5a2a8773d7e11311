/-! ===== the walk of a method over the abstract memory: W, with its machine hidden ===== -/
def TT : List Cond := lw_tbl.filter goodWord
theorem TT_good : GoodIn TT TT := fun w hw => ⟨hw, good_of_word (List.mem_filter.mp hw).2⟩
theorem TT_mem {w : Cond} (i : Nat) (h : (lw_tbl[i]? == some w && goodWord w) = true) : w ∈ TT := by
  rw [Bool.and_eq_true] at h
  exact List.mem_filter.mpr ⟨List.mem_of_getElem? (eq_of_beq h.1), h.2⟩
abbrev MI : Type := MethodName × ByteArray × Nat × Option FieldType
abbrev wsM (M : MI) : List Cond := .code M.1 M.2.1 M.2.2.1 M.2.2.2 :: TT
def nestW : List Cond := [.methodLinkNest RX6 41 yX11_contains RX11, .methodLinkNest RX0 79 yX11_contains RX11, .methodLinkNest RX4 83 yX11_contains RX11, .methodLinkNest RX10 81 yX11_contains RX11, .methodLinkNest RX3 53 yX11_contains RX11, .methodLinkNest RX8 118 yX11_contains RX11, .methodLinkNest RX2 46 yX11_contains RX11]
def kWords : List Int32 := [97, 100, 100, 32, 32, 110, 101, 118, 101, 114, 105, 102, 32, 32, 32, 111, 114, 32, 32, 32, 97, 110, 100, 32, 32, 110, 111, 116, 32, 32, 104, 97, 115, 32, 32, 99, 111, 117, 110, 116, 104, 111, 117, 114, 115, 102, 105, 114, 115, 116, 108, 97, 115, 116, 32, 103, 97, 112, 115, 32, 112, 117, 114, 115, 101]
def kSigns : List Int32 := [59, 43, 45, 42, 47, 40, 41, 91, 93, 60, 62, 61]
def kStrides : List Int32 := [701, 301, 132, 57, 23, 10, 4, 1]
/-- the constants: nest mates' links, the strides, the two texts; none of them is ever written -/
def KC (G : Gx) (A : Nat → Prop) (s : State) : Prop := (∀ w ∈ nestW, va_Nw w s) ∧ va_Z RX5 "STRIDES" "[I" (.ref (G.2.1 2004)) A s s.heap ∧ va_T .int (G.2.1 2004) 8 (fun j => .int (kStrides.getD j 0)) A s s.heap ∧ vk_S 2 [65, 12] [kWords, kSigns] (fun i => G.2.1 (2000 + i)) (fun i => G.2.1 (2002 + i)) A s s.heap ∧ vk_R RX9 66 "add  neverif   or   and  not  has  counthoursfirstlast gaps purse" (G.2.1 2000) s ∧ vk_R RX9 54 ";+-*/()[]<>=" (G.2.1 2001) s ∧ va_Z RJ0 "COMPACT_STRINGS" "Z" (.int 1) A s s.heap ∧ ∃ v : Value, (v = .null ∨ v = .ref 2005) ∧ va_Z RJ3 "SIOOBE_FORMATTER" "Ljava/util/function/BiFunction;" (conc G v) A s s.heap
theorem nestW_warm {s U : State} (hW : s.WarmedH U.vm) (h : ∀ w ∈ nestW, va_Nw w s) : ∀ w ∈ nestW, va_Nw w U := by
  intro w hw
  have h1 := h w hw
  simp only [nestW, List.mem_cons, List.not_mem_nil, or_false] at hw
  rcases hw with e | e | e | e | e | e | e <;> subst e <;> exact va_Nw.warmM hW h1
theorem nestW_same {s U : State} (hv : s.vm = U.vm) (h : ∀ w ∈ nestW, va_Nw w s) : ∀ w ∈ nestW, va_Nw w U := by
  intro w hw
  have h1 := h w hw
  simp only [nestW, List.mem_cons, List.not_mem_nil, or_false] at hw
  rcases hw with e | e | e | e | e | e | e <;> subst e <;> exact va_Nw.same rfl hv h1
theorem KC.same {G : Gx} {A : Nat → Prop} {s U : State} (h : KC G A s) (hv : s.vm = U.vm) (hh : U.heap = s.heap) : KC G A U := by
  obtain ⟨h1, h2, h3, h4, h5, h6, h7, v8, h8, h9⟩ := h
  have ha : s.vm.Alike U.vm := by rw [hv]; exact Vm.Alike.refl _
  refine ⟨nestW_same hv h1, ?_, ?_, ?_, h5.same hv.symm, h6.same hv.symm, ?_, v8, h8, ?_⟩ <;> rw [hh]
  · exact h2.moved ha
  · exact h3.moved ha
  · exact h4.moved ha
  · exact h7.moved ha
  · exact h9.moved ha
theorem KC.warm {G : Gx} {A : Nat → Prop} {s U : State} {locs : List Loc} (h : KC G A s) (hW : s.WarmedH U.vm) (hS : va_S A s.heap U.heap locs) : KC G A U := by
  obtain ⟨h1, h2, h3, h4, h5, h6, h7, v8, h8, h9⟩ := h
  have ha : s.vm.Alike U.vm := hW.alike
  exact ⟨nestW_warm hW h1, (h2.kept hS.2.1).moved ha, (h3.kept hS.2.1).moved ha, (h4.kept hS.2.1).moved ha, h5.warm hW, h6.warm hW, (h7.kept hS.2.1).moved ha, v8, h8, (h9.kept hS.2.1).moved ha⟩
def Fx (p : Program) (M : MI) (s : State) (m : MethodId) (args : Array Value) (meth : Method) (c : Code) : Prop :=
  p.tables.exec = Jvm.exec ∧ c.code = M.2.1 ∧ c.maxLocals = M.2.2.1 ∧ meth.sig.returnType = M.2.2.2 ∧ meth.locks = false ∧ s.vm.findClass M.1.cls = some m.cls ∧ ∀ w ∈ TT, w.before args s = true
def Cw (G : Gx) (n : Nat) (σ : St) (A : Nat → Prop) (s : State) (H : Heap) (locs : List Loc) : Prop :=
  va_K G.1 cls13 (tyA G) s ∧ va_P G.1 cls13 (wl G n σ) H ∧ va_D A (wl G n σ) ∧ va_S A s.heap H locs ∧ (∀ q, s.heap.size ≤ q → A q) ∧ KC G A s
/-- what the locals hold, as far as it's known -/
def LR (G : Gx) (lsA : Array Slot) (nL : Nat) (ls : List (Option Value)) : Prop := lsA.size = nL ∧ lv_wf lsA ∧ ∀ (k : Nat) (v : Value), ls[k]? = some (some v) → lsA[k]? = some (.val (conc G v))
/-- which cells a method may change: rows, single places, places of any person, arrays of any person -/
abbrev Md : Type := List Nat × List (Nat × Nat) × List Nat × List Nat
abbrev inMd (m : Md) (q k : Nat) : Prop := q ∈ m.1 ∨ (q, k) ∈ m.2.1 ∨ (P0 ≤ q ∧ (q - P0) % 5 = 0 ∧ k ∈ m.2.2.1) ∨ (P0 ≤ q ∧ (q - P0) % 5 ∈ m.2.2.2)
def Fr (m : Md) (σ σ' : St) : Prop := (∀ q k, ¬ inMd m q k → gI σ' q k = gI σ q k) ∧ (∀ q k, ¬ inMd m q k → gL σ' q k = gL σ q k) ∧ ∀ k, ¬ inMd m 18 k → gR σ' k = gR σ k
theorem Fr.rf {m : Md} {σ : St} : Fr m σ σ := ⟨fun _ _ _ => rfl, fun _ _ _ => rfl, fun _ _ => rfl⟩
theorem Fr.tr {m m' : Md} {σ σ1 σ2 : St} (h : Fr m σ σ1) (h2 : Fr m' σ1 σ2) (hm : ∀ q k, inMd m' q k → inMd m q k) : Fr m σ σ2 :=
  ⟨fun q k hn => (h2.1 q k (fun z => hn (hm q k z))).trans (h.1 q k hn), fun q k hn => (h2.2.1 q k (fun z => hn (hm q k z))).trans (h.2.1 q k hn), fun k hn => (h2.2.2 k (fun z => hn (hm _ k z))).trans (h.2.2 k hn)⟩
theorem Fr.wk {m m' : Md} {σ σ1 : St} (h : Fr m' σ σ1) (hm : ∀ q k, inMd m' q k → inMd m q k) : Fr m σ σ1 := Fr.rf.tr h hm
theorem Fr.sI {m : Md} {σ σ1 : St} {q k : Nat} {v : Int32} (h : Fr m σ σ1) (hm : inMd m q k) : Fr m σ (sI σ1 q k v) := by
  refine ⟨fun a b hn => ?_, h.2.1, h.2.2⟩
  rw [gI_sI_ne (fun e => hn (by rw [e.1, e.2]; exact hm))]
  exact h.1 a b hn
theorem Fr.sL {m : Md} {σ σ1 : St} {q k : Nat} {v : Int64} (h : Fr m σ σ1) (hm : inMd m q k) : Fr m σ (sL σ1 q k v) := by
  refine ⟨h.1, fun a b hn => ?_, h.2.2⟩
  rw [gL_sL, if_neg (fun e => hn (by rw [e.1, e.2]; exact hm))]
  exact h.2.1 a b hn
theorem Fr.sR {m : Md} {σ σ1 : St} {k : Nat} {v : Option Nat} (h : Fr m σ σ1) (hm : inMd m 18 k) : Fr m σ (sR σ1 k v) := by
  refine ⟨h.1, h.2.1, fun b hn => ?_⟩
  rw [gR_sR, if_neg (fun e => hn (by rw [e]; exact hm))]
  exact h.2.2 b hn
theorem Fr.sA {m : Md} {σ σ1 : St} {q : Nat} {f : Nat → Int32} (h : Fr m σ σ1) (hm : ∀ k, inMd m q k) : Fr m σ (sA σ1 q f) := by
  refine ⟨fun a b hn => ?_, h.2.1, h.2.2⟩
  rw [gI_sA, if_neg (fun e => hn (by rw [e]; exact hm b))]
  exact h.1 a b hn
/-- depth, alive cells, what may change, the start, the end -/
abbrev Cx : Type := Nat × Nat × Md × St × (Option Value → St → Prop)
abbrev Cx.d (X : Cx) : Nat := X.1
abbrev Cx.n (X : Cx) : Nat := X.2.1
abbrev Cx.m (X : Cx) : Md := X.2.2.1
abbrev Cx.s (X : Cx) : St := X.2.2.2.1
abbrev Cx.Q (X : Cx) : Option Value → St → Prop := X.2.2.2.2
def rmD (d : Nat) : Room := { frames := d, cells := 0, slots := 0, locals := 48 * d }
def QcX (G : Gx) (A : Nat → Prop) (X : Cx) : Array Value → State → Outcome → State → Prop := fun _ s oc t =>
  (∃ (v : Option Value) (σ' : St), oc = .returned (v.map (conc G)) ∧ X.Q v σ' ∧ Fr X.m X.s σ' ∧ va_P G.1 cls13 (wl G X.n σ') t.heap) ∧ va_F A s t
def Ev (X : Cx) (M : MI) (pc : Nat) (ls : List (Option Value)) (st : List Value) (σ : St) : Prop :=
  ∀ (G : Gx) (p : Program) (l : Launch) (e : Env) (s : State) (m : MethodId) (args : Array Value) (below : List Frame) (meth : Method) (c : Code) (H : Heap) (locs : List Loc) (A : Nat → Prop) (lsA : Array Slot),
    Fx p M s m args meth c → Cw G X.n σ A s H locs → LR G lsA M.2.2.1 ls → Fr X.m X.s σ →
    W p l e (rmD X.d) s m args below meth c H locs 0 0 (MQ below (QcX G A X) args s 0 0 A) (F0 m pc lsA (st.map (conc G)))
def PcX (G : Gx) (A : Nat → Prop) (n : Nat) (as : List Value) (σ : St) : Array Value → State → Prop := fun a U =>
  a = (as.map (conc G)).toArray ∧ va_K G.1 cls13 (tyA G) U ∧ va_P G.1 cls13 (wl G n σ) U.heap ∧ va_D A (wl G n σ) ∧ (∀ q, U.heap.size ≤ q → A q) ∧ KC G A U
/-- a method's contract at a start -/
def Cn (d n : Nat) (M : MI) (m : Md) (as : List Value) (σ : St) (Q : Option Value → St → Prop) : Prop :=
  ∀ (l : Launch) (G : Gx) (A : Nat → Prop), Met l M.1 (wsM M) (rmD d) (PcX G A n as σ) (QcX G A (d, n, m, σ, Q)) 0 0 A
def liI (Q : Int32 → St → Prop) : Option Value → St → Prop := fun v σ => ∃ x, v = some (.int x) ∧ Q x σ
def liL (Q : Int64 → St → Prop) : Option Value → St → Prop := fun v σ => ∃ x, v = some (.long x) ∧ Q x σ
def liR (Q : Nat → St → Prop) : Option Value → St → Prop := fun v σ => ∃ x, v = some (.ref x) ∧ Q x σ
def liV (Q : St → Prop) : Option Value → St → Prop := fun v σ => v = none ∧ Q σ
theorem MQ_mono {below : List Frame} {Q Q' : Array Value → State → Outcome → State → Prop} {a : Array Value} {s : State} {mc ms : Nat} {free : Addr → Prop} (h : ∀ o t, Q a s o t → Q' a s o t) {t : State} (k : MQ below Q a s mc ms free t) : MQ below Q' a s mc ms free t := by
  obtain ⟨o, h1, h2, h3, h4⟩ := k
  exact ⟨o, h1, h2, h _ _ h3, h4⟩
theorem W_mono {p : Program} {l : Launch} {e : Env} {R : Room} {s : State} {m : MethodId} {args : Array Value} {below : List Frame} {meth : Method} {c : Code} {H : Heap} {locs : List Loc} {cells slots : Nat} {Q Q' : State → Prop} {g : JFrame} (h : ∀ t, Q t → Q' t) (k : W p l e R s m args below meth c H locs cells slots Q g) : W p l e R s m args below meth c H locs cells slots Q' g := by
  intro T hT X
  obtain ⟨t, a, b⟩ := k T hT X
  exact ⟨t, a, h t b⟩
