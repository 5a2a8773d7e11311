/-! ===== calls ===== -/
section Rules3
variable {X : Cx} {M : MI} {pc : Nat} {ls : List (Option Value)} {st : List Value} {σ : St}
theorem GoodIn_M {M' : MI} (h : (.code M'.1 M'.2.1 M'.2.2.1 M'.2.2.2 : Cond) ∈ TT) : GoodIn TT (wsM M') := by
  intro w hw
  rcases List.mem_cons.mp hw with e | e
  · subst e; exact TT_good _ h
  · exact TT_good _ e
/-- a method that may be called: its words, its parameters' number, its room -/
def Mk (M' : MI) (k : Nat) : Prop := (.code M'.1 M'.2.1 M'.2.2.1 M'.2.2.2 : Cond) ∈ TT ∧ (.initialized M'.1.cls : Cond) ∈ TT ∧ (M'.1.cls ≠ "java/lang/invoke/MethodHandle" ∧ M'.1.cls ≠ "java/lang/invoke/VarHandle" ∧ (parseMethodDescriptor M'.1.desc).map (fun d => d.parameters.length) = some k) ∧ M'.2.2.1 ≤ 29
def Mv (M' : MI) (k : Nat) : Prop := Mk M' k ∧ (.instanceMethod M'.1 : Cond) ∈ TT ∧ (.selects M'.1.cls M'.1 M'.1 : Cond) ∈ TT
def Ms (M' : MI) (k : Nat) : Prop := Mk M' k ∧ (.static M'.1 : Cond) ∈ TT
theorem PcX_blind (G : Gx) (A : Nat → Prop) (n : Nat) (as : List Value) (σ : St) : FrameBlind (PcX G A n as σ) := by
  intro a U g mk h
  obtain ⟨h1, h2, h3, h4, h5, h6⟩ := h
  exact ⟨h1, va_K.moved (u := U) (U := U.calling g mk a) (Vm.Alike.refl U.vm) h2, h3, h4, h5, h6.same rfl rfl⟩
theorem PcX_at {G : Gx} {A : Nat → Prop} {n : Nat} {as : List Value} {s : State} {H : Heap} {locs : List Loc} (hC : Cw G n σ A s H locs) (U : State) (hU : U.heap = H) (hW : s.WarmedH U.vm) : PcX G A n as σ (as.map (conc G)).toArray U := by
  obtain ⟨hK, hP, hD, hS, hA, hKC⟩ := hC
  refine ⟨rfl, va_K.moved hW.alike hK, by rw [hU]; exact hP, hD, fun q h => hA q (Nat.le_trans hS.1 (by rw [← hU]; exact h)), hKC.warm hW (locs := locs) (by rw [hU]; exact hS)⟩
theorem room_ok {d : Nat} {M' : MI} (h : 0 < d) (hl : M'.2.2.1 ≤ 29) : (rmD (d - 1)).frames + 1 ≤ (rmD d).frames ∧ 8 + (M'.2.2.1 + 11) + (rmD (d - 1)).locals ≤ (rmD d).locals := by
  simp only [rmD]; omega
/-- behind a call -/
theorem call_back {rest : List Value} {m' : Md} {Qc : Option Value → St → Prop} {G : Gx} {p : Program} {l : Launch} {e : Env} {s : State} {m : MethodId} {args : Array Value} {below : List Frame} {meth : Method} {c : Code} {H : Heap} {locs : List Loc} {A : Nat → Prop} {lsA : Array Slot} {g : JFrame}
    (hg : g = F0 m pc lsA g.stack) {a : Array Value}
    (hF : Fx p M s m args meth c) (hC : Cw G X.n σ A s H locs) (hL : LR G lsA M.2.2.1 ls) (hFr : Fr X.m X.s σ) (hm : ∀ q k, inMd m' q k → inMd X.m q k)
    (hr : va_Run p l e (rmD X.d) s m args below meth c H locs 0 0 0 0 g (rest.map (conc G)) (QcX G A (X.d - 1, X.n, m', σ, Qc) a) A)
    (kk : ∀ v σ', Qc v σ' → Fr m' σ σ' → Ev X M (pc + 3) ls (v.toList ++ rest) σ') : W p l e (rmD X.d) s m args below meth c H locs 0 0 (MQ below (QcX G A X) args s 0 0 A) g := by
  intro T hT Xs
  obtain ⟨v, st₀, t, T', L, h0, X', hL', e1, e2, ⟨⟨v', σ', hv, hQ, hfr, hP'⟩, hz, hk⟩, stp⟩ := hr T hT Xs
  cases hv
  obtain ⟨hK, hP, hD, hS, hA, hKC⟩ := hC
  have hD' : va_D A (wl G X.n σ') := by
    have e0 : ∀ (σ : St) (i : Nat) (q : Nat × va_E), (wl G X.n σ)[i]? = some q → i < X.n ∧ q.1 = G.2.1 i := by
      intro σ i q h
      by_cases hi : i < X.n
      · rw [wl_get hi] at h; cases h; exact ⟨hi, rfl⟩
      · simp [wl, hi] at h
    refine ⟨fun i j x y hx hy hxy => ?_, fun i x hx => ?_⟩
    · obtain ⟨hi, ei⟩ := e0 _ _ _ hx
      obtain ⟨hj, ej⟩ := e0 _ _ _ hy
      exact hD.1 i j _ _ (wl_get hi) (wl_get hj) (by rw [← ei, ← ej]; exact hxy)
    · obtain ⟨hi, ei⟩ := e0 _ _ _ hx
      rw [ei]
      exact hD.2 i _ (wl_get hi)
  rw [h0] at hz hk
  have hS' : va_S A s.heap T'.heap (locs ++ L) := by
    rw [e1]
    refine ⟨Nat.le_trans hS.1 hz, fun q h1 h2 => (hk q (Nat.lt_of_lt_of_le h1 hS.1) h2).trans (hS.2.1 q h1 h2), fun q hq => ?_⟩
    rcases List.mem_append.mp hq with h | h
    · exact hS.2.2 q h
    · exact hL' q h
  have hst : (v'.map (conc G)).toList ++ rest.map (conc G) = (v'.toList ++ rest).map (conc G) := by cases v' <;> simp
  have := kk v' σ' hQ hfr G p l e s m args below meth c T'.heap (locs ++ L) A lsA hF ⟨hK, by rw [e1]; exact hP', hD', hS', hA, hKC⟩ hL (hFr.tr hfr hm) T' rfl X'
  obtain ⟨t2, a1, b1⟩ := this
  refine ⟨t2, stp t2 ?_, b1⟩
  rw [hst, hg]
  exact a1
theorem e_callV {index q k ci : Nat} {M' : MI} {as rest : List Value} {m' : Md} {Qc : Option Value → St → Prop} {r : vw_C} (hd : decode M.2.1 pc = .ok (.invokevirtual index, 3)) (hl : (.methodLink M.1.cls index M'.1 : Cond) ∈ TT) (hM : Mv M' k) (ho : Ob X.n q ci) (hci : cls13[ci]? = some r) (hr1 : M'.1.cls = r.1) (hn : as.length = k) (hr : (rest.map fun v => v.category).sum ≤ 8) (hd0 : 0 < X.d) (hc : Cn (X.d - 1) X.n M' m' (.ref q :: as) σ Qc) (hm : ∀ q k, inMd m' q k → inMd X.m q k)
    (kk : ∀ v σ', Qc v σ' → Fr m' σ σ' → Ev X M (pc + 3) ls (v.toList ++ rest) σ') : Ev X M pc ls (as.reverse ++ .ref q :: rest) σ := by
  intro G p l e s m args below meth c H locs A lsA hF hC hL hFr
  obtain ⟨⟨hco, hin, hnm, hmx⟩, hinst, hsel⟩ := hM
  obtain ⟨⟨N, hkd, r', hr', hN⟩, hq, h20⟩ := ho
  have hts := hF.2.2.2.2.2.2
  have hcw : CallW (rmD X.d) s args M.1.cls M'.1.cls index M'.1 M'.2.1 M'.2.2.1 M'.2.2.2 (wsM M') (rmD (X.d - 1)) 0 0 k :=
    ⟨callB_of k hts (GoodIn_M hco) rfl rfl rfl (hts _ hin) (hts _ hl) hnm (room_ok hd0 hmx), hts _ hinst, hts _ hsel⟩
  have hrec : ∃ cell : Cell, H[G.2.1 q]? = some cell ∧ cell.vm.isStatics = false ∧ s.vm.findClass M'.1.cls = some cell.cls := by
    rw [hr1]
    exact va_recv hC.1 hC.2.1 hci (q0 := q) (fs := (List.range N).map (fv G σ q ci)) (by rw [wl_get hq, cell_o hkd h20])
  have hrun := va_runV (l := l) (e := e) (below := below) (meth := meth) (locs := locs) (cells := 0) (slots := 0) (g := F0 m pc lsA ((as.reverse ++ .ref q :: rest).map (conc G))) (As := as.map (conc G)) (rest := rest.map (conc G)) (b := G.2.1 q) ⟨hF.1, hF.2.1, hF.2.2.1, hF.2.2.2.2.2.1, hts⟩ (hc l G A) hcw
    ⟨PcX_blind _ _ _ _ _, hrec, fun U hU hW => PcX_at hC U hU hW⟩ rfl (by rw [List.length_map]; exact hn) hL.1 (by simp [conc]) (lv_room (by simpa [List.map_map, Function.comp_def, conc_cat] using hr)) hd ⟨Nat.le_refl _, Nat.le_refl _⟩
  exact call_back rfl hF hC hL hFr hm hrun kk
theorem e_callS {index k : Nat} {M' : MI} {as rest : List Value} {m' : Md} {Qc : Option Value → St → Prop} (hd : decode M.2.1 pc = .ok (.invokestatic index, 3)) (hl : (.methodLink M.1.cls index M'.1 : Cond) ∈ TT) (hM : Ms M' k) (hn : as.length = k) (hr : (rest.map fun v => v.category).sum ≤ 8) (hd0 : 0 < X.d) (hc : Cn (X.d - 1) X.n M' m' as σ Qc) (hm : ∀ q k, inMd m' q k → inMd X.m q k)
    (kk : ∀ v σ', Qc v σ' → Fr m' σ σ' → Ev X M (pc + 3) ls (v.toList ++ rest) σ') : Ev X M pc ls (as.reverse ++ rest) σ := by
  intro G p l e s m args below meth c H locs A lsA hF hC hL hFr
  obtain ⟨⟨hco, hin, hnm, hmx⟩, hstt⟩ := hM
  have hts := hF.2.2.2.2.2.2
  have hcw : CallB (rmD X.d) s args M.1.cls index M'.1 M'.2.1 M'.2.2.1 M'.2.2.2 (wsM M') (rmD (X.d - 1)) 0 0 k ∧ (Cond.static M'.1).before args s = true :=
    ⟨callB_of k hts (GoodIn_M hco) rfl rfl rfl (hts _ hin) (hts _ hl) hnm (room_ok hd0 hmx), hts _ hstt⟩
  have hrun := va_runS (l := l) (e := e) (below := below) (meth := meth) (locs := locs) (cells := 0) (slots := 0) (g := F0 m pc lsA ((as.reverse ++ rest).map (conc G))) (As := as.map (conc G)) (rest := rest.map (conc G)) ⟨hF.1, hF.2.1, hF.2.2.1, hF.2.2.2.2.2.1, hts⟩ (hc l G A) hcw
    ⟨PcX_blind _ _ _ _ _, fun U hU hW => PcX_at hC U hU hW⟩ rfl (by rw [List.length_map]; exact hn) hL.1 (by simp) (lv_room (by simpa [List.map_map, Function.comp_def, conc_cat] using hr)) hd ⟨Nat.le_refl _, Nat.le_refl _⟩
  exact call_back rfl hF hC hL hFr hm hrun kk
theorem e_callN {index k : Nat} {host : String} {M' : MI} {as rest : List Value} {m' : Md} {Qc : Option Value → St → Prop} (hd : decode M.2.1 pc = .ok (.invokestatic index, 3)) (hl : (.methodLinkNest M.1.cls index M'.1 host : Cond) ∈ nestW) (hM : Ms M' k) (hn : as.length = k) (hr : (rest.map fun v => v.category).sum ≤ 8) (hd0 : 0 < X.d) (hc : Cn (X.d - 1) X.n M' m' as σ Qc) (hm : ∀ q k, inMd m' q k → inMd X.m q k)
    (kk : ∀ v σ', Qc v σ' → Fr m' σ σ' → Ev X M (pc + 3) ls (v.toList ++ rest) σ') : Ev X M pc ls (as.reverse ++ rest) σ := by
  intro G p l e s m args below meth c H locs A lsA hF hC hL hFr
  obtain ⟨⟨hco, hin, hnm, hmx⟩, hstt⟩ := hM
  have hts := hF.2.2.2.2.2.2
  have hcw : va_CN (rmD X.d) s args M.1.cls index M'.1 host M'.2.1 M'.2.2.1 M'.2.2.2 (wsM M') (rmD (X.d - 1)) 0 0 k ∧ (Cond.static M'.1).before args s = true ∧ True :=
    ⟨va_cnB k hts (GoodIn_M hco) rfl rfl rfl (hC.2.2.2.2.2.1 _ hl) (hts _ hin) hnm (room_ok hd0 hmx), hts _ hstt, trivial⟩
  have hrun := va_runSN (l := l) (e := e) (below := below) (meth := meth) (locs := locs) (cells := 0) (slots := 0) (g := F0 m pc lsA ((as.reverse ++ rest).map (conc G))) (As := as.map (conc G)) (rest := rest.map (conc G)) ⟨hF.1, hF.2.1, hF.2.2.1, hF.2.2.2.2.2.1, hts⟩ (hc l G A) hcw
    ⟨PcX_blind _ _ _ _ _, fun U hU hW => PcX_at hC U hU hW⟩ rfl (by rw [List.length_map]; exact hn) hL.1 (by simp) (lv_room (by simpa [List.map_map, Function.comp_def, conc_cat] using hr)) hd ⟨Nat.le_refl _, Nat.le_refl _⟩
  exact call_back rfl hF hC hL hFr hm hrun kk
/-- the locals with which a method begins -/
def entL : List Value → List (Option Value)
  | [] => []
  | v :: t => if v.category = 2 then some v :: none :: entL t else some v :: entL t
theorem entL_mem {G : Gx} : ∀ (as : List Value) (b k : Nat) (v : Value), (entL as)[k]? = some (some v) → (b + k, conc G v) ∈ lv_args b (as.map (conc G))
  | [], b, k, v, h => by simp [entL] at h
  | a :: t, b, k, v, h => by
    simp only [List.map_cons, lv_args, conc_cat]
    unfold entL at h
    by_cases hc : a.category = 2
    · rw [if_pos hc] at h ⊢
      match k, h with
      | 0, h => simp at h; subst h; exact List.mem_cons_self
      | 1, h => simp at h
      | k + 2, h =>
        have := entL_mem (G := G) t (b + 2) k v (by simpa using h)
        rw [show b + (k + 2) = b + 2 + k by omega]
        exact List.mem_cons_of_mem _ this
    · rw [if_neg hc] at h ⊢
      match k, h with
      | 0, h => simp at h; subst h; exact List.mem_cons_self
      | k + 1, h =>
        have := entL_mem (G := G) t (b + 1) k v (by simpa using h)
        rw [show b + (k + 1) = b + 1 + k by omega]
        exact List.mem_cons_of_mem _ this
theorem entL_len {G : Gx} : ∀ as : List Value, (lg_sl (as.map (conc G))).length = (entL as).length
  | [] => rfl
  | a :: t => by
    have := entL_len (G := G) t
    simp only [lg_sl, List.map_cons, List.flatMap_cons, List.length_append, entL, conc_cat] at this ⊢
    by_cases hc : a.category = 2
    · simp only [hc, if_true, List.length_cons, List.length_nil]; rw [← this]; simp [lg_sl]; omega
    · simp only [hc, if_false, List.length_cons, List.length_nil]; rw [← this]; simp [lg_sl]; omega
theorem Cn.of {d n k0 : Nat} {m : Md} {as : List Value} {Q : Option Value → St → Prop} (hy : plainName M.1.cls = true) (hn : (entL as).length + k0 = M.2.2.1) (h : Ev (d, n, m, σ, Q) M 0 (entL as ++ List.replicate k0 none) [] σ) : Cn d n M m as σ Q := by
  intro l G A
  refine Met.ofW (cc := M.2.1) (maxL := M.2.2.1) (ret := M.2.2.2) hy rfl ?_
  intro p e s mm args below meth c s₁ B hml hv
  obtain ⟨rfl, hK, hP, hD, hA, hKC⟩ := hv
  have hts := atoms_spec (ws := wsM M) B.pre
  have hl := lv_entry (as.map (conc G)) (n := M.2.2.1) (by rw [entL_len]; omega)
  rw [lg_entry_eq]
  generalize (lg_sl (as.map (conc G)) ++ List.replicate (M.2.2.1 - (lg_sl (as.map (conc G))).length) Slot.unset).toArray = lsA at hl ⊢
  refine h G p l e s mm _ below meth c s.heap [] A lsA ⟨B.exec, B.bytes, hml, B.returns, B.notSynchronized, findClass_of_methodNamed B.named, fun w hw => hts w (List.mem_cons_of_mem _ hw)⟩ ⟨hK, hP, hD, va_S.rf, hA, hKC⟩ (LR.of hl ?_) Fr.rf
  intro k v hk
  have hk2 : (entL as)[k]? = some (some v) := by
    by_cases hlt : k < (entL as).length
    · rwa [List.getElem?_append_left hlt] at hk
    · rw [List.getElem?_append_right (by omega)] at hk
      rw [List.getElem?_replicate] at hk
      split at hk
      · simp at hk
      · simp at hk
  have := entL_mem (G := G) as 0 k v hk2
  simpa using this

def mxI (x y : Int32) : Int32 := if x < y then y else x
def mnI (x y : Int32) : Int32 := if y < x then y else x
def mxL (x y : Int64) : Int64 := if y < x then x else y
def mnL (x y : Int64) : Int64 := if y < x then y else x
theorem wm_ini : (.initialized "java/lang/Math" : Cond) ∈ TT := TT_mem 117 (by decide +kernel)
theorem wm_max_s : (.static Lib.Math.max.name : Cond) ∈ TT := TT_mem 737 (by decide +kernel)
theorem wm_max_c : (.code Lib.Math.max.name Lib.Math.max.code 2 (some .int) : Cond) ∈ TT := TT_mem 738 (by decide +kernel)
theorem e_mmax {index : Nat} {x y : Int32} (hd : decode M.2.1 pc = .ok (.invokestatic index, 3)) (hl : (.methodLink M.1.cls index Lib.Math.max.name : Cond) ∈ TT) (hr : (st.map fun v => v.category).sum ≤ 8) (hd0 : 0 < X.d) (kk : Ev X M (pc + 3) ls (.int (mxI x y) :: st) σ) : Ev X M pc ls (.int y :: .int x :: st) σ := by
  intro G p l e s m args below meth c H locs A lsA hF hC hL hFr
  have hts := hF.2.2.2.2.2.2
  have hw : ((st.map (conc G)).map fun v => v.category).sum ≤ 8 := by simpa [List.map_map, Function.comp_def, conc_cat] using hr
  have hlo : ((st.map (conc G)).map fun v => v.category).sum + 15 ≤ (rmD X.d).locals := by simp only [rmD]; omega
  exact va_mmax (R := rmD X.d) hF.1 hF.2.1 (hF.2.2.1.trans hL.1.symm) hF.2.2.2.2.2.1 (hts _ hl) (hts _ wm_max_s) (hts _ wm_ini) (hts _ wm_max_c) hd0 (Nat.le_trans (by omega) hlo) (Nat.zero_le _) (Nat.zero_le _) hd (kk G p l e s m args below meth c H locs A lsA hF hC hL hFr)
theorem wm_min_s : (.static Lib.Math.min.name : Cond) ∈ TT := TT_mem 648 (by decide +kernel)
theorem wm_min_c : (.code Lib.Math.min.name Lib.Math.min.code 2 (some .int) : Cond) ∈ TT := TT_mem 649 (by decide +kernel)
theorem e_mmin {index : Nat} {x y : Int32} (hd : decode M.2.1 pc = .ok (.invokestatic index, 3)) (hl : (.methodLink M.1.cls index Lib.Math.min.name : Cond) ∈ TT) (hr : (st.map fun v => v.category).sum ≤ 8) (hd0 : 0 < X.d) (kk : Ev X M (pc + 3) ls (.int (mnI x y) :: st) σ) : Ev X M pc ls (.int y :: .int x :: st) σ := by
  intro G p l e s m args below meth c H locs A lsA hF hC hL hFr
  have hts := hF.2.2.2.2.2.2
  have hw : ((st.map (conc G)).map fun v => v.category).sum ≤ 8 := by simpa [List.map_map, Function.comp_def, conc_cat] using hr
  have hlo : ((st.map (conc G)).map fun v => v.category).sum + 15 ≤ (rmD X.d).locals := by simp only [rmD]; omega
  exact va_mmin (R := rmD X.d) hF.1 hF.2.1 (hF.2.2.1.trans hL.1.symm) hF.2.2.2.2.2.1 (hts _ hl) (hts _ wm_min_s) (hts _ wm_ini) (hts _ wm_min_c) hd0 (Nat.le_trans (by omega) hlo) (Nat.zero_le _) (Nat.zero_le _) hd (kk G p l e s m args below meth c H locs A lsA hF hC hL hFr)
theorem wm_maxL_s : (.static Lib.MathLoose.max_long.x : Cond) ∈ TT := TT_mem 884 (by decide +kernel)
theorem wm_maxL_c : (.code Lib.MathLoose.max_long.x Lib.MathLoose.max_long.code 4 (some .long) : Cond) ∈ TT := TT_mem 885 (by decide +kernel)
theorem e_mmaxL {index : Nat} {x y : Int64} (hd : decode M.2.1 pc = .ok (.invokestatic index, 3)) (hl : (.methodLink M.1.cls index Lib.MathLoose.max_long.x : Cond) ∈ TT) (hr : (st.map fun v => v.category).sum ≤ 8) (hd0 : 0 < X.d) (kk : Ev X M (pc + 3) ls (.long (mxL x y) :: st) σ) : Ev X M pc ls (.long y :: .long x :: st) σ := by
  intro G p l e s m args below meth c H locs A lsA hF hC hL hFr
  have hts := hF.2.2.2.2.2.2
  have hw : ((st.map (conc G)).map fun v => v.category).sum ≤ 8 := by simpa [List.map_map, Function.comp_def, conc_cat] using hr
  have hlo : ((st.map (conc G)).map fun v => v.category).sum + 15 ≤ (rmD X.d).locals := by simp only [rmD]; omega
  exact va_mmax_long (R := rmD X.d) hF.1 hF.2.1 (hF.2.2.1.trans hL.1.symm) hF.2.2.2.2.2.1 (hts _ hl) (hts _ wm_maxL_s) (hts _ wm_ini) (hts _ wm_maxL_c) hd0 (Nat.le_trans (by omega) hlo) (Nat.zero_le _) (Nat.zero_le _) hd (kk G p l e s m args below meth c H locs A lsA hF hC hL hFr)
theorem wm_minL_s : (.static Lib.MathLoose.min_long.x : Cond) ∈ TT := TT_mem 881 (by decide +kernel)
theorem wm_minL_c : (.code Lib.MathLoose.min_long.x Lib.MathLoose.min_long.code 4 (some .long) : Cond) ∈ TT := TT_mem 882 (by decide +kernel)
theorem e_mminL {index : Nat} {x y : Int64} (hd : decode M.2.1 pc = .ok (.invokestatic index, 3)) (hl : (.methodLink M.1.cls index Lib.MathLoose.min_long.x : Cond) ∈ TT) (hr : (st.map fun v => v.category).sum ≤ 8) (hd0 : 0 < X.d) (kk : Ev X M (pc + 3) ls (.long (mnL x y) :: st) σ) : Ev X M pc ls (.long y :: .long x :: st) σ := by
  intro G p l e s m args below meth c H locs A lsA hF hC hL hFr
  have hts := hF.2.2.2.2.2.2
  have hw : ((st.map (conc G)).map fun v => v.category).sum ≤ 8 := by simpa [List.map_map, Function.comp_def, conc_cat] using hr
  have hlo : ((st.map (conc G)).map fun v => v.category).sum + 15 ≤ (rmD X.d).locals := by simp only [rmD]; omega
  exact va_mmin_long (R := rmD X.d) hF.1 hF.2.1 (hF.2.2.1.trans hL.1.symm) hF.2.2.2.2.2.1 (hts _ hl) (hts _ wm_minL_s) (hts _ wm_ini) (hts _ wm_minL_c) hd0 (Nat.le_trans (by omega) hlo) (Nat.zero_le _) (Nat.zero_le _) hd (kk G p l e s m args below meth c H locs A lsA hF hC hL hFr)
theorem wm_ac_s : (.static arraycopyName : Cond) ∈ TT := TT_mem 824 (by decide +kernel)
theorem wm_ac_n : (.native arraycopyName : Cond) ∈ TT := TT_mem 825 (by decide +kernel)
theorem wm_ac_i : (.initialized "java/lang/System" : Cond) ∈ TT := TT_mem 123 (by decide +kernel)
theorem sA_other {G : Gx} {σ : St} {q : Nat} {f : Nat → Int32} (j : Nat) (h : j ≠ q) : cellOf G (sA σ q f) j = cellOf G σ j := cell_congr (gI_sA_ne h) rfl (fun _ => rfl)
theorem e_copy {index q0 q1 N0 N1 : Nat} {n : Int32} (hd : decode M.2.1 pc = .ok (.invokestatic index, 3)) (hl : (.methodLink M.1.cls index arraycopyName : Cond) ∈ TT) (h0 : Ar X.n q0 20 N0) (h1 : Ar X.n q1 20 N1) (hn : ¬ n < 0) (hn0 : n.toNatClampNeg ≤ N0) (hn1 : n.toNatClampNeg ≤ N1) (hr : (st.map fun v => v.category).sum ≤ 8) (hd0 : 0 < X.d) (hm : ∀ k, inMd X.m q1 k)
    (kk : Ev X M (pc + 3) ls st (sA σ q1 (va_cpy (gI σ q0) (gI σ q1) 0 0 n.toNatClampNeg))) : Ev X M pc ls (.int n :: .int 0 :: .ref q1 :: .int 0 :: .ref q0 :: st) σ := by
  intro G p l e s m args below meth c H locs A lsA hF hC hL hFr
  have hts := hF.2.2.2.2.2.2
  have hz : (0 : Int32).toNatClampNeg = 0 := by decide
  have hw : ((st.map (conc G)).map fun v => v.category).sum ≤ 8 := by simpa [List.map_map, Function.comp_def, conc_cat] using hr
  refine va_copyi hF.1 hF.2.1 (hF.2.2.1.trans hL.1.symm) hF.2.2.2.2.2.1 (hts _ hl) (hts _ wm_ac_n) (hts _ wm_ac_s) (hts _ wm_ac_i) hC.1 hC.2.1 hC.2.2.1 hC.2.2.2.1 q0 q1 0 0 (by rw [wl_get h0.2, cell_i h0.1]) (by rw [wl_get h1.2, cell_i h1.1]) rfl rfl rfl (by decide) (by decide) hn (by rw [hz]; omega) (by rw [hz]; omega) (fun _ _ => rfl) hd0 (by
    have h3 : nativeFrameWords "java/lang/System" "arraycopy" 5 ≤ 20 := by decide
    show _ ≤ 48 * X.d
    omega) hd (fun H1 locs1 hP hD hS => ?_)
  rw [hz] at hP hD
  exact kk G p l e s m args below meth c H1 locs1 A lsA hF (hC.set (σ' := sA σ q1 (va_cpy (gI σ q0) (gI σ q1) 0 0 n.toNatClampNeg)) (by rw [cell_i h1.1, gI_sA_same]) sA_other hP hD hS) hL (hFr.sA hm)
theorem e_aldG {i : Int32} (hd : decode M.2.1 pc = .ok (.aaload, 1)) (hn : FIX ≤ X.n) (hin : vp_in i 8) (kk : Ev X M (pc + 1) ls (.ref (GONE0 + i.toNatClampNeg) :: st) σ) : Ev X M pc ls (.int i :: .ref 33 :: st) σ := by
  intro G p l e s m args below meth c H locs A lsA hF hC hL hFr
  have ha : Ar X.n 33 25 8 := Ar.fx hn ⟨rfl, by decide⟩
  have hlt : i.toNatClampNeg < 8 := Nat.not_le.mp fun q => hin (Or.inr q)
  have h0 : (wl G X.n σ)[33]? = some (G.2.1 33, .inl (G.2.2 25, 8, .inr (.inr (.inr (.inr (fun j => some (G.2.1 (GONE0 + j)))))))) := by rw [wl_get ha.2, cell_g ha.1]
  have hc : H[G.2.1 33]? = some (arrV (G.2.2 25) 8 (fun j => va_rf (some (G.2.1 (GONE0 + j))))) := hC.2.1 33 _ h0
  exact W.aald (v := va_rf (some (G.2.1 (GONE0 + i.toNatClampNeg)))) (ty := .array .int) hF.1 hF.2.1 hc ((hC.1.2 5 _ rfl).1 8 (fun j => va_rf (some (G.2.1 (GONE0 + j))))) rfl (fun q => by cases q) (by show ¬ (i < 0 ∨ (arrV _ _ _).slots.size ≤ _); rw [arrV_size]; exact hin) (by show (arrV _ _ _).slots[_]? = _; rw [arrV_read _ _ hlt]) rfl rfl hd (kk G p l e s m args below meth c H locs A lsA hF hC hL hFr)

end Rules3
