/-! ===== calls of contracts out of any room ===== -/
section WCall
variable {p : Program} {l : Launch} {e : Env} {R : Room} {s : State} {m : MethodId} {args : Array Value} {below : List Frame} {meth : Method} {c : Code} {H : Heap} {locs : List Loc} {cells slots : Nat} {Q : State → Prop}
variable {G : Gx} {n d : Nat} {σ : St} {A : Nat → Prop} {pc : Nat} {lsA : Array Slot} {rest : List Value} {M : MI}
theorem wl_D {σ' : St} (hD : va_D A (wl G n σ)) : va_D A (wl G n σ') := by
  have e0 : ∀ (σ : St) (i : Nat) (q : Nat × va_E), (wl G n σ)[i]? = some q → i < n ∧ q.1 = G.2.1 i := by
    intro σ i q h
    by_cases hi : i < n
    · rw [wl_get hi] at h; cases h; exact ⟨hi, rfl⟩
    · simp [wl, hi] at h
  refine ⟨fun i j x y hx hy hxy => ?_, fun i x hx => ?_⟩
  · obtain ⟨hi, ei⟩ := e0 _ _ _ hx
    obtain ⟨hj, ej⟩ := e0 _ _ _ hy
    exact hD.1 i j _ _ (wl_get hi) (wl_get hj) (by rw [← ei, ← ej]; exact hxy)
  · obtain ⟨hi, ei⟩ := e0 _ _ _ hx
    rw [ei]
    exact hD.2 i _ (wl_get hi)
theorem w_back {m' : Md} {Qc : Option Value → St → Prop} {a : Array Value} {st0 : List Value} (hC : Cw G n σ A s H locs)
    (hr : va_Run p l e R s m args below meth c H locs cells slots 0 0 (F0 m pc lsA st0) rest (QcX G A (d, n, m', σ, Qc) a) A)
    (kk : ∀ v σ' H1 locs1, Qc v σ' → Fr m' σ σ' → Cw G n σ' A s H1 locs1 → W p l e R s m args below meth c H1 locs1 cells slots Q (F0 m (pc + 3) lsA ((v.map (conc G)).toList ++ rest))) : W p l e R s m args below meth c H locs cells slots Q (F0 m pc lsA st0) := by
  intro T hT Xs
  obtain ⟨v, st₀, t, T', L, h0, X', hL', e1, e2, ⟨⟨v', σ', hv, hQ, hfr, hP'⟩, hz, hk⟩, stp⟩ := hr T hT Xs
  cases hv
  obtain ⟨hK, hP, hD, hS, hA, hKC⟩ := hC
  rw [h0] at hz hk
  have hS' : va_S A s.heap T'.heap (locs ++ L) := by
    rw [e1]
    refine ⟨Nat.le_trans hS.1 hz, fun q h1 h2 => (hk q (Nat.lt_of_lt_of_le h1 hS.1) h2).trans (hS.2.1 q h1 h2), fun q hq => ?_⟩
    rcases List.mem_append.mp hq with h | h
    · exact hS.2.2 q h
    · exact hL' q h
  obtain ⟨t2, a1, b1⟩ := kk v' σ' T'.heap (locs ++ L) hQ hfr ⟨hK, by rw [e1]; exact hP', wl_D hD, hS', hA, hKC⟩ T' rfl X'
  exact ⟨t2, stp t2 a1, b1⟩
theorem room_any {M' : MI} (hl : M'.2.2.1 ≤ 29) (hR : d + 1 ≤ R.frames ∧ 48 + 48 * d ≤ R.locals) : (rmD d).frames + 1 ≤ R.frames ∧ 8 + (M'.2.2.1 + 11) + (rmD d).locals ≤ R.locals := by
  simp only [rmD]; omega
theorem w_callV {index q k ci : Nat} {M' : MI} {as : List Value} {m' : Md} {Qc : Option Value → St → Prop} {r : vw_C} (F : Fx p M s m args meth c) (hC : Cw G n σ A s H locs) (hsz : lsA.size = M.2.2.1) (hd : decode M.2.1 pc = .ok (.invokevirtual index, 3)) (hl : (.methodLink M.1.cls index M'.1 : Cond) ∈ TT) (hM : Mv M' k) (ho : Ob n q ci) (hci : cls13[ci]? = some r) (hr1 : M'.1.cls = r.1) (hn : as.length = k) (hr : (rest.map fun v => v.category).sum ≤ 8) (hR : d + 1 ≤ R.frames ∧ 48 + 48 * d ≤ R.locals) (hcs : cells ≤ R.cells ∧ slots ≤ R.slots) (hc : Cn d n M' m' (.ref q :: as) σ Qc)
    (kk : ∀ v σ' H1 locs1, Qc v σ' → Fr m' σ σ' → Cw G n σ' A s H1 locs1 → W p l e R s m args below meth c H1 locs1 cells slots Q (F0 m (pc + 3) lsA ((v.map (conc G)).toList ++ rest))) : W p l e R s m args below meth c H locs cells slots Q (F0 m pc lsA ((as.map (conc G)).reverse ++ .ref (G.2.1 q) :: rest)) := by
  obtain ⟨⟨hco, hin, hnm, hmx⟩, hinst, hsel⟩ := hM
  obtain ⟨⟨N, hkd, r', hr', hN⟩, hq, h20⟩ := ho
  have hts := F.2.2.2.2.2.2
  have hcw : CallW R s args M.1.cls M'.1.cls index M'.1 M'.2.1 M'.2.2.1 M'.2.2.2 (wsM M') (rmD d) 0 0 k :=
    ⟨callB_of k hts (GoodIn_M hco) rfl rfl rfl (hts _ hin) (hts _ hl) hnm (room_any hmx hR), hts _ hinst, hts _ hsel⟩
  have hrec : ∃ cell : Cell, H[G.2.1 q]? = some cell ∧ cell.vm.isStatics = false ∧ s.vm.findClass M'.1.cls = some cell.cls := by
    rw [hr1]
    exact va_recv hC.1 hC.2.1 hci (q0 := q) (fs := (List.range N).map (fv G σ q ci)) (by rw [wl_get hq, cell_o hkd h20])
  have hrun := va_runV (l := l) (e := e) (below := below) (meth := meth) (locs := locs) (cells := cells) (slots := slots) (g := F0 m pc lsA ((as.map (conc G)).reverse ++ .ref (G.2.1 q) :: rest)) (As := as.map (conc G)) (rest := rest) (b := G.2.1 q) ⟨F.1, F.2.1, F.2.2.1, F.2.2.2.2.2.1, hts⟩ (hc l G A) hcw
    ⟨PcX_blind _ _ _ _ _, hrec, fun U hU hW => PcX_at hC U hU hW⟩ rfl (by rw [List.length_map]; exact hn) hsz rfl (lv_room hr) hd ⟨hcs.1, hcs.2⟩
  exact w_back hC hrun kk
theorem w_callS {index k : Nat} {M' : MI} {as : List Value} {m' : Md} {Qc : Option Value → St → Prop} (F : Fx p M s m args meth c) (hC : Cw G n σ A s H locs) (hsz : lsA.size = M.2.2.1) (hd : decode M.2.1 pc = .ok (.invokestatic index, 3)) (hl : (.methodLink M.1.cls index M'.1 : Cond) ∈ TT) (hM : Ms M' k) (hn : as.length = k) (hr : (rest.map fun v => v.category).sum ≤ 8) (hR : d + 1 ≤ R.frames ∧ 48 + 48 * d ≤ R.locals) (hcs : cells ≤ R.cells ∧ slots ≤ R.slots) (hc : Cn d n M' m' as σ Qc)
    (kk : ∀ v σ' H1 locs1, Qc v σ' → Fr m' σ σ' → Cw G n σ' A s H1 locs1 → W p l e R s m args below meth c H1 locs1 cells slots Q (F0 m (pc + 3) lsA ((v.map (conc G)).toList ++ rest))) : W p l e R s m args below meth c H locs cells slots Q (F0 m pc lsA ((as.map (conc G)).reverse ++ rest)) := by
  obtain ⟨⟨hco, hin, hnm, hmx⟩, hstt⟩ := hM
  have hts := F.2.2.2.2.2.2
  have hcw : CallB R s args M.1.cls index M'.1 M'.2.1 M'.2.2.1 M'.2.2.2 (wsM M') (rmD d) 0 0 k ∧ (Cond.static M'.1).before args s = true :=
    ⟨callB_of k hts (GoodIn_M hco) rfl rfl rfl (hts _ hin) (hts _ hl) hnm (room_any hmx hR), hts _ hstt⟩
  have hrun := va_runS (l := l) (e := e) (below := below) (meth := meth) (locs := locs) (cells := cells) (slots := slots) (g := F0 m pc lsA ((as.map (conc G)).reverse ++ rest)) (As := as.map (conc G)) (rest := rest) ⟨F.1, F.2.1, F.2.2.1, F.2.2.2.2.2.1, hts⟩ (hc l G A) hcw
    ⟨PcX_blind _ _ _ _ _, fun U hU hW => PcX_at hC U hU hW⟩ rfl (by rw [List.length_map]; exact hn) hsz rfl (lv_room hr) hd ⟨hcs.1, hcs.2⟩
  exact w_back hC hrun kk
/-! a contract that makes cells: the answer is an int, what the heap is behind it -/
def PcA (G : Gx) (A : Nat → Prop) (n sz : Nat) (as : List Value) (σ : St) : Array Value → State → Prop := fun a U => PcX G A n as σ a U ∧ ExI U ∧ U.heap.size = sz
def QcA (A : Nat → Prop) (P : Int32 → Heap → Prop) : Array Value → State → Outcome → State → Prop := va_Qi (fun r (u : Int32) => r = u) (fun u t => P u t.heap) A
def Ca (l : Launch) (G : Gx) (A : Nat → Prop) (n sz : Nat) (M' : MI) (rm : Room) (as : List Value) (σ : St) (P : Int32 → Heap → Prop) : Prop := Met l M'.1 (wsM M') rm (PcA G A n sz as σ) (QcA A P) rm.cells rm.slots A
theorem PcA_blind (G : Gx) (A : Nat → Prop) (n sz : Nat) (as : List Value) (σ : St) : FrameBlind (PcA G A n sz as σ) := by
  intro a U g mk h
  obtain ⟨h1, h2, h3⟩ := h
  exact ⟨PcX_blind G A n as σ a U g mk h1, h2.same rfl, h3⟩
theorem w_callA {index q k ci : Nat} {M' : MI} {rm : Room} {as : List Value} {P : Int32 → Heap → Prop} {r : vw_C} (F : Fx p M s m args meth c) (ex : ExI s) (hC : Cw G n σ A s H locs) (hsz : lsA.size = M.2.2.1) (hd : decode M.2.1 pc = .ok (.invokevirtual index, 3)) (hl : (.methodLink M.1.cls index M'.1 : Cond) ∈ TT) (hM : Mv M' k) (ho : Ob n q ci) (hci : cls13[ci]? = some r) (hr1 : M'.1.cls = r.1) (hn : as.length = k) (hr : (rest.map fun v => v.category).sum ≤ 8) (hR : rm.frames + 1 ≤ R.frames ∧ 48 + rm.locals ≤ R.locals) (hcs : cells + rm.cells ≤ R.cells ∧ slots + rm.slots ≤ R.slots) (hc : Ca l G A n H.size M' rm (.ref q :: as) σ P)
    (kk : ∀ (v : Int32) (H1 : Heap) (locs1 : List Loc), P v H1 → va_S A s.heap H1 locs1 → W p l e R s m args below meth c H1 locs1 (cells + rm.cells) (slots + rm.slots) Q (F0 m (pc + 3) lsA (.int v :: rest))) : W p l e R s m args below meth c H locs cells slots Q (F0 m pc lsA ((as.map (conc G)).reverse ++ .ref (G.2.1 q) :: rest)) := by
  obtain ⟨⟨hco, hin, hnm, hmx⟩, hinst, hsel⟩ := hM
  obtain ⟨⟨N, hkd, r', hr', hN⟩, hq, h20⟩ := ho
  have hts := F.2.2.2.2.2.2
  have hcw : CallW R s args M.1.cls M'.1.cls index M'.1 M'.2.1 M'.2.2.1 M'.2.2.2 (wsM M') rm rm.cells rm.slots k :=
    ⟨callB_of k hts (GoodIn_M hco) rfl rfl rfl (hts _ hin) (hts _ hl) hnm ⟨hR.1, by omega⟩, hts _ hinst, hts _ hsel⟩
  have hrec : ∃ cell : Cell, H[G.2.1 q]? = some cell ∧ cell.vm.isStatics = false ∧ s.vm.findClass M'.1.cls = some cell.cls := by
    rw [hr1]
    exact va_recv hC.1 hC.2.1 hci (q0 := q) (fs := (List.range N).map (fv G σ q ci)) (by rw [wl_get hq, cell_o hkd h20])
  have hrun := va_runV (l := l) (e := e) (below := below) (meth := meth) (locs := locs) (cells := cells) (slots := slots) (g := F0 m pc lsA ((as.map (conc G)).reverse ++ .ref (G.2.1 q) :: rest)) (As := as.map (conc G)) (rest := rest) (b := G.2.1 q) ⟨F.1, F.2.1, F.2.2.1, F.2.2.2.2.2.1, hts⟩ hc hcw
    ⟨PcA_blind _ _ _ _ _ _, hrec, fun U hU hW => ⟨PcX_at hC U hU hW, ex.warm hW, by rw [hU]⟩⟩ rfl (by rw [List.length_map]; exact hn) hsz rfl (lv_room hr) hd hcs
  refine va_calli hrun hC.2.2.2.1 (fun _ _ h => h) (fun _ h => h) (fun v u t H1 locs1 ht hvm hp hB hz hk hS => ?_)
  rw [ht] at hB
  have e0 : v = u := hp
  subst e0
  exact kk v H1 locs1 hB hS
end WCall
