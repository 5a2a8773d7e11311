/-! ===== the rules: an instruction of a method, over the abstract memory ===== -/
section Rules
variable {X : Cx} {M : MI} {pc : Nat} {ls : List (Option Value)} {st : List Value} {σ : St}
theorem conc_cat (G : Gx) (v : Value) : (conc G v).category = v.category := by cases v <;> rfl
def lvOf (G : Gx) (ls : List (Option Value)) : List (Nat × Value) := (List.range ls.length).filterMap (fun k => match ls[k]? with
  | some (some v) => some (k, conc G v)
  | _ => none)
theorem lvOf_mem {G : Gx} {ls : List (Option Value)} {k : Nat} {v : Value} (h : ls[k]? = some (some v)) : (k, conc G v) ∈ lvOf G ls := by
  refine List.mem_filterMap.mpr ⟨k, List.mem_range.mpr (List.getElem?_eq_some_iff.mp h).1, ?_⟩
  simp [h]
theorem lvOf_of {G : Gx} {ls : List (Option Value)} {q : Nat × Value} (h : q ∈ lvOf G ls) : ∃ v, ls[q.1]? = some (some v) ∧ q.2 = conc G v := by
  obtain ⟨k, hk, he⟩ := List.mem_filterMap.mp h
  split at he
  · rename_i v hv
    cases he
    exact ⟨v, hv, rfl⟩
  · cases he
theorem LR.lv {G : Gx} {lsA : Array Slot} {nL : Nat} {ls : List (Option Value)} (h : LR G lsA nL ls) : lv_has lsA nL (lvOf G ls) :=
  ⟨h.1, h.2.1, fun q hq => by obtain ⟨v, h1, h2⟩ := lvOf_of hq; rw [h2]; exact h.2.2 q.1 v h1⟩
theorem LR.of {G : Gx} {lsA : Array Slot} {nL : Nat} {lv : List (Nat × Value)} {ls : List (Option Value)} (h : lv_has lsA nL lv) (hm : ∀ (k : Nat) (v : Value), ls[k]? = some (some v) → (k, conc G v) ∈ lv) : LR G lsA nL ls :=
  ⟨h.1, h.2.1, fun k v hk => h.2.2 _ (hm k v hk)⟩
def okSt (ls : List (Option Value)) (i : Nat) : Bool := match i with
  | 0 => true
  | j + 1 => match ls[j]? with
    | some (some v) => v.category == 1
    | _ => true
theorem okSt_spec {ls : List (Option Value)} {i k : Nat} {v : Value} (h : okSt ls i = true) (hk : k + 1 = i) (hv : ls[k]? = some (some v)) : v.category = 1 := by
  subst hk
  simp only [okSt, hv] at h
  exact eq_of_beq h
theorem st1_mem {G : Gx} {ls : List (Option Value)} {i : Nat} {v : Value} (ho : okSt ls i = true) : ∀ (k : Nat) (w : Value), (ls.set i (some v))[k]? = some (some w) → (k, conc G w) ∈ (i, conc G v) :: (lvOf G ls).filter (fun q => !(q.1 == i) && !(q.1 + 1 == i && q.2.category == 2)) := by
  intro k w h
  rw [List.getElem?_set] at h
  by_cases e : i = k
  · subst e
    by_cases hl : i < ls.length
    · simp [hl] at h; subst h; exact List.mem_cons_self
    · simp [hl] at h
  · rw [if_neg e] at h
    refine List.mem_cons_of_mem _ (List.mem_filter.mpr ⟨lvOf_mem h, ?_⟩)
    have e2 : (k == i) = false := by simp [Ne.symm e]
    by_cases e3 : k + 1 = i
    · have := okSt_spec ho e3 h
      simp [e2, conc_cat, this]
    · simp [e2, e3]
theorem st2_mem {G : Gx} {ls : List (Option Value)} {i : Nat} {v : Value} (ho : okSt ls i = true) : ∀ (k : Nat) (w : Value), ((ls.set i (some v)).set (i + 1) none)[k]? = some (some w) → (k, conc G w) ∈ (i, conc G v) :: (lvOf G ls).filter (fun q => !(q.1 == i) && (!(q.1 == i + 1) && !(q.1 + 1 == i && q.2.category == 2))) := by
  intro k w h
  rw [List.getElem?_set] at h
  by_cases e1 : i + 1 = k
  · subst e1
    by_cases hl : i + 1 < (ls.set i (some v)).length
    · simp at h
    · simp at h
  · rw [if_neg e1] at h
    rw [List.getElem?_set] at h
    by_cases e : i = k
    · subst e
      by_cases hl : i < ls.length
      · simp [hl] at h; subst h; exact List.mem_cons_self
      · simp [hl] at h
    · rw [if_neg e] at h
      refine List.mem_cons_of_mem _ (List.mem_filter.mpr ⟨lvOf_mem h, ?_⟩)
      have e2 : (k == i) = false := by simp [Ne.symm e]
      have e4 : (k == i + 1) = false := by simp [Ne.symm e1]
      by_cases e3 : k + 1 = i
      · have := okSt_spec ho e3 h
        simp [e2, e4, conc_cat, this]
      · simp [e2, e4, e3]

theorem e_iload_n {k : Fin 4} {i : Nat} {x : Int32} (hd : decode M.2.1 pc = .ok (.iload_n k, 1)) (hi : (k : Nat) = i) (hl : ls[i]? = some (some (.int x))) (kk : Ev X M (pc + 1) ls (.int x :: st) σ) : Ev X M pc ls st σ := by
  intro G p l e s m args below meth c H locs A lsA hF hC hL hFr
  exact lv_iload_n hF.1 hF.2.1 hd hi (hL.2.2 _ _ hl) (kk G p l e s m args below meth c H locs A lsA hF hC hL hFr)
theorem e_aload_n {k : Fin 4} {i : Nat} {x : Nat} (hd : decode M.2.1 pc = .ok (.aload_n k, 1)) (hi : (k : Nat) = i) (hl : ls[i]? = some (some (.ref x))) (kk : Ev X M (pc + 1) ls (.ref x :: st) σ) : Ev X M pc ls st σ := by
  intro G p l e s m args below meth c H locs A lsA hF hC hL hFr
  exact lv_aload_n hF.1 hF.2.1 hd hi (hL.2.2 _ _ hl) (kk G p l e s m args below meth c H locs A lsA hF hC hL hFr)
theorem e_lload_n {k : Fin 4} {i : Nat} {x : Int64} (hd : decode M.2.1 pc = .ok (.lload_n k, 1)) (hi : (k : Nat) = i) (hl : ls[i]? = some (some (.long x))) (kk : Ev X M (pc + 1) ls (.long x :: st) σ) : Ev X M pc ls st σ := by
  intro G p l e s m args below meth c H locs A lsA hF hC hL hFr
  exact lv_lload_n hF.1 hF.2.1 hd hi (hL.2.2 _ _ hl) (kk G p l e s m args below meth c H locs A lsA hF hC hL hFr)
theorem e_iload {i : Nat} {x : Int32} (hd : decode M.2.1 pc = .ok (.iload i, 2)) (hl : ls[i]? = some (some (.int x))) (kk : Ev X M (pc + 2) ls (.int x :: st) σ) : Ev X M pc ls st σ := by
  intro G p l e s m args below meth c H locs A lsA hF hC hL hFr
  exact lv_iload hF.1 hF.2.1 hd (hL.2.2 _ _ hl) (kk G p l e s m args below meth c H locs A lsA hF hC hL hFr)
theorem e_aload {i : Nat} {x : Nat} (hd : decode M.2.1 pc = .ok (.aload i, 2)) (hl : ls[i]? = some (some (.ref x))) (kk : Ev X M (pc + 2) ls (.ref x :: st) σ) : Ev X M pc ls st σ := by
  intro G p l e s m args below meth c H locs A lsA hF hC hL hFr
  exact lv_aload hF.1 hF.2.1 hd (hL.2.2 _ _ hl) (kk G p l e s m args below meth c H locs A lsA hF hC hL hFr)
theorem e_lload {i : Nat} {x : Int64} (hd : decode M.2.1 pc = .ok (.lload i, 2)) (hl : ls[i]? = some (some (.long x))) (kk : Ev X M (pc + 2) ls (.long x :: st) σ) : Ev X M pc ls st σ := by
  intro G p l e s m args below meth c H locs A lsA hF hC hL hFr
  exact lv_lload hF.1 hF.2.1 hd (hL.2.2 _ _ hl) (kk G p l e s m args below meth c H locs A lsA hF hC hL hFr)
theorem e_istore_n {k : Fin 4} {i : Nat} {x : Int32} (hd : decode M.2.1 pc = .ok (.istore_n k, 1)) (hi : (k : Nat) = i) (ho : okSt ls i = true) (hn : i < M.2.2.1) (kk : Ev X M (pc + 1) (ls.set i (some (.int x))) st σ) : Ev X M pc ls (.int x :: st) σ := by
  intro G p l e s m args below meth c H locs A lsA hF hC hL hFr
  exact lv_istore_n hF.1 hF.2.1 hd hi hL.lv hn rfl (fun ls2 hl2 => kk G p l e s m args below meth c H locs A ls2 hF hC (LR.of hl2 (st1_mem ho)) hFr)
theorem e_astore_n {k : Fin 4} {i : Nat} {x : Nat} (hd : decode M.2.1 pc = .ok (.astore_n k, 1)) (hi : (k : Nat) = i) (ho : okSt ls i = true) (hn : i < M.2.2.1) (kk : Ev X M (pc + 1) (ls.set i (some (.ref x))) st σ) : Ev X M pc ls (.ref x :: st) σ := by
  intro G p l e s m args below meth c H locs A lsA hF hC hL hFr
  exact lv_astore_n hF.1 hF.2.1 hd hi hL.lv hn rfl (fun ls2 hl2 => kk G p l e s m args below meth c H locs A ls2 hF hC (LR.of hl2 (st1_mem ho)) hFr)
theorem e_lstore_n {k : Fin 4} {i : Nat} {x : Int64} (hd : decode M.2.1 pc = .ok (.lstore_n k, 1)) (hi : (k : Nat) = i) (ho : okSt ls i = true) (hn : i + 1 < M.2.2.1) (kk : Ev X M (pc + 1) ((ls.set i (some (.long x))).set (i + 1) none) st σ) : Ev X M pc ls (.long x :: st) σ := by
  intro G p l e s m args below meth c H locs A lsA hF hC hL hFr
  exact lv_lstore_n hF.1 hF.2.1 hd hi hL.lv hn rfl (fun ls2 hl2 => kk G p l e s m args below meth c H locs A ls2 hF hC (LR.of hl2 (st2_mem ho)) hFr)
theorem e_istore {i : Nat} {x : Int32} (hd : decode M.2.1 pc = .ok (.istore i, 2)) (ho : okSt ls i = true) (hn : i < M.2.2.1) (kk : Ev X M (pc + 2) (ls.set i (some (.int x))) st σ) : Ev X M pc ls (.int x :: st) σ := by
  intro G p l e s m args below meth c H locs A lsA hF hC hL hFr
  exact lv_istore hF.1 hF.2.1 hd hL.lv hn rfl (fun ls2 hl2 => kk G p l e s m args below meth c H locs A ls2 hF hC (LR.of hl2 (st1_mem ho)) hFr)
theorem e_astore {i : Nat} {x : Nat} (hd : decode M.2.1 pc = .ok (.astore i, 2)) (ho : okSt ls i = true) (hn : i < M.2.2.1) (kk : Ev X M (pc + 2) (ls.set i (some (.ref x))) st σ) : Ev X M pc ls (.ref x :: st) σ := by
  intro G p l e s m args below meth c H locs A lsA hF hC hL hFr
  exact lv_astore hF.1 hF.2.1 hd hL.lv hn rfl (fun ls2 hl2 => kk G p l e s m args below meth c H locs A ls2 hF hC (LR.of hl2 (st1_mem ho)) hFr)
theorem e_lstore {i : Nat} {x : Int64} (hd : decode M.2.1 pc = .ok (.lstore i, 2)) (ho : okSt ls i = true) (hn : i + 1 < M.2.2.1) (kk : Ev X M (pc + 2) ((ls.set i (some (.long x))).set (i + 1) none) st σ) : Ev X M pc ls (.long x :: st) σ := by
  intro G p l e s m args below meth c H locs A lsA hF hC hL hFr
  exact lv_lstore hF.1 hF.2.1 hd hL.lv hn rfl (fun ls2 hl2 => kk G p l e s m args below meth c H locs A ls2 hF hC (LR.of hl2 (st2_mem ho)) hFr)
theorem e_iinc {i : Nat} {n : Int} {x v : Int32} (hd : decode M.2.1 pc = .ok (.iinc i n, 3)) (hl : ls[i]? = some (some (.int x))) (hv : x + Int32.ofInt n = v) (ho : okSt ls i = true) (hn : i < M.2.2.1) (kk : Ev X M (pc + 3) (ls.set i (some (.int v))) st σ) : Ev X M pc ls st σ := by
  intro G p l e s m args below meth c H locs A lsA hF hC hL hFr
  obtain ⟨k, hk⟩ := List.getElem?_of_mem (lvOf_mem (G := G) hl)
  exact lv_iinc hF.1 hF.2.1 hd hL.lv hk hv hn rfl (fun ls2 hl2 => kk G p l e s m args below meth c H locs A ls2 hF hC (LR.of hl2 (st1_mem ho)) hFr)
theorem e_iconst {n : Int} {v : Int32} (hd : decode M.2.1 pc = .ok (.iconst n, 1)) (hv : Int32.ofInt n = v) (kk : Ev X M (pc + 1) ls (.int v :: st) σ) : Ev X M pc ls st σ := by
  intro G p l e s m args below meth c H locs A lsA hF hC hL hFr
  exact lv_iconst hF.1 hF.2.1 hd hv (kk G p l e s m args below meth c H locs A lsA hF hC hL hFr)
theorem e_bipush {n : Int} {v : Int32} (hd : decode M.2.1 pc = .ok (.bipush n, 2)) (hv : (Int8.ofInt n).toInt32 = v) (kk : Ev X M (pc + 2) ls (.int v :: st) σ) : Ev X M pc ls st σ := by
  intro G p l e s m args below meth c H locs A lsA hF hC hL hFr
  exact lv_bipush hF.1 hF.2.1 hd hv (kk G p l e s m args below meth c H locs A lsA hF hC hL hFr)
theorem e_sipush {n : Int} {v : Int32} (hd : decode M.2.1 pc = .ok (.sipush n, 3)) (hv : (Int16.ofInt n).toInt32 = v) (kk : Ev X M (pc + 3) ls (.int v :: st) σ) : Ev X M pc ls st σ := by
  intro G p l e s m args below meth c H locs A lsA hF hC hL hFr
  exact lv_sipush hF.1 hF.2.1 hd hv (kk G p l e s m args below meth c H locs A lsA hF hC hL hFr)
theorem e_lconst {n : Fin 2} {v : Int64} (hd : decode M.2.1 pc = .ok (.lconst n, 1)) (hv : Int64.ofNat (n : Nat) = v) (kk : Ev X M (pc + 1) ls (.long v :: st) σ) : Ev X M pc ls st σ := by
  intro G p l e s m args below meth c H locs A lsA hF hC hL hFr
  exact lv_lconst hF.1 hF.2.1 hd hv (kk G p l e s m args below meth c H locs A lsA hF hC hL hFr)
theorem e_ldc {index : Nat} {v : Int32} (hd : decode M.2.1 pc = .ok (.ldc index, 2)) (hw : (.constant M.1.cls index v : Cond) ∈ TT) (kk : Ev X M (pc + 2) ls (.int v :: st) σ) : Ev X M pc ls st σ := by
  intro G p l e s m args below meth c H locs A lsA hF hC hL hFr
  exact lv_ldc hF.1 hF.2.1 hF.2.2.2.2.2.1 (hF.2.2.2.2.2.2 _ hw) hd (kk G p l e s m args below meth c H locs A lsA hF hC hL hFr)
theorem e_ldcw {index : Nat} {v : Int32} (hd : decode M.2.1 pc = .ok (.ldc_w index, 3)) (hw : (.constant M.1.cls index v : Cond) ∈ TT) (kk : Ev X M (pc + 3) ls (.int v :: st) σ) : Ev X M pc ls st σ := by
  intro G p l e s m args below meth c H locs A lsA hF hC hL hFr
  exact lv_ldcw hF.1 hF.2.1 hF.2.2.2.2.2.1 (hF.2.2.2.2.2.2 _ hw) hd (kk G p l e s m args below meth c H locs A lsA hF hC hL hFr)
theorem e_ldc2 {index : Nat} {v : Int64} (hd : decode M.2.1 pc = .ok (.ldc2_w index, 3)) (hw : (.constantLong M.1.cls index v : Cond) ∈ TT) (kk : Ev X M (pc + 3) ls (.long v :: st) σ) : Ev X M pc ls st σ := by
  intro G p l e s m args below meth c H locs A lsA hF hC hL hFr
  exact lv_ldc2 hF.1 hF.2.1 hF.2.2.2.2.2.1 (hF.2.2.2.2.2.2 _ hw) hd (kk G p l e s m args below meth c H locs A lsA hF hC hL hFr)
theorem e_iadd {x y : Int32} (hd : decode M.2.1 pc = .ok (.iadd, 1)) (kk : Ev X M (pc + 1) ls (.int (x + y) :: st) σ) : Ev X M pc ls (.int y :: .int x :: st) σ := by
  intro G p l e s m args below meth c H locs A lsA hF hC hL hFr
  exact lv_iadd hF.1 hF.2.1 hd (kk G p l e s m args below meth c H locs A lsA hF hC hL hFr)
theorem e_isub {x y : Int32} (hd : decode M.2.1 pc = .ok (.isub, 1)) (kk : Ev X M (pc + 1) ls (.int (x - y) :: st) σ) : Ev X M pc ls (.int y :: .int x :: st) σ := by
  intro G p l e s m args below meth c H locs A lsA hF hC hL hFr
  exact lv_isub hF.1 hF.2.1 hd (kk G p l e s m args below meth c H locs A lsA hF hC hL hFr)
theorem e_imul {x y : Int32} (hd : decode M.2.1 pc = .ok (.imul, 1)) (kk : Ev X M (pc + 1) ls (.int (x * y) :: st) σ) : Ev X M pc ls (.int y :: .int x :: st) σ := by
  intro G p l e s m args below meth c H locs A lsA hF hC hL hFr
  exact lv_imul hF.1 hF.2.1 hd (kk G p l e s m args below meth c H locs A lsA hF hC hL hFr)
theorem e_ishl {x y : Int32} (hd : decode M.2.1 pc = .ok (.ishl, 1)) (kk : Ev X M (pc + 1) ls (.int (x <<< (y &&& 31)) :: st) σ) : Ev X M pc ls (.int y :: .int x :: st) σ := by
  intro G p l e s m args below meth c H locs A lsA hF hC hL hFr
  exact lv_ishl hF.1 hF.2.1 hd (kk G p l e s m args below meth c H locs A lsA hF hC hL hFr)
theorem e_ishr {x y : Int32} (hd : decode M.2.1 pc = .ok (.ishr, 1)) (kk : Ev X M (pc + 1) ls (.int (x >>> (y &&& 31)) :: st) σ) : Ev X M pc ls (.int y :: .int x :: st) σ := by
  intro G p l e s m args below meth c H locs A lsA hF hC hL hFr
  exact lv_ishr hF.1 hF.2.1 hd (kk G p l e s m args below meth c H locs A lsA hF hC hL hFr)
theorem e_iand {x y : Int32} (hd : decode M.2.1 pc = .ok (.iand, 1)) (kk : Ev X M (pc + 1) ls (.int (x &&& y) :: st) σ) : Ev X M pc ls (.int y :: .int x :: st) σ := by
  intro G p l e s m args below meth c H locs A lsA hF hC hL hFr
  exact lv_iand hF.1 hF.2.1 hd (kk G p l e s m args below meth c H locs A lsA hF hC hL hFr)
theorem e_ior {x y : Int32} (hd : decode M.2.1 pc = .ok (.ior, 1)) (kk : Ev X M (pc + 1) ls (.int (x ||| y) :: st) σ) : Ev X M pc ls (.int y :: .int x :: st) σ := by
  intro G p l e s m args below meth c H locs A lsA hF hC hL hFr
  exact lv_ior hF.1 hF.2.1 hd (kk G p l e s m args below meth c H locs A lsA hF hC hL hFr)
theorem e_ixor {x y : Int32} (hd : decode M.2.1 pc = .ok (.ixor, 1)) (kk : Ev X M (pc + 1) ls (.int (x ^^^ y) :: st) σ) : Ev X M pc ls (.int y :: .int x :: st) σ := by
  intro G p l e s m args below meth c H locs A lsA hF hC hL hFr
  exact lv_ixor hF.1 hF.2.1 hd (kk G p l e s m args below meth c H locs A lsA hF hC hL hFr)
theorem e_idiv {x y : Int32} (hd : decode M.2.1 pc = .ok (.idiv, 1)) (hne : ¬ y = 0) (kk : Ev X M (pc + 1) ls (.int (x / y) :: st) σ) : Ev X M pc ls (.int y :: .int x :: st) σ := by
  intro G p l e s m args below meth c H locs A lsA hF hC hL hFr
  exact lv_idiv hF.1 hF.2.1 hd hne (kk G p l e s m args below meth c H locs A lsA hF hC hL hFr)
theorem e_irem {x y : Int32} (hd : decode M.2.1 pc = .ok (.irem, 1)) (hne : ¬ y = 0) (kk : Ev X M (pc + 1) ls (.int (x - x / y * y) :: st) σ) : Ev X M pc ls (.int y :: .int x :: st) σ := by
  intro G p l e s m args below meth c H locs A lsA hF hC hL hFr
  exact lv_irem hF.1 hF.2.1 hd hne (kk G p l e s m args below meth c H locs A lsA hF hC hL hFr)
theorem e_ladd {x y : Int64} (hd : decode M.2.1 pc = .ok (.ladd, 1)) (kk : Ev X M (pc + 1) ls (.long (x + y) :: st) σ) : Ev X M pc ls (.long y :: .long x :: st) σ := by
  intro G p l e s m args below meth c H locs A lsA hF hC hL hFr
  exact lv_ladd hF.1 hF.2.1 hd (kk G p l e s m args below meth c H locs A lsA hF hC hL hFr)
theorem e_lsub {x y : Int64} (hd : decode M.2.1 pc = .ok (.lsub, 1)) (kk : Ev X M (pc + 1) ls (.long (x - y) :: st) σ) : Ev X M pc ls (.long y :: .long x :: st) σ := by
  intro G p l e s m args below meth c H locs A lsA hF hC hL hFr
  exact lv_lsub hF.1 hF.2.1 hd (kk G p l e s m args below meth c H locs A lsA hF hC hL hFr)
theorem e_lmul {x y : Int64} (hd : decode M.2.1 pc = .ok (.lmul, 1)) (kk : Ev X M (pc + 1) ls (.long (x * y) :: st) σ) : Ev X M pc ls (.long y :: .long x :: st) σ := by
  intro G p l e s m args below meth c H locs A lsA hF hC hL hFr
  exact lv_lmul hF.1 hF.2.1 hd (kk G p l e s m args below meth c H locs A lsA hF hC hL hFr)
theorem e_lor {x y : Int64} (hd : decode M.2.1 pc = .ok (.lor, 1)) (kk : Ev X M (pc + 1) ls (.long (x ||| y) :: st) σ) : Ev X M pc ls (.long y :: .long x :: st) σ := by
  intro G p l e s m args below meth c H locs A lsA hF hC hL hFr
  exact lv_lor hF.1 hF.2.1 hd (kk G p l e s m args below meth c H locs A lsA hF hC hL hFr)
theorem e_ldiv {x y : Int64} (hd : decode M.2.1 pc = .ok (.ldiv, 1)) (hne : ¬ y = 0) (kk : Ev X M (pc + 1) ls (.long (x / y) :: st) σ) : Ev X M pc ls (.long y :: .long x :: st) σ := by
  intro G p l e s m args below meth c H locs A lsA hF hC hL hFr
  exact lv_ldiv hF.1 hF.2.1 hd hne (kk G p l e s m args below meth c H locs A lsA hF hC hL hFr)
theorem e_lshl {x : Int64} {y : Int32} (hd : decode M.2.1 pc = .ok (.lshl, 1)) (kk : Ev X M (pc + 1) ls (.long (x <<< (y.toInt64 &&& 63)) :: st) σ) : Ev X M pc ls (.int y :: .long x :: st) σ := by
  intro G p l e s m args below meth c H locs A lsA hF hC hL hFr
  exact lv_lshl hF.1 hF.2.1 hd rfl (kk G p l e s m args below meth c H locs A lsA hF hC hL hFr)
theorem e_lcmp {x y : Int64} (hd : decode M.2.1 pc = .ok (.lcmp, 1)) (kk : Ev X M (pc + 1) ls (.int (lg_cmp x y) :: st) σ) : Ev X M pc ls (.long y :: .long x :: st) σ := by
  intro G p l e s m args below meth c H locs A lsA hF hC hL hFr
  exact W.lcmp hF.1 hF.2.1 hd (kk G p l e s m args below meth c H locs A lsA hF hC hL hFr)
theorem e_ineg {x : Int32} (hd : decode M.2.1 pc = .ok (.ineg, 1)) (kk : Ev X M (pc + 1) ls (.int (-x) :: st) σ) : Ev X M pc ls (.int x :: st) σ := by
  intro G p l e s m args below meth c H locs A lsA hF hC hL hFr
  exact lv_ineg hF.1 hF.2.1 hd (kk G p l e s m args below meth c H locs A lsA hF hC hL hFr)
theorem e_i2l {x : Int32} (hd : decode M.2.1 pc = .ok (.i2l, 1)) (kk : Ev X M (pc + 1) ls (.long (x.toInt64) :: st) σ) : Ev X M pc ls (.int x :: st) σ := by
  intro G p l e s m args below meth c H locs A lsA hF hC hL hFr
  exact lv_i2l hF.1 hF.2.1 hd rfl (kk G p l e s m args below meth c H locs A lsA hF hC hL hFr)
theorem e_l2i {x : Int64} (hd : decode M.2.1 pc = .ok (.l2i, 1)) (kk : Ev X M (pc + 1) ls (.int (x.toInt32) :: st) σ) : Ev X M pc ls (.long x :: st) σ := by
  intro G p l e s m args below meth c H locs A lsA hF hC hL hFr
  exact lv_l2i hF.1 hF.2.1 hd rfl (kk G p l e s m args below meth c H locs A lsA hF hC hL hFr)
theorem e_i2c {x : Int32} (hd : decode M.2.1 pc = .ok (.i2c, 1)) (kk : Ev X M (pc + 1) ls (.int ((x.toUInt32 % 65536).toInt32) :: st) σ) : Ev X M pc ls (.int x :: st) σ := by
  intro G p l e s m args below meth c H locs A lsA hF hC hL hFr
  exact lv_i2c hF.1 hF.2.1 hd rfl (kk G p l e s m args below meth c H locs A lsA hF hC hL hFr)
theorem e_i2b {x : Int32} (hd : decode M.2.1 pc = .ok (.i2b, 1)) (kk : Ev X M (pc + 1) ls (.int (x.toInt8.toInt32) :: st) σ) : Ev X M pc ls (.int x :: st) σ := by
  intro G p l e s m args below meth c H locs A lsA hF hC hL hFr
  exact lv_i2b hF.1 hF.2.1 hd rfl (kk G p l e s m args below meth c H locs A lsA hF hC hL hFr)
theorem e_dup {v : Value} (hd : decode M.2.1 pc = .ok (.dup, 1)) (hv : v.category = 1) (kk : Ev X M (pc + 1) ls (v :: v :: st) σ) : Ev X M pc ls (v :: st) σ := by
  intro G p l e s m args below meth c H locs A lsA hF hC hL hFr
  exact lv_dup hF.1 hF.2.1 hd ((conc_cat G v).trans hv) (kk G p l e s m args below meth c H locs A lsA hF hC hL hFr)
theorem e_dup2 {v w : Value} (hd : decode M.2.1 pc = .ok (.dup2, 1)) (hv : v.category = 1) (hw : w.category = 1) (kk : Ev X M (pc + 1) ls (v :: w :: v :: w :: st) σ) : Ev X M pc ls (v :: w :: st) σ := by
  intro G p l e s m args below meth c H locs A lsA hF hC hL hFr
  exact lv_dup2_11 hF.1 hF.2.1 hd ((conc_cat G v).trans hv) ((conc_cat G w).trans hw) (kk G p l e s m args below meth c H locs A lsA hF hC hL hFr)
theorem e_pop {v : Value} (hd : decode M.2.1 pc = .ok (.pop, 1)) (hv : v.category = 1) (kk : Ev X M (pc + 1) ls st σ) : Ev X M pc ls (v :: st) σ := by
  intro G p l e s m args below meth c H locs A lsA hF hC hL hFr
  exact lv_pop hF.1 hF.2.1 hd ((conc_cat G v).trans hv) (kk G p l e s m args below meth c H locs A lsA hF hC hL hFr)
theorem e_goto {off : Int} {tgt : Nat} (hd : decode M.2.1 pc = .ok (.goto off, 3)) (ht : (pc : Int) + off = (tgt : Int)) (kk : Ev X M tgt ls st σ) : Ev X M pc ls st σ := by
  intro G p l e s m args below meth c H locs A lsA hF hC hL hFr
  exact lv_goto hF.1 hF.2.1 hd ht (kk G p l e s m args below meth c H locs A lsA hF hC hL hFr)
theorem e_icmp_eq {x y : Int32} {off : Int} {tgt : Nat} (hd : decode M.2.1 pc = .ok (.if_icmp .eq off, 3)) (ht : (pc : Int) + off = (tgt : Int)) (kt : x = y → Ev X M tgt ls st σ) (kf : ¬ x = y → Ev X M (pc + 3) ls st σ) : Ev X M pc ls (.int y :: .int x :: st) σ := by
  intro G p l e s m args below meth c H locs A lsA hF hC hL hFr
  exact lv_icmp_eq hF.1 hF.2.1 hd ht (fun z => kt z G p l e s m args below meth c H locs A lsA hF hC hL hFr) (fun z => kf z G p l e s m args below meth c H locs A lsA hF hC hL hFr)
theorem e_icmp_ne {x y : Int32} {off : Int} {tgt : Nat} (hd : decode M.2.1 pc = .ok (.if_icmp .ne off, 3)) (ht : (pc : Int) + off = (tgt : Int)) (kt : x ≠ y → Ev X M tgt ls st σ) (kf : x = y → Ev X M (pc + 3) ls st σ) : Ev X M pc ls (.int y :: .int x :: st) σ := by
  intro G p l e s m args below meth c H locs A lsA hF hC hL hFr
  exact lv_icmp_ne hF.1 hF.2.1 hd ht (fun z => kt z G p l e s m args below meth c H locs A lsA hF hC hL hFr) (fun z => kf z G p l e s m args below meth c H locs A lsA hF hC hL hFr)
theorem e_icmp_lt {x y : Int32} {off : Int} {tgt : Nat} (hd : decode M.2.1 pc = .ok (.if_icmp .lt off, 3)) (ht : (pc : Int) + off = (tgt : Int)) (kt : x < y → Ev X M tgt ls st σ) (kf : ¬ x < y → Ev X M (pc + 3) ls st σ) : Ev X M pc ls (.int y :: .int x :: st) σ := by
  intro G p l e s m args below meth c H locs A lsA hF hC hL hFr
  exact lv_icmp_lt hF.1 hF.2.1 hd ht (fun z => kt z G p l e s m args below meth c H locs A lsA hF hC hL hFr) (fun z => kf z G p l e s m args below meth c H locs A lsA hF hC hL hFr)
theorem e_icmp_ge {x y : Int32} {off : Int} {tgt : Nat} (hd : decode M.2.1 pc = .ok (.if_icmp .ge off, 3)) (ht : (pc : Int) + off = (tgt : Int)) (kt : y ≤ x → Ev X M tgt ls st σ) (kf : ¬ y ≤ x → Ev X M (pc + 3) ls st σ) : Ev X M pc ls (.int y :: .int x :: st) σ := by
  intro G p l e s m args below meth c H locs A lsA hF hC hL hFr
  exact lv_icmp_ge hF.1 hF.2.1 hd ht (fun z => kt z G p l e s m args below meth c H locs A lsA hF hC hL hFr) (fun z => kf z G p l e s m args below meth c H locs A lsA hF hC hL hFr)
theorem e_icmp_gt {x y : Int32} {off : Int} {tgt : Nat} (hd : decode M.2.1 pc = .ok (.if_icmp .gt off, 3)) (ht : (pc : Int) + off = (tgt : Int)) (kt : y < x → Ev X M tgt ls st σ) (kf : ¬ y < x → Ev X M (pc + 3) ls st σ) : Ev X M pc ls (.int y :: .int x :: st) σ := by
  intro G p l e s m args below meth c H locs A lsA hF hC hL hFr
  exact lv_icmp_gt hF.1 hF.2.1 hd ht (fun z => kt z G p l e s m args below meth c H locs A lsA hF hC hL hFr) (fun z => kf z G p l e s m args below meth c H locs A lsA hF hC hL hFr)
theorem e_icmp_le {x y : Int32} {off : Int} {tgt : Nat} (hd : decode M.2.1 pc = .ok (.if_icmp .le off, 3)) (ht : (pc : Int) + off = (tgt : Int)) (kt : x ≤ y → Ev X M tgt ls st σ) (kf : ¬ x ≤ y → Ev X M (pc + 3) ls st σ) : Ev X M pc ls (.int y :: .int x :: st) σ := by
  intro G p l e s m args below meth c H locs A lsA hF hC hL hFr
  exact lv_icmp_le hF.1 hF.2.1 hd ht (fun z => kt z G p l e s m args below meth c H locs A lsA hF hC hL hFr) (fun z => kf z G p l e s m args below meth c H locs A lsA hF hC hL hFr)
theorem e_if_eq {x : Int32} {off : Int} {tgt : Nat} (hd : decode M.2.1 pc = .ok (.ifCond .eq off, 3)) (ht : (pc : Int) + off = (tgt : Int)) (kt : x = 0 → Ev X M tgt ls st σ) (kf : ¬ x = 0 → Ev X M (pc + 3) ls st σ) : Ev X M pc ls (.int x :: st) σ := by
  intro G p l e s m args below meth c H locs A lsA hF hC hL hFr
  exact lv_if_eq hF.1 hF.2.1 hd ht (fun z => kt z G p l e s m args below meth c H locs A lsA hF hC hL hFr) (fun z => kf z G p l e s m args below meth c H locs A lsA hF hC hL hFr)
theorem e_if_ne {x : Int32} {off : Int} {tgt : Nat} (hd : decode M.2.1 pc = .ok (.ifCond .ne off, 3)) (ht : (pc : Int) + off = (tgt : Int)) (kt : x ≠ 0 → Ev X M tgt ls st σ) (kf : x = 0 → Ev X M (pc + 3) ls st σ) : Ev X M pc ls (.int x :: st) σ := by
  intro G p l e s m args below meth c H locs A lsA hF hC hL hFr
  exact lv_if_ne hF.1 hF.2.1 hd ht (fun z => kt z G p l e s m args below meth c H locs A lsA hF hC hL hFr) (fun z => kf z G p l e s m args below meth c H locs A lsA hF hC hL hFr)
theorem e_if_lt {x : Int32} {off : Int} {tgt : Nat} (hd : decode M.2.1 pc = .ok (.ifCond .lt off, 3)) (ht : (pc : Int) + off = (tgt : Int)) (kt : x < 0 → Ev X M tgt ls st σ) (kf : ¬ x < 0 → Ev X M (pc + 3) ls st σ) : Ev X M pc ls (.int x :: st) σ := by
  intro G p l e s m args below meth c H locs A lsA hF hC hL hFr
  exact lv_if_lt hF.1 hF.2.1 hd ht (fun z => kt z G p l e s m args below meth c H locs A lsA hF hC hL hFr) (fun z => kf z G p l e s m args below meth c H locs A lsA hF hC hL hFr)
theorem e_if_ge {x : Int32} {off : Int} {tgt : Nat} (hd : decode M.2.1 pc = .ok (.ifCond .ge off, 3)) (ht : (pc : Int) + off = (tgt : Int)) (kt : 0 ≤ x → Ev X M tgt ls st σ) (kf : ¬ 0 ≤ x → Ev X M (pc + 3) ls st σ) : Ev X M pc ls (.int x :: st) σ := by
  intro G p l e s m args below meth c H locs A lsA hF hC hL hFr
  exact lv_if_ge hF.1 hF.2.1 hd ht (fun z => kt z G p l e s m args below meth c H locs A lsA hF hC hL hFr) (fun z => kf z G p l e s m args below meth c H locs A lsA hF hC hL hFr)
theorem e_if_gt {x : Int32} {off : Int} {tgt : Nat} (hd : decode M.2.1 pc = .ok (.ifCond .gt off, 3)) (ht : (pc : Int) + off = (tgt : Int)) (kt : 0 < x → Ev X M tgt ls st σ) (kf : ¬ 0 < x → Ev X M (pc + 3) ls st σ) : Ev X M pc ls (.int x :: st) σ := by
  intro G p l e s m args below meth c H locs A lsA hF hC hL hFr
  exact lv_if_gt hF.1 hF.2.1 hd ht (fun z => kt z G p l e s m args below meth c H locs A lsA hF hC hL hFr) (fun z => kf z G p l e s m args below meth c H locs A lsA hF hC hL hFr)
theorem e_if_le {x : Int32} {off : Int} {tgt : Nat} (hd : decode M.2.1 pc = .ok (.ifCond .le off, 3)) (ht : (pc : Int) + off = (tgt : Int)) (kt : x ≤ 0 → Ev X M tgt ls st σ) (kf : ¬ x ≤ 0 → Ev X M (pc + 3) ls st σ) : Ev X M pc ls (.int x :: st) σ := by
  intro G p l e s m args below meth c H locs A lsA hF hC hL hFr
  exact lv_if_le hF.1 hF.2.1 hd ht (fun z => kt z G p l e s m args below meth c H locs A lsA hF hC hL hFr) (fun z => kf z G p l e s m args below meth c H locs A lsA hF hC hL hFr)
theorem e_tableIn {dflt lo hi : Int} {offs : Array Int} {len : Nat} {x : Int32} {off : Int} {tgt : Nat} (hd : decode M.2.1 pc = .ok (.tableswitch dflt lo hi offs, len)) (h1 : ¬ x.toInt < lo) (h2 : ¬ hi < x.toInt) (ho : offs[(x.toInt - lo).toNat]? = some off) (ht : (pc : Int) + off = (tgt : Int)) (kk : Ev X M tgt ls st σ) : Ev X M pc ls (.int x :: st) σ := by
  intro G p l e s m args below meth c H locs A lsA hF hC hL hFr
  exact lv_tableIn hF.1 hF.2.1 hd h1 h2 ho ht (kk G p l e s m args below meth c H locs A lsA hF hC hL hFr)
theorem e_tableOut {dflt lo hi : Int} {offs : Array Int} {len : Nat} {x : Int32} {tgt : Nat} (hd : decode M.2.1 pc = .ok (.tableswitch dflt lo hi offs, len)) (h : x.toInt < lo ∨ hi < x.toInt) (ht : (pc : Int) + dflt = (tgt : Int)) (kk : Ev X M tgt ls st σ) : Ev X M pc ls (.int x :: st) σ := by
  intro G p l e s m args below meth c H locs A lsA hF hC hL hFr
  exact lv_tableOut hF.1 hF.2.1 hd h ht (kk G p l e s m args below meth c H locs A lsA hF hC hL hFr)
theorem e_lookup {dflt : Int} {ps : Array (Int × Int)} {len : Nat} {x : Int32} {off : Int} {tgt : Nat} (hd : decode M.2.1 pc = .ok (.lookupswitch dflt ps, len)) (hp : (ps.toList.zip (ps.toList.drop 1)).all (fun (a, next) => a.1 < next.1) = true) (ho : Op.lookupswitch.offset ps.toList dflt x.toInt = off) (ht : (pc : Int) + off = (tgt : Int)) (kk : Ev X M tgt ls st σ) : Ev X M pc ls (.int x :: st) σ := by
  intro G p l e s m args below meth c H locs A lsA hF hC hL hFr
  exact lv_lookup hF.1 hF.2.1 hd hp ho ht (kk G p l e s m args below meth c H locs A lsA hF hC hL hFr)
/-- forget: of the locals only those where the mask says true are known on -/
def killM (mask : List Bool) (ls : List (Option Value)) : List (Option Value) := List.zipWith (fun b v => if b = true then v else none) mask ls
theorem e_kill (mask : List Bool) (kk : Ev X M pc (killM mask ls) st σ) : Ev X M pc ls st σ := by
  intro G p l e s m args below meth c H locs A lsA hF hC hL hFr
  refine kk G p l e s m args below meth c H locs A lsA hF hC ⟨hL.1, hL.2.1, fun k v h => hL.2.2 k v ?_⟩ hFr
  rw [killM, List.getElem?_zipWith] at h
  cases hm : mask[k]? with
  | none => rw [hm] at h; cases h
  | some b =>
    cases hs : ls[k]? with
    | none => rw [hm, hs] at h; cases h
    | some w =>
      rw [hm, hs] at h
      cases b
      · simp at h
      · simpa using h
theorem e_iret {x : Int32} (hd : decode M.2.1 pc = .ok (.ireturn, 1)) (hr : M.2.2.2 = some .int) (h : X.Q (some (.int x)) σ) : Ev X M pc ls [.int x] σ := by
  intro G p l e s m args below meth c H locs A lsA hF hC hL hFr
  exact W.iret hF.1 hF.2.1 (hF.2.2.2.1.trans hr) (fun t ht _ => ⟨⟨some (.int x), σ, rfl, h, hFr, by rw [ht]; exact hC.2.1⟩, hC.2.2.2.1.F ht⟩) hC.2.2.2.1.2.2 hd hF.2.2.2.2.1
theorem e_zret {x : Int32} {ty : FieldType} (hd : decode M.2.1 pc = .ok (.ireturn, 1)) (hr : M.2.2.2 = some ty) (hn : narrow ty (.int x) = .int x) (h : X.Q (some (.int x)) σ) : Ev X M pc ls [.int x] σ := by
  intro G p l e s m args below meth c H locs A lsA hF hC hL hFr
  exact W.zret hF.1 hF.2.1 (hF.2.2.2.1.trans hr) hn (fun t ht _ => ⟨⟨some (.int x), σ, rfl, h, hFr, by rw [ht]; exact hC.2.1⟩, hC.2.2.2.1.F ht⟩) hC.2.2.2.1.2.2 hd hF.2.2.2.2.1
theorem e_lret {x : Int64} (hd : decode M.2.1 pc = .ok (.lreturn, 1)) (hr : M.2.2.2 = some .long) (h : X.Q (some (.long x)) σ) : Ev X M pc ls [.long x] σ := by
  intro G p l e s m args below meth c H locs A lsA hF hC hL hFr
  exact W.lret hF.1 hF.2.1 (hF.2.2.2.1.trans hr) (fun t ht _ => ⟨⟨some (.long x), σ, rfl, h, hFr, by rw [ht]; exact hC.2.1⟩, hC.2.2.2.1.F ht⟩) hC.2.2.2.1.2.2 hd hF.2.2.2.2.1
theorem e_vret (hd : decode M.2.1 pc = .ok (.return_, 1)) (hr : M.2.2.2 = none) (h : X.Q none σ) : Ev X M pc ls [] σ := by
  intro G p l e s m args below meth c H locs A lsA hF hC hL hFr
  exact W.vret hF.1 hF.2.1 (hF.2.2.2.1.trans hr) (fun t ht _ => ⟨⟨none, σ, rfl, h, hFr, by rw [ht]; exact hC.2.1⟩, hC.2.2.2.1.F ht⟩) hC.2.2.2.1.2.2 hd hF.2.2.2.2.1
theorem e_aret {x : Nat} {n : String} (hd : decode M.2.1 pc = .ok (.areturn, 1)) (hr : M.2.2.2 = some (.object n)) (h : X.Q (some (.ref x)) σ) : Ev X M pc ls [.ref x] σ := by
  intro G p l e s m args below meth c H locs A lsA hF hC hL hFr
  exact W.aret hF.1 hF.2.1 (hF.2.2.2.1.trans hr) (Or.inl ⟨n, rfl⟩) (Or.inr ⟨_, rfl⟩) (fun t ht _ => ⟨⟨some (.ref x), σ, rfl, h, hFr, by rw [ht]; exact hC.2.1⟩, hC.2.2.2.1.F ht⟩) hC.2.2.2.1.2.2 hd hF.2.2.2.2.1
end Rules
