/-! ===== an array of arrays is made ===== -/
theorem mna_cold {Q : Unit → Pre} {E : CtlPost} {e : Env} {d : Bool} {acts : List Action} {s : State} {f : JFrame} {index dims c : Nat} {vm' : Vm} (hs : s.topJava?.isSome) (hg : (Jvm.resolveClass f.method.cls index).Gives e.toSetting s.vm (.ok c) vm') (hr : vm'.classReady f.method.cls index c)
    (hsz : vm'.classes.size ≤ s.vm.classes.size := by no_record) :
    wp (multianewarray.sem index dims) Q E e d acts (s.setTop f) ↔ wp (multianewarray.sem index dims) Q E e d acts ((s.setVm vm').setTop f) := by
  simp only [multianewarray.sem, wp_bind']
  exact Jvm.W.resolveClassAt_transfer (s := s.setTop f) (State.method?_setTop f hs) hg hr
theorem mna_newArray {Q : Addr → Pre} {E : CtlPost} {e : Env} {d : Bool} {acts : List Action} {s : State} {c comp : ClassId} {n : Nat} {init : Value} {k : Class} {type : FieldType} (hk : s.vm.classes[c]? = some k) (hkind : k.kind = .array comp type) (hlimit : ¬ n > e.platform.arrayLengthLimit) (hheap : ¬ n * componentBytes type > e.platform.maxHeapBytes) (hfit : fits type init = true) (hcells : s.heap.size < e.platform.maxCells) (hslots : s.slotsUsed + n ≤ e.platform.maxSlots)
    (h : Q s.heap.size d (allocActs (Array.replicate n init) s.heap.size acts) (s.pushCell { cls := c, slots := Array.replicate n init, vm := .none })) :
    wp (Jvm.newArray c n init) Q E e d acts s := by
  have hf : ∀ i v, (Array.replicate n init)[i]? = some v → s.fitsSlot c .none i v = true := by
    intro i v hv
    simp only [Array.getElem?_replicate] at hv
    split at hv
    · cases hv; simp [State.fitsSlot, State.slotType?, hk, hkind, hfit]
    · cases hv
  simp only [Jvm.newArray, Jvm.arrayFits, wp_bind', Jvm.W.ask, hlimit, Jvm.W.ite, if_false, wp_pure', Jvm.W.theClass, hk, hkind, hheap, Jvm.W.alloc, Jvm.W.stop]
  refine ⟨k, rfl, ?_⟩
  rw [hkind]
  simp only [wp_bind', Jvm.W.ask, hheap, Jvm.W.ite, if_false, wp_pure', Jvm.W.stop, Jvm.W.alloc]
  rw [if_neg (by omega)]
  exact ⟨hcells, by rw [Array.size_replicate]; exact hslots, hf, h⟩
theorem mna_row {Q : Addr → Pre} {E : CtlPost} {e : Env} {d : Bool} {acts : List Action} {s : State} {c comp : ClassId} {k : Class} (hk : s.vm.classes[c]? = some k) (hkind : k.kind = .array comp .int) (hlimit : ¬ 10 > e.platform.arrayLengthLimit) (hheap : ¬ 10 * componentBytes .int > e.platform.maxHeapBytes) (hcells : s.heap.size < e.platform.maxCells) (hslots : s.slotsUsed + 10 ≤ e.platform.maxSlots)
    (h : ∀ acts', Q s.heap.size d acts' (s.pushCell { cls := c, slots := Array.replicate 10 (.int 0), vm := .none })) :
    wp (multianewarray.make c [10]) Q E e d acts s := by
  rw [multianewarray.make]
  rw [if_neg (by decide)]
  simp only [wp_bind', Jvm.W.theClass, hk]
  refine ⟨k, rfl, ?_⟩
  rw [hkind]
  exact mna_newArray (n := 10) (init := .int 0) hk hkind hlimit hheap rfl hcells hslots (h _)
theorem steps_any {tb : Tables} [Ours tb] {e : Env} {below : List Frame} {s : State} {f : JFrame} {c : Code} (h : At s f.method c below) {i : Instr} {len : Nat} (hd : decode c.code f.pc = .ok (i, len)) {Qs : State → Prop} {Q : State → Prop} (hw : wpRun (tb.exec i) (fun _ s₁ _ => Qs s₁) (fun _ _ _ => False) e (s.setTop f)) (k : ∀ s₁, Qs s₁ → ∃ t, (∀ acts, Steps tb e below (afterInstr e len (.ok () s₁ acts)).1 t) ∧ Q t) : ∃ t, Steps tb e below (s.setTop f) t ∧ Q t := by
  have hw2 := (wpRun_iff_run _ _ _ _ _).mp hw
  cases hr : (tb.exec i).run e (s.setTop f) with
  | ok a s₁ acts =>
    rw [hr] at hw2
    obtain ⟨t, h1, h2⟩ := k s₁ hw2
    refine ⟨t, Steps.instr (c := c) h ?_, h2⟩
    rw [hd]
    refine (wpRun_iff_run _ _ _ _ _).mpr ?_
    rw [hr]
    exact fun acts' => h1 acts'
  | ctl x s₁ acts =>
    rw [hr] at hw2
    cases x <;> exact hw2.elim
/-- what the tables say of int[][] -/
def AG (U : State) : Prop := ∃ (comp cA : ClassId) (kA : Class), U.vm.findClass "[I" = some comp ∧ U.vm.classes[cA]? = some kA ∧ kA.kind = .array comp (.array .int) ∧ U.vm.findClass "[[I" = some cA
theorem AG.of {args : Array Value} {s : State} (h : (Cond.arrayOver (.array .int)).before args s = true) : AG s := by
  obtain ⟨comp, cA, kA, h1, h2, h3, h4, h5⟩ := arrayOverA_spec h
  exact ⟨comp, cA, kA, h1, h3, h4, h5⟩
theorem AG.moved {u U : State} (hvm : u.vm.Alike U.vm) (h : AG u) : AG U := by
  obtain ⟨comp, cA, kA, h1, h2, h3, h4⟩ := h
  obtain ⟨kA₁, hkA₁, heA⟩ := hvm.2.2 _ _ h2
  exact ⟨comp, cA, kA₁, by rw [hvm.findClass]; exact h1, hkA₁, by rw [heA]; exact h3, by rw [hvm.findClass]; exact h4⟩
section MnaLoop
variable {p : Program} {l : Launch} {e : Env} {R : Room} {s : State} {m : MethodId} {args : Array Value} {below : List Frame} {meth : Method} {c : Code}
theorem mna_loop {Q : PUnit → Pre} {E : CtlPost} {g : JFrame} {h cA comp comp2 : Nat} {kA kC : Class} (hkA : s.vm.classes[cA]? = some kA) (hkindA : kA.kind = .array comp (.array .int)) (hkC : s.vm.classes[comp]? = some kC) (hkindC : kC.kind = .array comp2 .int) : ∀ (n a : Nat) (T : State) (f : Nat → Value) (locs : List Loc) (cells slots : Nat) (d : Bool) (acts : List Action), Stand p l e R s m args below meth c T locs cells slots → T.heap[h]? = some (arrV cA 8 f) → a + n ≤ 8 → cells + n ≤ R.cells → slots + 10 * n ≤ R.slots →
    (∀ (T' : State) (locs' : List Loc) (d' : Bool) (acts' : List Action), Stand p l e R s m args below meth c T' locs' (cells + n) (slots + 10 * n) → T'.heap.size = T.heap.size + n → T'.heap[h]? = some (arrV cA 8 (fun j => if a ≤ j ∧ j < a + n then .ref (T.heap.size + (j - a)) else f j)) → (∀ q, q < T.heap.size → q ≠ h → T'.heap[q]? = T.heap[q]?) → (∀ j, j < n → T'.heap[T.heap.size + j]? = some (arrV comp 10 (fun _ => .int 0))) → (∀ q ∈ locs', q ∈ locs ∨ q.base = h) → Q PUnit.unit d' acts' (T'.setTop g)) →
    wp (forIn (List.range' a n) PUnit.unit (fun i _ => do
        let x ← multianewarray.make comp [10]
        writeLoc h i (.ref x)
        Pure.pure (ForInStep.yield PUnit.unit)) : Sem PUnit) Q E e d acts (T.setTop g)
  | 0, a, T, f, locs, cells, slots, d, acts, X, hh, ha, hc, hs, k => by
    rw [show List.range' a 0 = [] from rfl, List.forIn_nil]
    refine k T locs d acts X rfl ?_ (fun _ _ _ => rfl) (fun j hj => absurd hj (Nat.not_lt_zero _)) (fun q hq => Or.inl hq)
    rw [hh]
    congr 2
    funext j
    rw [if_neg (by omega)]
  | n + 1, a, T, f, locs, cells, slots, d, acts, X, hh, ha, hc, hs, k => by
    rw [show List.range' a (n + 1) = a :: List.range' (a + 1) n from rfl, List.forIn_cons]
    have hal : s.vm.Alike T.vm := X.warmed.alike
    obtain ⟨kC₁, hkC₁, heC⟩ := hal.2.2 _ _ hkC
    obtain ⟨kA₁, hkA₁, heA⟩ := hal.2.2 _ _ hkA
    have hkindC₁ : kC₁.kind = .array comp2 .int := by rw [heC]; exact hkindC
    have hkindA₁ : kA₁.kind = .array comp (.array .int) := by rw [heA]; exact hkindA
    obtain ⟨hr1, hr2⟩ := X.roomAbove (a := 1) (b := 10) (by omega) (by omega)
    have hlt : h < T.heap.size := (Array.getElem?_eq_some_iff.mp hh).1
    simp only [wp_bind']
    refine mna_row (s := T.setTop g) (k := kC₁) (comp := comp2) hkC₁ hkindC₁ (by rw [Launch.admits_arrayLengthLimit X.admits]; decide) (by rw [Launch.admits_maxHeapBytes X.admits]; decide) (by show T.heap.size < _; omega) hr2 (fun acts' => ?_)
    have X1 := X.pushed { cls := comp, slots := Array.replicate 10 (.int 0), vm := .none }
    rw [Array.size_replicate] at X1
    generalize hT1 : T.pushCell { cls := comp, slots := Array.replicate 10 (.int 0), vm := .none } = T1 at X1
    have e1 : T1.heap = T.heap.push { cls := comp, slots := Array.replicate 10 (.int 0), vm := .none } := by rw [← hT1]; rfl
    have z1 : T1.heap.size = T.heap.size + 1 := by rw [e1, Array.size_push]
    have o1 : ∀ q, q < T.heap.size → T1.heap[q]? = T.heap[q]? := fun q hq => by rw [e1, Array.getElem?_push, if_neg (Nat.ne_of_lt hq)]
    have n1 : T1.heap[T.heap.size]? = some (arrV comp 10 (fun _ => .int 0)) := by rw [e1, Array.getElem?_push_size, ← arrV_new]
    have hh1 : T1.heap[h]? = some (arrV cA 8 f) := by rw [o1 h hlt]; exact hh
    have X2 := X1.stored hh1 a (.ref T.heap.size)
    rw [arrV_store] at X2
    rw [wp_bind']
    show wp (writeLoc h a (.ref T.heap.size)) _ E e d acts' ((T.pushCell _).setTop g)
    rw [hT1]
    have hvm : T1.vm = T.vm := by rw [← hT1]; rfl
    show wp (.write ⟨h, a⟩ .plain (.ref T.heap.size) (.pure ())) _ E e d acts' (T1.setTop g)
    rw [wp_write]
    refine ⟨arrV cA 8 f, hh1, (fun z => by cases z), by rw [arrV_size]; show a < 8; omega, ?_, ?_⟩
    · show (T1.setTop g).fitsSlot cA .none a (.ref T.heap.size) = true
      simp [State.fitsSlot, State.slotType?, hvm, hkA₁, hkindA₁, fits]
    · rw [wp_pure, wp_pure', arrV_store]
      show wp (forIn (List.range' (a + 1) n) PUnit.unit _) Q E e true _ ((T1.setCell h (arrV cA 8 (updV f a (.ref T.heap.size)))).setTop g)
      have z2 : (T1.setCell h (arrV cA 8 (updV f a (.ref T.heap.size)))).heap.size = T.heap.size + 1 := by rw [size_setCell, z1]
      have s2 : (T1.setCell h (arrV cA 8 (updV f a (.ref T.heap.size)))).heap[h]? = some (arrV cA 8 (updV f a (.ref T.heap.size))) := heapAt_setCell_self _ (by rw [z1]; exact Nat.lt_succ_of_lt hlt)
      have o2 : ∀ q, q ≠ h → (T1.setCell h (arrV cA 8 (updV f a (.ref T.heap.size)))).heap[q]? = T1.heap[q]? := fun q hq => heapAt_setCell_ne _ (Ne.symm hq)
      refine mna_loop hkA hkindA hkC hkindC n (a + 1) _ (updV f a (.ref T.heap.size)) _ (cells + 1) (slots + 10) true _ X2 s2 (by omega) (by omega) (by omega) (fun T' locs' d' acts'' X' w1 w2 w3 w4 w5 => ?_)
      rw [z2] at w1 w2 w3 w4
      have hlt' : h < Array.size T.heap := hlt
      refine k T' locs' d' acts'' (by rw [show cells + (n + 1) = cells + 1 + n by omega, show slots + 10 * (n + 1) = slots + 10 + 10 * n by omega]; exact X') (by omega) ?_ (fun q hq hne => ?_) (fun j hj => ?_) (fun q hq => ?_)
      · rw [w2]
        congr 2
        funext j
        unfold updV
        by_cases ej : j = a
        · rw [if_neg (by omega), if_pos ej, if_pos (by omega), ej, Nat.sub_self, Nat.add_zero]
        · by_cases hj : a + 1 ≤ j ∧ j < a + 1 + n
          · rw [if_pos hj, if_pos (by omega), show T.heap.size + 1 + (j - (a + 1)) = T.heap.size + (j - a) by omega]
          · rw [if_neg hj, if_neg ej, if_neg (by omega)]
      · rw [w3 q (Nat.lt_succ_of_lt hq) hne, o2 q hne]; exact o1 q hq
      · by_cases ej : j = 0
        · subst ej
          rw [Nat.add_zero, w3 _ (Nat.lt_succ_self _) (Nat.ne_of_gt hlt'), o2 _ (Nat.ne_of_gt hlt')]; exact n1
        · have := w4 (j - 1) (by omega)
          rw [show T.heap.size + 1 + (j - 1) = T.heap.size + j by omega] at this
          exact this
      · rcases w5 q hq with z | z
        · rcases List.mem_append.mp z with y | y
          · exact Or.inl y
          · rw [List.mem_singleton] at y
            rw [y]; exact Or.inr rfl
        · exact Or.inr z
variable {H : Heap} {locs : List Loc} {cells slots : Nat} {Q : State → Prop}
theorem W_mna {cc : ByteArray} (hexec : p.tables.exec = Jvm.exec) (hb : c.code = cc) {own : String} {index : Nat} (hown : s.vm.findClass own = some m.cls) (hclink : (Cond.classLink own index "[[I").before args s = true) (hover : AG s) (harr : (Cond.arrayClass .int).before args s = true)
    {g : JFrame} (hg : g.method = m) (hdg : decode cc g.pc = .ok (.multianewarray index 2, 4)) {rest : List Value} (hstack : g.stack = .int 10 :: .int 8 :: rest) (hcells : cells + 9 ≤ R.cells) (hslots : slots + 88 ≤ R.slots)
    (kk : ∀ (H' : Heap) (locs' : List Loc) (cA cI : ClassId), s.vm.findClass "[[I" = some cA → ArrOfT s cA (.array .int) → s.vm.findClass "[I" = some cI → ArrOfT s cI .int → H'.size = H.size + 9 → H'[H.size]? = some (arrV cA 8 (fun j => .ref (H.size + 1 + j))) → (∀ q, q < H.size → H'[q]? = H[q]?) → (∀ j, j < 8 → H'[H.size + 1 + j]? = some (arrV cI 10 (fun _ => .int 0))) → (∀ q ∈ locs', q ∈ locs ∨ q.base = H.size) → W p l e R s m args below meth c H' locs' (cells + 9) (slots + 88) Q { g with pc := g.pc + 4, stack := .ref H.size :: rest }) : W p l e R s m args below meth c H locs cells slots Q g := by
  intro T hT X
  subst hT; subst hb; subst hg
  have hpl : e.platform.magicAccessors = ({} : Platform).magicAccessors := by rw [X.admits.platform]
  obtain ⟨comp, cA, kA, hcomp, hkA, hkindA, hnameA⟩ := hover
  obtain ⟨cI, kI, comp2, hnameI, hkI, hkindI⟩ := Cond.arrayClass_spec harr
  have hnI : s.vm.findClass "[I" = some cI := hnameI
  have hnC : s.vm.findClass "[I" = some comp := hcomp
  have ecI : comp = cI := by rw [hnC] at hnI; exact Option.some.inj hnI
  subst ecI
  have hnA : s.vm.findClass "[[I" = some cA := hnameA
  obtain ⟨cc', hfcc, hcl⟩ := Cond.classLink_spec hown hclink e.platform hpl
  cases hnA.symm.trans hfcc
  obtain ⟨hg₁, hwarm₁, hready₁⟩ := State.classEntry (e := e) X.warmed hcl
  generalize T.vm.noted g.method.cls index (.cls cA) = vm₁ at hg₁ hwarm₁ hready₁
  have hal : s.vm.Alike vm₁ := hwarm₁.alike
  obtain ⟨kA₁, hkA₁, heA⟩ := hal.2.2 _ _ hkA
  have hkindA₁ : kA₁.kind = .array comp (.array .int) := by rw [heA]; exact hkindA
  have X₁ := X.noted hwarm₁
  have X₂ := X₁.pushed { cls := cA, slots := Array.replicate 8 .null, vm := .none }
  rw [Array.size_replicate] at X₂
  obtain ⟨hr1, hr2⟩ := X.roomAbove (a := 9) (b := 88) hcells hslots
  -- what is owed of the step
  have key : ∀ (Qs : Unit → Pre) (E : CtlPost), (∀ (T' : State) (locs' : List Loc) (d' : Bool) (acts' : List Action), Stand p l e R s g.method args below meth c T' locs' (cells + 9) (slots + 88) → T'.heap.size = T.heap.size + 9 → T'.heap[T.heap.size]? = some (arrV cA 8 (fun j => .ref (T.heap.size + 1 + j))) → (∀ q, q < T.heap.size → T'.heap[q]? = T.heap[q]?) → (∀ j, j < 8 → T'.heap[T.heap.size + 1 + j]? = some (arrV comp 10 (fun _ => .int 0))) → (∀ q ∈ locs', q ∈ locs ∨ q.base = T.heap.size) → Qs () d' acts' (T'.setTop { g with stack := .ref T.heap.size :: rest })) → wp (multianewarray.sem index 2) Qs E e false [] ((T.setVm vm₁).setTop g) := by
    intro Qs E hk
    simp only [multianewarray.sem, wp_bind', Jvm.W.resolveClassAt_ready (State.method?_setTop g (s := T.setVm vm₁) X.here.top) hready₁]
    simp [Jvm.popN, hstack, X.here.top]
    rw [multianewarray.make, if_neg (by decide)]
    simp only [wp_bind', Jvm.W.theClass]
    refine ⟨kA₁, hkA₁, ?_⟩
    rw [hkindA₁, show (8 : Int32).toNatClampNeg = 8 by decide]
    dsimp only
    rw [wp_bind']
    refine mna_newArray (s := (T.setVm vm₁).setTop { g with stack := rest }) (k := kA₁) (comp := comp) (n := 8) (init := .null) hkA₁ hkindA₁ (by rw [Launch.admits_arrayLengthLimit X.admits]; decide) (by rw [Launch.admits_maxHeapBytes X.admits]; decide) rfl (by show T.heap.size < _; omega) (by show T.slotsUsed + 8 ≤ _; omega) ?_
    rw [if_neg (by decide), wp_bind', Std.Legacy.Range.forIn_eq_forIn_range']
    show wp (forIn (List.range' 0 8) PUnit.unit (fun i _ => do
        let x ← multianewarray.make comp [10]
        writeLoc T.heap.size i (.ref x)
        Pure.pure (ForInStep.yield PUnit.unit)) : Sem PUnit) _ E e true _ (((T.setVm vm₁).pushCell { cls := cA, slots := Array.replicate 8 .null, vm := .none }).setTop { g with stack := rest })
    generalize hT1 : (T.setVm vm₁).pushCell { cls := cA, slots := Array.replicate 8 .null, vm := .none } = T1 at X₂
    have e1 : T1.heap = T.heap.push { cls := cA, slots := Array.replicate 8 .null, vm := .none } := by rw [← hT1]; rfl
    have z1 : T1.heap.size = T.heap.size + 1 := by rw [e1, Array.size_push]
    have o1 : ∀ q, q < T.heap.size → T1.heap[q]? = T.heap[q]? := fun q hq => by rw [e1, Array.getElem?_push, if_neg (Nat.ne_of_lt hq)]
    have n1 : T1.heap[T.heap.size]? = some (arrV cA 8 (fun _ => .null)) := by rw [e1, Array.getElem?_push_size, ← arrV_new]
    refine mna_loop hkA hkindA hkI hkindI 8 0 T1 (fun _ => .null) locs (cells + 1) (slots + 8) true _ X₂ n1 (by omega) (by omega) (by omega) (fun T' locs' d' acts' X' w1 w2 w3 w4 w5 => ?_)
    rw [z1] at w1 w2 w4
    rw [wp_pure']
    simp only [wp_bind', Jvm.W.mark, Jvm.W.pushRef, State.topJava?_setTop' _ X'.here.top, Option.some.injEq, exists_eq_left', State.setTop_setTop]
    rw [z1] at w3
    refine hk T' locs' true acts' X' w1 ?_ (fun q hq => ?_) (fun j hj => w4 j hj) w5
    · rw [w2]
      congr 1
    · rw [w3 q (Nat.lt_succ_of_lt hq) (Nat.ne_of_lt hq)]; exact o1 q hq
  refine steps_any (tb := p.tables) (c := c) (by simpa using X.here) hdg (Qs := fun S => ∃ (T' : State) (locs' : List Loc), Stand p l e R s g.method args below meth c T' locs' (cells + 9) (slots + 88) ∧ T'.heap.size = T.heap.size + 9 ∧ T'.heap[T.heap.size]? = some (arrV cA 8 (fun j => .ref (T.heap.size + 1 + j))) ∧ (∀ q, q < T.heap.size → T'.heap[q]? = T.heap[q]?) ∧ (∀ j, j < 8 → T'.heap[T.heap.size + 1 + j]? = some (arrV comp 10 (fun _ => .int 0))) ∧ (∀ q ∈ locs', q ∈ locs ∨ q.base = T.heap.size) ∧ S = T'.setTop { g with stack := .ref T.heap.size :: rest }) ?_ ?_
  · rw [hexec]
    show wp (multianewarray.sem index 2) _ _ e false [] (T.setTop g)
    rw [mna_cold (e := e) (s := T) (f := g) X.here.top hg₁ hready₁]
    exact key _ _ (fun T' locs' d' acts' X' w1 w2 w3 w4 w5 => ⟨T', locs', X', w1, w2, w3, w4, w5, rfl⟩)
  · rintro s₁ ⟨T', locs', X', w1, w2, w3, w4, w5, rfl⟩
    obtain ⟨t, h1, h2⟩ := kk T'.heap locs' cA comp hnA (fun N z => ⟨(fun k h => by cases h), kA, hkA, comp, hkindA⟩) hnC (fun N z => ⟨(fun k h => by cases h), kI, hkI, comp2, hkindI⟩) w1 w2 w3 w4 w5 T' rfl X'
    refine ⟨t, fun acts => ?_, h2⟩
    rw [afterInstr_ok]
    exact h1
end MnaLoop
