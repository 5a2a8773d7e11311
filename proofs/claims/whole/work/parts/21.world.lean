/-! ===== what the document speaks of, as mathematics: lessons, people, wishes ===== -/
abbrev Op : Type := Nat × Nat
abbrev Stm : Type := Nat × List Op × List Op
abbrev Wd : Type := Nat × Nat × Nat × Nat × Nat × (Nat → Nat) × (Nat → Nat) × (Nat → Nat) × (Nat → Nat) × (Nat → Nat) × (Nat → Nat) × (Nat → Nat) × (Nat → Nat) × (Nat → Nat) × (Nat → List Stm) × Bool × Nat × (Nat → Nat) × Int × Nat
abbrev Wd.N (w : Wd) : Nat := w.1
abbrev Wd.P (w : Wd) : Nat := w.2.1
abbrev Wd.A (w : Wd) : Nat := w.2.2.1
abbrev Wd.mo (w : Wd) : Nat := w.2.2.2.1
abbrev Wd.sp (w : Wd) : Nat := w.2.2.2.2.1
abbrev Wd.pl (w : Wd) : Nat → Nat := w.2.2.2.2.2.1
abbrev Wd.fr (w : Wd) : Nat → Nat := w.2.2.2.2.2.2.1
abbrev Wd.to (w : Wd) : Nat → Nat := w.2.2.2.2.2.2.2.1
abbrev Wd.a1 (w : Wd) : Nat → Nat := w.2.2.2.2.2.2.2.2.1
abbrev Wd.a2 (w : Wd) : Nat → Nat := w.2.2.2.2.2.2.2.2.2.1
abbrev Wd.pr (w : Wd) : Nat → Nat := w.2.2.2.2.2.2.2.2.2.2.1
abbrev Wd.pu (w : Wd) : Nat → Nat := w.2.2.2.2.2.2.2.2.2.2.2.1
abbrev Wd.dn (w : Wd) : Nat → Nat := w.2.2.2.2.2.2.2.2.2.2.2.2.1
abbrev Wd.hd (w : Wd) : Nat → Nat := w.2.2.2.2.2.2.2.2.2.2.2.2.2.1
abbrev Wd.ws (w : Wd) : Nat → List Stm := w.2.2.2.2.2.2.2.2.2.2.2.2.2.2.1
abbrev Wd.lie (w : Wd) : Bool := w.2.2.2.2.2.2.2.2.2.2.2.2.2.2.2.1
abbrev Wd.T (w : Wd) : Nat := w.2.2.2.2.2.2.2.2.2.2.2.2.2.2.2.2.1
abbrev Wd.tp (w : Wd) : Nat → Nat := w.2.2.2.2.2.2.2.2.2.2.2.2.2.2.2.2.2.1
abbrev Wd.fa (w : Wd) : Int := w.2.2.2.2.2.2.2.2.2.2.2.2.2.2.2.2.2.2.1
abbrev Wd.ver (w : Wd) : Nat := w.2.2.2.2.2.2.2.2.2.2.2.2.2.2.2.2.2.2.2
/-- hours, the least from, the greatest to, of the first l lessons that are in b -/
def hrsU (w : Wd) (b : Nat) : Nat → Nat
  | 0 => 0
  | l + 1 => hrsU w b l + if b.testBit l = true then w.to l - w.fr l else 0
def fstU (w : Wd) (b : Nat) : Nat → Nat
  | 0 => 40
  | l + 1 => if b.testBit l = true then min (fstU w b l) (w.fr l) else fstU w b l
def lstU (w : Wd) (b : Nat) : Nat → Nat
  | 0 => 0
  | l + 1 => if b.testBit l = true then max (lstU w b l) (w.to l) else lstU w b l
def hrs (w : Wd) (b : Nat) : Nat := hrsU w b w.N
def fst0 (w : Wd) (b : Nat) : Nat := if hrs w b = 0 then 0 else fstU w b w.N
def lst (w : Wd) (b : Nat) : Nat := lstU w b w.N
/-- what the words ask: count, hours, first, last, gaps, purse -/
def wrd (w : Wd) (j b k : Nat) : Int :=
  if k = 0 then (popc b : Int) else if k = 1 then (hrs w b : Int) else if k = 2 then (fst0 w b : Int) else if k = 3 then (lst w b : Int)
  else if k = 4 then (lst w b : Int) - fst0 w b - hrs w b else (w.pu j : Int)
def hld (z : Int) : Int := max (-1000000000) (min 1000000000 z)
def hlW (z : Int) : Int := max (-1000000) (min 1000000 z)
def bop (t : Nat) (x y : Int) : Int :=
  if t = 3 then hld (x + y) else if t = 4 then hld (x - y) else if t = 5 then hld (x * y) else if t = 6 then (if y = 0 then 0 else Int.tdiv x y)
  else if t = 7 then (if x < y then 1 else 0) else if t = 8 then (if y < x then 1 else 0) else if t = 9 then (if x = y then 1 else 0)
  else if t = 10 then (if 0 < x + y then 1 else 0) else (if x + y = 2 then 1 else 0)
/-- one step of a text that is read from behind: numbers, words, has; then what joins them -/
def op1 (g : Nat → Int) (b : Nat) (o : Op) (s : List Int) : List Int :=
  if o.1 = 0 then (o.2 : Int) :: s else if o.1 = 1 then g o.2 :: s else if o.1 = 2 then (if b.testBit o.2 = true then 1 else 0) :: s
  else if o.1 = 12 then (match s with
    | x :: t => (1 - x) :: t
    | [] => [])
  else (match s with
    | y :: x :: t => bop o.1 x y :: t
    | s => s)
def evl (g : Nat → Int) (b : Nat) (ops : List Op) (s : List Int) : List Int := ops.foldl (fun s o => op1 g b o s) s
def topv (s : List Int) : Int := s.headD 0
/-- does a statement's condition hold -/
def hlds (g : Nat → Int) (b : Nat) (s : Stm) : Bool := s.2.2.isEmpty || decide (topv (evl g b s.2.2 []) ≠ 0)
def wthL (g : Nat → Int) (b : Nat) (S : List Stm) : Int := S.foldl (fun z s => if s.1 = 0 ∧ hlds g b s = true then hlW (z + topv (evl g b s.2.1 [])) else z) 0
def nevL (g : Nat → Int) (b : Nat) (S : List Stm) : Bool := S.any (fun s => decide (s.1 = 1) && hlds g b s)
/-- the worth of a bundle by the wishes of row r for the person j -/
def wth (w : Wd) (r j b : Nat) : Int := wthL (wrd w j b) b (w.ws r)
def nev (w : Wd) (r j b : Nat) : Bool := nevL (wrd w j b) b (w.ws r)
def clashB (w : Wd) (b : Nat) : Bool := (List.range w.N).any (fun l => (List.range w.N).any (fun o => decide (l < o) && (b.testBit l && (b.testBit o && (decide (w.fr l < w.to o) && decide (w.fr o < w.to l))))))
def lackB (w : Wd) (j b : Nat) : Bool := (List.range w.A).any (fun k => b.testBit (w.a1 k) && (!b.testBit (w.a2 k) && !(w.dn j).testBit (w.a2 k)))
def bar (w : Wd) (r j b : Nat) : Nat :=
  if b / 2 ^ w.N ≠ 0 then 1 else if w.mo < popc b then 2 else if clashB w b = true then 3 else if lackB w j b = true then 4 else if nev w r j b = true then 5 else 0
def law (w : Wd) (r j b : Nat) : Bool := decide (bar w r j b = 0)
/-! types of what lies on the pile: true a number, false a yes or no; B: the most that may lie there -/
def okT (t : Bool) (z : Int) : Prop := if t = true then -1000000000 ≤ z ∧ z ≤ 1000000000 else z = 0 ∨ z = 1
def VS : List Bool → List Int → Prop
  | [], [] => True
  | t :: ts, z :: zs => okT t z ∧ VS ts zs
  | _, _ => False
def tcO (B : Nat) (o : Op) (ts : List Bool) : Option (List Bool) :=
  if o.1 = 0 then (if o.2 ≤ 99999 ∧ ts.length < B then some (true :: ts) else none)
  else if o.1 = 1 then (if o.2 < 6 ∧ ts.length < B then some (true :: ts) else none)
  else if o.1 = 2 then (if o.2 < 10 ∧ ts.length < B then some (true :: ts) else none)
  else if o.1 = 12 then (match ts with
    | false :: t => some (false :: t)
    | _ => none)
  else if o.1 = 10 ∨ o.1 = 11 then (match ts with
    | false :: false :: t => some (false :: t)
    | _ => none)
  else if o.1 = 3 ∨ o.1 = 4 ∨ o.1 = 5 ∨ o.1 = 6 then (match ts with
    | true :: true :: t => some (true :: t)
    | _ => none)
  else if o.1 = 7 ∨ o.1 = 8 ∨ o.1 = 9 then (match ts with
    | true :: true :: t => some (false :: t)
    | _ => none)
  else none
def tcL (B : Nat) : List Op → List Bool → Option (List Bool)
  | [], ts => some ts
  | o :: os, ts => (tcO B o ts).bind (tcL B os)
/-- a statement that may stand: an add has an expression, a never none; a condition is a yes or no -/
def WS (s : Stm) : Prop := (s.1 = 0 ∧ tcL 40 s.2.1 [] = some [true] ∨ s.1 = 1 ∧ s.2.1 = []) ∧ (s.2.2 = [] ∨ tcL 40 s.2.2 [] = some [false])
def flat (S : List Stm) : List Op := S.flatMap (fun s => s.2.1 ++ s.2.2)
/-- all wishes of a row may stand -/
def WR (S : List Stm) : Prop := (∀ s ∈ S, WS s) ∧ S.length ≤ 16 ∧ (flat S).length ≤ 400
/-- the world is as told -/
def WW (w : Wd) : Prop := w.N ≤ 10 ∧ w.P ≤ 8 ∧ w.A ≤ 20 ∧ (1 ≤ w.mo ∧ w.mo ≤ 6) ∧ (1 ≤ w.sp ∧ w.sp ≤ 50) ∧ (∀ l, w.pl l ≤ 9) ∧ (∀ l, l < w.N → w.fr l < w.to l ∧ w.to l ≤ 40) ∧ (∀ k, k < w.A → w.a1 k < w.N ∧ w.a2 k < w.N) ∧ (∀ l, w.pr l ≤ 250) ∧ (∀ j, w.pu j ≤ 200) ∧ (∀ j, w.dn j < 1024) ∧ (∀ j, w.hd j < 2 ^ w.N) ∧ (∀ r, WR (w.ws r)) ∧ w.T ≤ 400 ∧ (∀ i, w.tp i < 256) ∧ (∀ l, w.N ≤ l → w.pl l = 0 ∧ w.pr l = 0)
/-- a row of wishes, as the model keeps it -/
def offS (S : List Stm) (i : Nat) : Nat := (flat (S.take i)).length
def RowM (σ : St) (r : Nat) (S : List Stm) : Prop := gI σ 50 r = nI S.length ∧
  (∀ i s, S[i]? = some s → gI σ 51 (16 * r + i) = nI s.1 ∧ gI σ 52 (16 * r + i) = nI (500 * r + offS S i) ∧ gI σ 53 (16 * r + i) = nI (500 * r + offS S i + s.2.1.length) ∧ gI σ 54 (16 * r + i) = nI (500 * r + offS S i + s.2.1.length + s.2.2.length)) ∧
  ∀ t o, (flat S)[t]? = some o → gI σ 55 (500 * r + t) = nI o.1 ∧ gI σ 56 (500 * r + t) = nI o.2
def sb8 (t : Nat) : Int32 := (nI t).toInt8.toInt32
/-- the model keeps the world -/
def RM (σ : St) (w : Wd) : Prop := gI σ 11 0 = nI w.N ∧ gI σ 11 1 = nI w.P ∧ gI σ 11 2 = nI w.A ∧ gI σ 11 3 = nI w.mo ∧ gI σ 11 4 = nI w.sp ∧ (∀ l, l < 10 → gI σ 41 l = nI (w.pl l) ∧ gI σ 42 l = nI (w.fr l) ∧ gI σ 43 l = nI (w.to l) ∧ gI σ 44 l = nI (w.pr l)) ∧ (∀ k, k < w.A → gI σ 45 k = nI (w.a1 k) ∧ gI σ 46 k = nI (w.a2 k)) ∧ (∀ j, j < 8 → gI σ 47 j = nI (w.pu j) ∧ gI σ 48 j = nI (w.dn j) ∧ gI σ 49 j = nI (w.hd j)) ∧ (∀ r, r < 9 → RowM σ r (w.ws r)) ∧ (gI σ 11 21 = if w.lie = true then 1 else 0) ∧ gI σ 11 14 = nI w.T ∧ (∀ i, i < w.T → gI σ 59 i = sb8 (w.tp i)) ∧ gI σ 11 19 = Int32.ofInt w.fa ∧ gI σ 11 20 = nI w.ver ∧ ∃ v, v ≤ w.ver ∧ gI σ 11 37 = nI v
/-- cells of the model that keep the world -/
def keepM (q k : Nat) : Prop := (q = 11 ∧ (k ≤ 4 ∨ k = 14 ∨ k = 19 ∨ k = 20 ∨ k = 21 ∨ k = 37)) ∨ (41 ≤ q ∧ q ≤ 56) ∨ q = 59
theorem RowM.fr {σ σ' : St} {r : Nat} {S : List Stm} (h : RowM σ r S) (hf : ∀ q k, 50 ≤ q → q ≤ 56 → gI σ' q k = gI σ q k) : RowM σ' r S := by
  obtain ⟨h1, h2, h3⟩ := h
  refine ⟨by rw [hf _ _ (by decide) (by decide)]; exact h1, fun i s hi => ?_, fun t o ht => ?_⟩
  · rw [hf 51 _ (by decide) (by decide), hf 52 _ (by decide) (by decide), hf 53 _ (by decide) (by decide), hf 54 _ (by decide) (by decide)]; exact h2 i s hi
  · rw [hf 55 _ (by decide) (by decide), hf 56 _ (by decide) (by decide)]; exact h3 t o ht
theorem RM.fr {σ σ' : St} {w : Wd} (h : RM σ w) (hf : ∀ q k, keepM q k → gI σ' q k = gI σ q k) : RM σ' w := by
  obtain ⟨h1, h2, h3, h4, h5, h6, h7, h8, h9, h10, h11, h12, h13, h14, v, h15, h16⟩ := h
  have f11 : ∀ k, (k ≤ 4 ∨ k = 14 ∨ k = 19 ∨ k = 20 ∨ k = 21 ∨ k = 37) → gI σ' 11 k = gI σ 11 k := fun k hk => hf 11 k (Or.inl ⟨rfl, hk⟩)
  have fa : ∀ q k, 41 ≤ q → q ≤ 56 → gI σ' q k = gI σ q k := fun q k a b => hf q k (Or.inr (Or.inl ⟨a, b⟩))
  refine ⟨?_, ?_, ?_, ?_, ?_, fun l hl => ?_, fun k hk => ?_, fun j hj => ?_, fun r hr => (h9 r hr).fr (fun q k a b => fa q k (by omega) b), ?_, ?_, fun i hi => ?_, ?_, ?_, v, h15, ?_⟩
  · rw [f11 0 (by decide)]; exact h1
  · rw [f11 1 (by decide)]; exact h2
  · rw [f11 2 (by decide)]; exact h3
  · rw [f11 3 (by decide)]; exact h4
  · rw [f11 4 (by decide)]; exact h5
  · rw [fa 41 _ (by decide) (by decide), fa 42 _ (by decide) (by decide), fa 43 _ (by decide) (by decide), fa 44 _ (by decide) (by decide)]; exact h6 l hl
  · rw [fa 45 _ (by decide) (by decide), fa 46 _ (by decide) (by decide)]; exact h7 k hk
  · rw [fa 47 _ (by decide) (by decide), fa 48 _ (by decide) (by decide), fa 49 _ (by decide) (by decide)]; exact h8 j hj
  · rw [f11 21 (by decide)]; exact h10
  · rw [f11 14 (by decide)]; exact h11
  · rw [hf 59 i (Or.inr (Or.inr rfl))]; exact h12 i hi
  · rw [f11 19 (by decide)]; exact h13
  · rw [f11 20 (by decide)]; exact h14
  · rw [f11 37 (by decide)]; exact h16
theorem RM.N {σ : St} {w : Wd} (h : RM σ w) : gI σ 11 0 = nI w.N := h.1
theorem RM.P {σ : St} {w : Wd} (h : RM σ w) : gI σ 11 1 = nI w.P := h.2.1
theorem RM.A {σ : St} {w : Wd} (h : RM σ w) : gI σ 11 2 = nI w.A := h.2.2.1
theorem RM.mo {σ : St} {w : Wd} (h : RM σ w) : gI σ 11 3 = nI w.mo := h.2.2.2.1
theorem RM.sp {σ : St} {w : Wd} (h : RM σ w) : gI σ 11 4 = nI w.sp := h.2.2.2.2.1
theorem RM.les {σ : St} {w : Wd} (h : RM σ w) : ∀ l, l < 10 → gI σ 41 l = nI (w.pl l) ∧ gI σ 42 l = nI (w.fr l) ∧ gI σ 43 l = nI (w.to l) ∧ gI σ 44 l = nI (w.pr l) := h.2.2.2.2.2.1
theorem RM.aft {σ : St} {w : Wd} (h : RM σ w) : ∀ k, k < w.A → gI σ 45 k = nI (w.a1 k) ∧ gI σ 46 k = nI (w.a2 k) := h.2.2.2.2.2.2.1
theorem RM.per {σ : St} {w : Wd} (h : RM σ w) : ∀ j, j < 8 → gI σ 47 j = nI (w.pu j) ∧ gI σ 48 j = nI (w.dn j) ∧ gI σ 49 j = nI (w.hd j) := h.2.2.2.2.2.2.2.1
theorem RM.row {σ : St} {w : Wd} (h : RM σ w) : ∀ r, r < 9 → RowM σ r (w.ws r) := h.2.2.2.2.2.2.2.2.1
theorem WW.N {w : Wd} (h : WW w) : w.N ≤ 10 := h.1
theorem WW.P {w : Wd} (h : WW w) : w.P ≤ 8 := h.2.1
theorem WW.A {w : Wd} (h : WW w) : w.A ≤ 20 := h.2.2.1
theorem WW.mo {w : Wd} (h : WW w) : 1 ≤ w.mo ∧ w.mo ≤ 6 := h.2.2.2.1
theorem WW.sp {w : Wd} (h : WW w) : 1 ≤ w.sp ∧ w.sp ≤ 50 := h.2.2.2.2.1
theorem WW.pl {w : Wd} (h : WW w) : ∀ l, w.pl l ≤ 9 := h.2.2.2.2.2.1
theorem WW.ft {w : Wd} (h : WW w) : ∀ l, l < w.N → w.fr l < w.to l ∧ w.to l ≤ 40 := h.2.2.2.2.2.2.1
theorem WW.af {w : Wd} (h : WW w) : ∀ k, k < w.A → w.a1 k < w.N ∧ w.a2 k < w.N := h.2.2.2.2.2.2.2.1
theorem WW.pr {w : Wd} (h : WW w) : ∀ l, w.pr l ≤ 250 := h.2.2.2.2.2.2.2.2.1
theorem WW.pu {w : Wd} (h : WW w) : ∀ j, w.pu j ≤ 200 := h.2.2.2.2.2.2.2.2.2.1
theorem WW.dn {w : Wd} (h : WW w) : ∀ j, w.dn j < 1024 := h.2.2.2.2.2.2.2.2.2.2.1
theorem WW.hd {w : Wd} (h : WW w) : ∀ j, w.hd j < 2 ^ w.N := h.2.2.2.2.2.2.2.2.2.2.2.1
theorem WW.ws {w : Wd} (h : WW w) : ∀ r, WR (w.ws r) := h.2.2.2.2.2.2.2.2.2.2.2.2.1
theorem WW.T {w : Wd} (h : WW w) : w.T ≤ 400 := h.2.2.2.2.2.2.2.2.2.2.2.2.2.1
theorem WW.tp {w : Wd} (h : WW w) : ∀ i, w.tp i < 256 := h.2.2.2.2.2.2.2.2.2.2.2.2.2.2.1
theorem WW.zz {w : Wd} (h : WW w) : ∀ l, w.N ≤ l → w.pl l = 0 ∧ w.pr l = 0 := h.2.2.2.2.2.2.2.2.2.2.2.2.2.2.2
