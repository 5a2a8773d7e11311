/-! ===== the grammar of wishes, over tokens ===== -/
abbrev Res : Type := Bool × Nat × List Op
/-- the step that a sign or a word between two stands for -/
def opK (t : Nat) : Nat := if t = 43 then 3 else if t = 45 then 4 else if t = 42 then 5 else if t = 47 then 6 else if t = 60 then 7 else if t = 62 then 8 else if t = 61 then 9 else if t = 4 then 10 else 11
def em (t : Nat) : List Op := if t = 0 then [] else [(opK t, 0)]
/-- one, and more of it behind each sign; t: the sign that waits -/
def chn (K : Nat → Nat) (sg : Nat → Bool) (A : Nat → Res) : Nat → Nat → Nat → Res
  | 0, i, _ => (false, i, [])
  | g + 1, i, t => if (A i).1 = true then (if sg (K (A i).2.1) = true then ((chn K sg A g ((A i).2.1 + 1) (K (A i).2.1)).1, (chn K sg A g ((A i).2.1 + 1) (K (A i).2.1)).2.1, (A i).2.2 ++ em t ++ (chn K sg A g ((A i).2.1 + 1) (K (A i).2.1)).2.2) else (true, (A i).2.1, (A i).2.2 ++ em t)) else (false, (A i).2.1, [])
def isT (k : Nat) : Bool := decide (k = 42 ∨ k = 47)
def isP (k : Nat) : Bool := decide (k = 43 ∨ k = 45)
def isA (k : Nat) : Bool := decide (k = 5)
def isO (k : Nat) : Bool := decide (k = 4)
def prodOf (K : Nat → Nat) (A : Nat → Res) (i : Nat) : Res := chn K isT A 401 i 0
def exOf (K : Nat → Nat) (A : Nat → Res) (i : Nat) : Res := chn K isP (prodOf K A) 402 i 0
def allOf (K : Nat → Nat) (A : Nat → Res) (i : Nat) : Res := chn K isA A 401 i 0
def anyOf (K : Nat → Nat) (A : Nat → Res) (i : Nat) : Res := chn K isO (allOf K A) 402 i 0
/-- behind a part that stood, a closing sign -/
def clsd (K : Nat → Nat) (k : Nat) (r : Res) : Res := if r.1 = true then (if K r.2.1 = k then (true, r.2.1 + 1, r.2.2) else (false, r.2.1, [])) else (false, r.2.1, [])
/-- an atom; E: what stands in parentheses, where one may still begin -/
def atom0 (K V : Nat → Nat) (E : Option (Nat → Res)) (i : Nat) : Res :=
  if K i = 256 then (true, i + 1, [(0, V i)])
  else if 8 ≤ K i ∧ K i ≤ 13 then (true, i + 1, [(1, K i - 8)])
  else if K i = 7 then (if K (i + 1) = 256 ∧ V (i + 1) < 10 then (true, i + 2, [(2, V (i + 1))]) else (false, i + 1, []))
  else if K i = 40 then (match E with
    | none => (false, i, [])
    | some E => clsd K 41 (E (i + 1)))
  else (false, i, [])
def atomS (K V : Nat → Nat) : Nat → Nat → Res
  | 0 => atom0 K V none
  | L + 1 => atom0 K V (some (exOf K (atomS K V L)))
def exS (K V : Nat → Nat) (L : Nat) : Nat → Res := exOf K (atomS K V L)
/-- a comparison, a not, a bracket -/
def sgl0 (K : Nat → Nat) (E : Nat → Res) (S : Option (Nat → Res)) (i : Nat) : Res :=
  if K i = 6 then (match S with
    | none => (false, i, [])
    | some S => if (S (i + 1)).1 = true then (true, (S (i + 1)).2.1, (S (i + 1)).2.2 ++ [(12, 0)]) else (false, (S (i + 1)).2.1, []))
  else if K i = 91 then (match S with
    | none => (false, i, [])
    | some S => clsd K 93 (anyOf K S (i + 1)))
  else if (E i).1 = true then (if K (E i).2.1 = 60 ∨ K (E i).2.1 = 62 ∨ K (E i).2.1 = 61 then
      (if (E ((E i).2.1 + 1)).1 = true then (true, (E ((E i).2.1 + 1)).2.1, (E i).2.2 ++ (E ((E i).2.1 + 1)).2.2 ++ [(opK (K (E i).2.1), 0)]) else (false, (E ((E i).2.1 + 1)).2.1, []))
    else (false, (E i).2.1, [])) else (false, (E i).2.1, [])
def oneS (K V : Nat → Nat) : Nat → Nat → Res
  | 0 => sgl0 K (exS K V 0) none
  | L + 1 => sgl0 K (exS K V (L + 1)) (some (oneS K V L))
def anyS (K V : Nat → Nat) (L : Nat) : Nat → Res := anyOf K (oneS K V L)
/-- a statement: whether it stands, where one is then, what it is -/
abbrev ResS : Type := Bool × Nat × Stm
def headS (K V : Nat → Nat) (i : Nat) : Res := if K i = 1 then exS K V 9 (i + 1) else if K i = 2 then (true, i + 1, []) else (false, i, [])
def tailS (K V : Nat → Nat) (j : Nat) : Res := if K j = 3 then anyS K V 9 (j + 1) else (true, j, [])
def stS (K V : Nat → Nat) (i : Nat) : ResS :=
  if (headS K V i).1 = true then (if (tailS K V (headS K V i).2.1).1 = true then (if K (tailS K V (headS K V i).2.1).2.1 = 59 then (true, (tailS K V (headS K V i).2.1).2.1 + 1, (K i - 1, (headS K V i).2.2, (tailS K V (headS K V i).2.1).2.2)) else (false, (tailS K V (headS K V i).2.1).2.1, (0, [], []))) else (false, (tailS K V (headS K V i).2.1).2.1, (0, [], []))) else (false, (headS K V i).2.1, (0, [], []))
/-- all statements: at most g more -/
def rdS (K V : Nat → Nat) : Nat → Nat → Bool × Nat × List Stm
  | 0, i => (decide (K i = 258), i, [])
  | g + 1, i => if K i = 258 then (true, i, []) else if (stS K V i).1 = true then ((rdS K V g (stS K V i).2.1).1, (rdS K V g (stS K V i).2.1).2.1, (stS K V i).2.2 :: (rdS K V g (stS K V i).2.1).2.2) else (false, (stS K V i).2.1, [])
/-! where one is, and how much was said -/
/-- tokens: the last, and only it, is the end -/
def TkE (K V : Nat → Nat) (m : Nat) : Prop := m ≤ 400 ∧ K m = 258 ∧ (∀ j, j < m → K j ≠ 258) ∧ ∀ j, V j ≤ 99999
def RG1 (m i : Nat) (r : Res) : Prop := r.2.1 ≤ m ∧ i ≤ r.2.1 ∧ (r.1 = true → i < r.2.1 ∧ (encL r.2.2).length + i ≤ r.2.1)
def RG (m : Nat) (A : Nat → Res) : Prop := ∀ i, i ≤ m → RG1 m i (A i)
theorem RG1.no {m i j : Nat} (h1 : j ≤ m) (h2 : i ≤ j) : RG1 m i (false, j, []) := ⟨h1, h2, fun h => by cases h⟩
theorem RG1.yes {m i j : Nat} {o : List Op} (h1 : j ≤ m) (h2 : i < j) (h3 : (encL o).length + i ≤ j) : RG1 m i (true, j, o) := ⟨h1, Nat.le_of_lt h2, fun _ => ⟨h2, h3⟩⟩
theorem encL_app (a b : List Op) : encL (a ++ b) = encL a ++ encL b := by unfold encL; rw [List.flatMap_append]
theorem opK_rng (t : Nat) : 3 ≤ opK t ∧ opK t ≤ 11 := by unfold opK; (repeat' split) <;> omega
theorem encO_bin {k : Nat} (h : 3 ≤ k) : encO (k, 0) = [-(kOf k : Int)] := by
  unfold encO
  rw [if_neg (show ¬ (k, 0).1 = 0 by show ¬ k = 0; omega), if_neg (show ¬ (k, 0).1 = 1 by show ¬ k = 1; omega), if_neg (show ¬ (k, 0).1 = 2 by show ¬ k = 2; omega)]
theorem encL_one (o : Op) : encL [o] = encO o := by unfold encL; simp
theorem em_len (t : Nat) : (encL (em t)).length = if t = 0 then 0 else 1 := by
  unfold em
  split
  · rfl
  · rw [encL_one, encO_bin (opK_rng t).1]; rfl
def RG2 (m i t : Nat) (r : Res) : Prop := r.2.1 ≤ m ∧ i ≤ r.2.1 ∧ (r.1 = true → i < r.2.1 ∧ (encL r.2.2).length + i ≤ r.2.1 + if t = 0 then 0 else 1)
theorem RG2.no {m i j t : Nat} (h1 : j ≤ m) (h2 : i ≤ j) : RG2 m i t (false, j, []) := ⟨h1, h2, fun h => by cases h⟩
theorem RG2.mk {m i j t : Nat} {b : Bool} {o : List Op} (h1 : j ≤ m) (h2 : i ≤ j) (h3 : b = true → i < j ∧ (encL o).length + i ≤ j + if t = 0 then 0 else 1) : RG2 m i t (b, j, o) := ⟨h1, h2, h3⟩
theorem chn_rg {K V : Nat → Nat} {m : Nat} {sg : Nat → Bool} {A : Nat → Res} (hT : TkE K V m) (hs : sg 258 = false) (hA : RG m A) : ∀ g i t, i ≤ m → RG2 m i t (chn K sg A g i t)
  | 0, i, t, hi => RG2.no hi (Nat.le_refl _)
  | g + 1, i, t, hi => by
    obtain ⟨a1, a2, a3⟩ := hA i hi
    unfold chn
    by_cases h1 : (A i).1 = true
    · obtain ⟨a4, a5⟩ := a3 h1
      rw [if_pos h1]
      by_cases h2 : sg (K (A i).2.1) = true
      · rw [if_pos h2]
        have hlt : (A i).2.1 < m := by
          rcases Nat.lt_or_ge (A i).2.1 m with z | z
          · exact z
          · have : (A i).2.1 = m := by omega
            rw [this, hT.2.1, hs] at h2; cases h2
        obtain ⟨b1, b2, b3⟩ := chn_rg hT hs hA g ((A i).2.1 + 1) (K (A i).2.1) (by omega)
        refine RG2.mk b1 (by omega) (fun hb => ?_)
        obtain ⟨b4, b5⟩ := b3 hb
        refine ⟨by omega, ?_⟩
        rw [encL_app, encL_app, List.length_append, List.length_append, em_len]
        have : (if K (A i).2.1 = 0 then 0 else 1) ≤ 1 := by split <;> omega
        omega
      · rw [if_neg h2]
        refine RG2.mk a1 a2 (fun _ => ⟨a4, ?_⟩)
        rw [encL_app, List.length_append, em_len]; omega
    · rw [if_neg h1]
      exact RG2.no a1 a2
theorem chn0_rg {K V : Nat → Nat} {m g : Nat} {sg : Nat → Bool} {A : Nat → Res} (hT : TkE K V m) (hs : sg 258 = false) (hA : RG m A) : RG m (fun i => chn K sg A g i 0) := fun i hi => by
  obtain ⟨a1, a2, a3⟩ := chn_rg hT hs hA g i 0 hi
  exact ⟨a1, a2, fun h => ⟨(a3 h).1, by have := (a3 h).2; simpa using this⟩⟩
theorem ex_rg {K V : Nat → Nat} {m : Nat} {A : Nat → Res} (hT : TkE K V m) (hA : RG m A) : RG m (exOf K A) := chn0_rg hT (by decide) (chn0_rg (A := A) hT (by decide) hA)
theorem any_rg {K V : Nat → Nat} {m : Nat} {A : Nat → Res} (hT : TkE K V m) (hA : RG m A) : RG m (anyOf K A) := chn0_rg hT (by decide) (chn0_rg (A := A) hT (by decide) hA)
theorem notEnd {K V : Nat → Nat} {m i k : Nat} (hT : TkE K V m) (hi : i ≤ m) (h : K i = k) (hk : k ≠ 258) : i < m := by
  rcases Nat.lt_or_ge i m with z | z
  · exact z
  · have : i = m := by omega
    rw [this, hT.2.1] at h; exact absurd h.symm hk
theorem clsd_rg {K V : Nat → Nat} {m i k : Nat} {r : Res} (hT : TkE K V m) (hk : k ≠ 258) (h : RG1 m (i + 1) r) : RG1 m i (clsd K k r) := by
  obtain ⟨a1, a2, a3⟩ := h
  unfold clsd
  by_cases h6 : r.1 = true
  · obtain ⟨a4, a5⟩ := a3 h6
    rw [if_pos h6]
    by_cases h7 : K r.2.1 = k
    · rw [if_pos h7]
      have h8 := notEnd hT a1 h7 hk
      exact RG1.yes (by omega) (by omega) (by omega)
    · rw [if_neg h7]; exact RG1.no a1 (by omega)
  · rw [if_neg h6]; exact RG1.no a1 (by omega)
theorem atom0_rg {K V : Nat → Nat} {m : Nat} {E : Option (Nat → Res)} (hT : TkE K V m) (hE : ∀ e, E = some e → RG m e) : RG m (atom0 K V E) := fun i hi => by
  unfold atom0
  by_cases h1 : K i = 256
  · rw [if_pos h1]
    have := notEnd hT hi h1 (by decide)
    exact RG1.yes this (Nat.lt_succ_self _) (by show 1 + i ≤ i + 1; omega)
  rw [if_neg h1]
  by_cases h2 : 8 ≤ K i ∧ K i ≤ 13
  · rw [if_pos h2]
    have := notEnd hT hi rfl (show K i ≠ 258 by omega)
    exact RG1.yes this (Nat.lt_succ_self _) (by show 1 + i ≤ i + 1; omega)
  rw [if_neg h2]
  by_cases h3 : K i = 7
  · rw [if_pos h3]
    have h4 := notEnd hT hi h3 (by decide)
    by_cases h5 : K (i + 1) = 256 ∧ V (i + 1) < 10
    · rw [if_pos h5]
      have h6 := notEnd hT (show i + 1 ≤ m by omega) h5.1 (by decide)
      exact RG1.yes (by omega) (by omega) (by show 2 + i ≤ i + 2; omega)
    · rw [if_neg h5]; exact RG1.no (by omega) (by omega)
  rw [if_neg h3]
  by_cases h4 : K i = 40
  · rw [if_pos h4]
    have h5 := notEnd hT hi h4 (by decide)
    cases E with
    | none => exact RG1.no hi (Nat.le_refl _)
    | some e => exact clsd_rg hT (by decide) (hE e rfl (i + 1) (by omega))
  · rw [if_neg h4]; exact RG1.no hi (Nat.le_refl _)
theorem atom_rg {K V : Nat → Nat} {m : Nat} (hT : TkE K V m) : ∀ L, RG m (atomS K V L)
  | 0 => atom0_rg hT (fun e h => by cases h)
  | L + 1 => atom0_rg hT (fun e h => by cases h; exact ex_rg hT (atom_rg hT L))
theorem exS_rg {K V : Nat → Nat} {m : Nat} (hT : TkE K V m) (L : Nat) : RG m (exS K V L) := ex_rg hT (atom_rg hT L)
theorem sgl0_rg {K V : Nat → Nat} {m : Nat} {E : Nat → Res} {S : Option (Nat → Res)} (hT : TkE K V m) (hE : RG m E) (hS : ∀ s, S = some s → RG m s) : RG m (sgl0 K E S) := fun i hi => by
  unfold sgl0
  by_cases h1 : K i = 6
  · rw [if_pos h1]
    have h5 := notEnd hT hi h1 (by decide)
    cases S with
    | none => exact RG1.no hi (Nat.le_refl _)
    | some s =>
      obtain ⟨a1, a2, a3⟩ := hS s rfl (i + 1) (by omega)
      show RG1 m i (if (s (i + 1)).1 = true then (true, (s (i + 1)).2.1, (s (i + 1)).2.2 ++ [(12, 0)]) else (false, (s (i + 1)).2.1, []))
      by_cases h6 : (s (i + 1)).1 = true
      · obtain ⟨a4, a5⟩ := a3 h6
        rw [if_pos h6]
        refine RG1.yes a1 (by omega) ?_
        rw [encL_app, List.length_append]
        show (encL (s (i + 1)).2.2).length + 1 + i ≤ (s (i + 1)).2.1
        omega
      · rw [if_neg h6]; exact RG1.no a1 (by omega)
  rw [if_neg h1]
  by_cases h2 : K i = 91
  · rw [if_pos h2]
    have h5 := notEnd hT hi h2 (by decide)
    cases S with
    | none => exact RG1.no hi (Nat.le_refl _)
    | some s => exact clsd_rg hT (by decide) (any_rg hT (hS s rfl) (i + 1) (by omega))
  rw [if_neg h2]
  obtain ⟨a1, a2, a3⟩ := hE i hi
  by_cases h3 : (E i).1 = true
  · obtain ⟨a4, a5⟩ := a3 h3
    rw [if_pos h3]
    by_cases h4 : K (E i).2.1 = 60 ∨ K (E i).2.1 = 62 ∨ K (E i).2.1 = 61
    · rw [if_pos h4]
      have h5 := notEnd hT a1 rfl (show K (E i).2.1 ≠ 258 by omega)
      obtain ⟨b1, b2, b3⟩ := hE ((E i).2.1 + 1) (by omega)
      by_cases h6 : (E ((E i).2.1 + 1)).1 = true
      · obtain ⟨b4, b5⟩ := b3 h6
        rw [if_pos h6]
        refine RG1.yes b1 (by omega) ?_
        have he : (encL [(opK (K (E i).2.1), 0)]).length = 1 := by rw [encL_one, encO_bin (opK_rng _).1]; rfl
        rw [encL_app, encL_app, List.length_append, List.length_append, he]
        omega
      · rw [if_neg h6]; exact RG1.no b1 (by omega)
    · rw [if_neg h4]; exact RG1.no a1 a2
  · rw [if_neg h3]; exact RG1.no a1 a2
theorem one_rg {K V : Nat → Nat} {m : Nat} (hT : TkE K V m) : ∀ L, RG m (oneS K V L)
  | 0 => sgl0_rg hT (exS_rg hT 0) (fun e h => by cases h)
  | L + 1 => sgl0_rg hT (exS_rg hT (L + 1)) (fun e h => by cases h; exact one_rg hT L)
theorem anyS_rg {K V : Nat → Nat} {m : Nat} (hT : TkE K V m) (L : Nat) : RG m (anyS K V L) := any_rg hT (one_rg hT L)
