/-! ===== the search for prices: what it is ===== -/
abbrev Tb : Type := (Nat → Nat → Bool) × (Nat → Nat → Int)
/-- by how much each lesson is over at a row -/
def ovN (w : Wd) (t : Tb) (c : Nat → Nat) (l : Nat) : Int := ovr w c (buyB w t.1 t.2 c) l
def sqN (w : Wd) (t : Tb) (c : Nat → Nat) : Int := sqU (ovN w t c) w.N
def heldP (x : Int) : Nat := (max 0 (min 250 x)).toNat
/-- the k-th row to try from a row; the last one changes all -/
def tryC (w : Wd) (t : Tb) (c : Nat → Nat) (k l : Nat) : Nat :=
  if w.N ≤ l then c l else if k = w.N then heldP (c l + ovN w t c l * w.sp) else if l = k then heldP (c l + if 0 < ovN w t c l then (w.sp : Int) else -w.sp) else c l
/-- where a search stands: steps gone, the rows gone to, the best row and its square -/
abbrev Se : Type := Nat × (Nat → Nat → Nat) × (Nat → Nat) × Int
abbrev Se.g (s : Se) : Nat := s.1
abbrev Se.r (s : Se) : Nat → Nat → Nat := s.2.1
abbrev Se.b (s : Se) : Nat → Nat := s.2.2.1
abbrev Se.q (s : Se) : Int := s.2.2.2
def isGoneS (w : Wd) (s : Se) (c : Nat → Nat) : Prop := ∃ k, k ≤ s.g ∧ s.g < k + 8 ∧ ∀ l, l < w.N → s.r k l = c l
def candS (w : Wd) (t : Tb) (s : Se) (k : Nat) : Prop := (k < w.N → ovN w t (s.r s.g) k ≠ 0) ∧ ¬ isGoneS w s (tryC w t (s.r s.g) k)
/-- the best of the first k rows to try -/
noncomputable def chU (w : Wd) (t : Tb) (s : Se) : Nat → Option Nat
  | 0 => none
  | k + 1 => @ite (Option Nat) (candS w t s k ∧ (∀ z, chU w t s k = some z → sqN w t (tryC w t (s.r s.g) k) < sqN w t (tryC w t (s.r s.g) z))) (Classical.propDecidable _) (some k) (chU w t s k)
/-- gone to a row -/
noncomputable def goS (w : Wd) (t : Tb) (s : Se) (k : Nat) : Se :=
  let c := tryC w t (s.r s.g) k
  (s.g + 1, fun i => if i = s.g + 1 then c else s.r i, if sqN w t c < s.q then c else s.b, min s.q (sqN w t c))
noncomputable def runS (w : Wd) (t : Tb) (s : Se) : Nat → Se
  | 0 => s
  | i + 1 => match chU w t s (w.N + 1) with
    | none => s
    | some k => runS w t (goS w t s k) i
noncomputable def fitS (w : Wd) (t : Tb) (n : Nat) : Se := runS w t (0, fun _ => w.pr, w.pr, sqN w t w.pr) n
theorem heldP_le (x : Int) : heldP x ≤ 250 := by unfold heldP; omega
def cP (c : Nat → Nat) : Prop := ∀ l, c l ≤ 250
theorem cP.ok {c : Nat → Nat} (h : cP c) : cOk c := fun l _ => by have := h l; omega
theorem tryC_ok {w : Wd} {t : Tb} {c : Nat → Nat} {k : Nat} (h : cP c) : cP (tryC w t c k) := by
  intro l
  have := h l
  unfold tryC
  split
  · exact this
  · split
    · exact heldP_le _
    · split
      · exact heldP_le _
      · exact this
theorem chU_lt {w : Wd} {t : Tb} {s : Se} : ∀ {k x : Nat}, chU w t s k = some x → x < k
  | 0, x, h => by cases h
  | k + 1, x, h => by
    unfold chU at h
    split at h
    · cases h; omega
    · have := chU_lt h; omega
theorem chU_yes {w : Wd} {t : Tb} {s : Se} {k : Nat} (h1 : candS w t s k) (h2 : ∀ z, chU w t s k = some z → sqN w t (tryC w t (s.r s.g) k) < sqN w t (tryC w t (s.r s.g) z)) : chU w t s (k + 1) = some k := by
  unfold chU
  exact if_pos ⟨h1, h2⟩
theorem chU_no {w : Wd} {t : Tb} {s : Se} {k : Nat} (h : candS w t s k → ∃ z, chU w t s k = some z ∧ ¬ sqN w t (tryC w t (s.r s.g) k) < sqN w t (tryC w t (s.r s.g) z)) : chU w t s (k + 1) = chU w t s k := by
  rw [chU]
  refine if_neg ?_
  rintro ⟨h1, h2⟩
  obtain ⟨z, h3, h4⟩ := h h1
  exact h4 (h2 z h3)
/-- the rows stay prices -/
def SeOk (s : Se) : Prop := (∀ i, cP (s.r i)) ∧ cP s.b
theorem goS_ok {w : Wd} {t : Tb} {s : Se} {k : Nat} (h : SeOk s) : SeOk (goS w t s k) := by
  refine ⟨fun i => ?_, ?_⟩
  · show cP (if i = s.g + 1 then _ else _)
    split
    · exact tryC_ok (h.1 _)
    · exact h.1 i
  · show cP (if _ then _ else _)
    split
    · exact tryC_ok (h.1 _)
    · exact h.2
