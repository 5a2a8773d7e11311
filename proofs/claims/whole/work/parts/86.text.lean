/-! ===== a text, and the tokens that it is cut into ===== -/
def isL (x : Nat) : Bool := decide (97 ≤ x ∧ x ≤ 122)
def isD (x : Nat) : Bool := decide (48 ≤ x ∧ x ≤ 57)
def isB (x : Nat) : Bool := decide (x = 32 ∨ x = 10)
def isSg (x : Nat) : Bool := decide (x = 59 ∨ x = 43 ∨ x = 45 ∨ x = 42 ∨ x = 47 ∨ x = 40 ∨ x = 41 ∨ x = 91 ∨ x = 93 ∨ x = 60 ∨ x = 62 ∨ x = 61)
theorem isL_iff {x : Nat} : isL x = true ↔ 97 ≤ x ∧ x ≤ 122 := decide_eq_true_iff
theorem isD_iff {x : Nat} : isD x = true ↔ 48 ≤ x ∧ x ≤ 57 := decide_eq_true_iff
theorem isB_iff {x : Nat} : isB x = true ↔ x = 32 ∨ x = 10 := decide_eq_true_iff
theorem isSg_iff {x : Nat} : isSg x = true ↔ (x = 59 ∨ x = 43 ∨ x = 45 ∨ x = 42 ∨ x = 47 ∨ x = 40 ∨ x = 41 ∨ x = 91 ∨ x = 93 ∨ x = 60 ∨ x = 62 ∨ x = 61) := decide_eq_true_iff
/-- where a run of such bytes ends -/
def runE (c : Nat → Bool) (tx : Nat → Nat) (n : Nat) : Nat → Nat → Nat
  | 0, p => p
  | g + 1, p => if p < n ∧ c (tx p) = true then runE c tx n g (p + 1) else p
def rE (c : Nat → Bool) (tx : Nat → Nat) (n p : Nat) : Nat := runE c tx n (n - p) p
theorem rE_go {c : Nat → Bool} {tx : Nat → Nat} {n p : Nat} (h : p < n) (hc : c (tx p) = true) : rE c tx n p = rE c tx n (p + 1) := by
  unfold rE
  obtain ⟨g, hg⟩ : ∃ g, n - p = g + 1 := ⟨n - p - 1, by omega⟩
  rw [hg, runE, if_pos ⟨h, hc⟩, show n - (p + 1) = g by omega]
theorem rE_stop {c : Nat → Bool} {tx : Nat → Nat} {n p : Nat} (h : ¬ (p < n ∧ c (tx p) = true)) : rE c tx n p = p := by
  unfold rE
  cases n - p with
  | zero => rfl
  | succ g => rw [runE, if_neg h]
theorem rE_spec {c : Nat → Bool} {tx : Nat → Nat} {n : Nat} : ∀ g p, n - p ≤ g → p ≤ n → p ≤ rE c tx n p ∧ rE c tx n p ≤ n ∧ (∀ k, p ≤ k → k < rE c tx n p → c (tx k) = true) ∧ (rE c tx n p < n → c (tx (rE c tx n p)) = false)
  | 0, p, hg, hp => by
    rw [rE_stop (by omega)]
    exact ⟨by omega, by omega, fun k h1 h2 => absurd h1 (by omega), fun h => absurd h (by omega)⟩
  | g + 1, p, hg, hp => by
    by_cases h : p < n ∧ c (tx p) = true
    · rw [rE_go h.1 h.2]
      obtain ⟨a1, a2, a3, a4⟩ := rE_spec (c := c) (tx := tx) (n := n) g (p + 1) (by omega) (by omega)
      refine ⟨by omega, a2, fun k h1 h2 => ?_, a4⟩
      by_cases e : k = p
      · rw [e]; exact h.2
      · exact a3 k (by omega) h2
    · rw [rE_stop h]
      refine ⟨Nat.le_refl _, hp, fun k h1 h2 => absurd h1 (by omega), fun h1 => ?_⟩
      cases hc : c (tx p)
      · rfl
      · exact absurd ⟨h1, hc⟩ h
theorem rE_sp {c : Nat → Bool} {tx : Nat → Nat} {n p : Nat} (hp : p ≤ n) : p ≤ rE c tx n p ∧ rE c tx n p ≤ n ∧ (∀ k, p ≤ k → k < rE c tx n p → c (tx k) = true) ∧ (rE c tx n p < n → c (tx (rE c tx n p)) = false) := rE_spec (n - p) p (Nat.le_refl _) hp
/-- the run from p ends at q -/
theorem rE_mid {c : Nat → Bool} {tx : Nat → Nat} {n p : Nat} : ∀ k, p ≤ k → k ≤ n → (∀ i, p ≤ i → i < k → c (tx i) = true) → rE c tx n p = rE c tx n k := by
  intro k
  induction k with
  | zero => intro h1 h2 h3; rw [show p = 0 by omega]
  | succ k ih =>
    intro h1 h2 h3
    by_cases e : p = k + 1
    · rw [e]
    · rw [ih (by omega) (by omega) (fun i a b => h3 i a (by omega)), rE_go (by omega) (h3 k (by omega) (by omega))]
def tokE (tx : Nat → Nat) (n p : Nat) : Nat := if isL (tx p) = true then rE isL tx n p else if isD (tx p) = true then rE isD tx n p else p + 1
theorem tokE_gt {tx : Nat → Nat} {n p : Nat} (h : p < n) : p < tokE tx n p ∧ tokE tx n p ≤ n := by
  unfold tokE
  split
  · rename_i h1
    rw [rE_go h h1]
    have := rE_sp (c := isL) (tx := tx) (n := n) (p := p + 1) (by omega)
    exact ⟨by omega, this.2.1⟩
  · split
    · rename_i h1
      rw [rE_go h h1]
      have := rE_sp (c := isD) (tx := tx) (n := n) (p := p + 1) (by omega)
      exact ⟨by omega, this.2.1⟩
    · omega
/-- where token i begins -/
def sT (tx : Nat → Nat) (n : Nat) : Nat → Nat
  | 0 => rE isB tx n 0
  | i + 1 => if sT tx n i < n then rE isB tx n (tokE tx n (sT tx n i)) else sT tx n i
theorem sT_s {tx : Nat → Nat} {n i : Nat} (h : sT tx n i < n) : sT tx n (i + 1) = rE isB tx n (tokE tx n (sT tx n i)) := by
  rw [sT, if_pos h]
theorem sT_le (tx : Nat → Nat) (n : Nat) : ∀ i, sT tx n i ≤ n
  | 0 => (rE_sp (Nat.zero_le _)).2.1
  | i + 1 => by
    rw [sT]
    split
    · rename_i h; exact (rE_sp (tokE_gt h).2).2.1
    · exact sT_le tx n i
theorem sT_lt {tx : Nat → Nat} {n i : Nat} (h : sT tx n i < n) : sT tx n i < sT tx n (i + 1) := by
  rw [sT_s h]
  have h1 := tokE_gt (tx := tx) h
  have := (rE_sp (c := isB) (tx := tx) h1.2).1
  omega
theorem sT_nb (tx : Nat → Nat) (n : Nat) : ∀ i, sT tx n i < n → isB (tx (sT tx n i)) = false
  | 0, h => (rE_sp (Nat.zero_le _)).2.2.2 h
  | i + 1, h => by
    by_cases h1 : sT tx n i < n
    · rw [sT_s h1] at h ⊢
      exact (rE_sp (tokE_gt h1).2).2.2.2 h
    · rw [sT, if_neg h1] at h ⊢
      exact sT_nb tx n i h
theorem sT_many (tx : Nat → Nat) (n : Nat) : ∃ m, m ≤ n ∧ sT tx n m = n ∧ ∀ j, j < m → sT tx n j < n := by
  have key : ∀ j, (∃ m, m ≤ j ∧ sT tx n m = n ∧ ∀ i, i < m → sT tx n i < n) ∨ ((∀ i, i ≤ j → sT tx n i < n) ∧ j ≤ sT tx n j) := by
    intro j
    induction j with
    | zero =>
      by_cases h : sT tx n 0 < n
      · exact Or.inr ⟨fun i hi => by rw [show i = 0 by omega]; exact h, Nat.zero_le _⟩
      · have := sT_le tx n 0
        exact Or.inl ⟨0, Nat.le_refl _, by omega, fun i hi => absurd hi (by omega)⟩
    | succ j ih =>
      rcases ih with ⟨m, a, b, c⟩ | ⟨a, b⟩
      · exact Or.inl ⟨m, by omega, b, c⟩
      · have h1 := sT_lt (a j (Nat.le_refl _))
        by_cases h : sT tx n (j + 1) < n
        · refine Or.inr ⟨fun i hi => ?_, by omega⟩
          by_cases e : i = j + 1
          · rw [e]; exact h
          · exact a i (by omega)
        · have := sT_le tx n (j + 1)
          exact Or.inl ⟨j + 1, Nat.le_refl _, by omega, fun i hi => a i (by omega)⟩
  rcases key n with h | ⟨a, b⟩
  · exact h
  · exact absurd (a n (Nat.le_refl _)) (by omega)
theorem sT_up {tx : Nat → Nat} {n : Nat} : ∀ i, (∀ j, j < i → sT tx n j < n) → i ≤ sT tx n i
  | 0, _ => Nat.zero_le _
  | i + 1, h => by
    have h1 := sT_up i (fun j hj => h j (by omega))
    have h2 := sT_lt (h i (Nat.lt_succ_self _))
    omega
/-- letters, packed; digits, as a number -/
def pkU (tx : Nat → Nat) (p : Nat) : Nat → Nat
  | 0 => 0
  | k + 1 => pkU tx p k * 256 + tx (p + k)
def nmU (tx : Nat → Nat) (p : Nat) : Nat → Nat
  | 0 => 0
  | k + 1 => nmU tx p k * 10 + (tx (p + k) - 48)
theorem nmU_lt {tx : Nat → Nat} {p : Nat} : ∀ k, (∀ i, i < k → isD (tx (p + i)) = true) → nmU tx p k < 10 ^ k
  | 0, _ => by rw [nmU]; decide
  | k + 1, h => by
    have h1 := nmU_lt k (fun i hi => h i (by omega))
    have h2 := isD_iff.mp (h k (Nat.lt_succ_self _))
    rw [nmU, Nat.pow_succ]
    omega
theorem pkU_ge {tx : Nat → Nat} {p : Nat} : ∀ k, (∀ i, i < k + 1 → isL (tx (p + i)) = true) → 256 ^ k ≤ pkU tx p (k + 1)
  | 0, h => by
    have h2 := isL_iff.mp (h 0 (by omega))
    rw [pkU, pkU, Nat.pow_zero]
    omega
  | k + 1, h => by
    have h1 := pkU_ge k (fun i hi => h i (by omega))
    rw [pkU, Nat.pow_succ]
    exact Nat.le_trans (Nat.mul_le_mul_right 256 h1) (Nat.le_add_right _ _)
/-- the kind of a word -/
def wK (v : Nat) : Nat := if v = 6382692 then 1 else if v = 474148660594 then 2 else if v = 26982 then 3 else if v = 28530 then 4 else if v = 6385252 then 5 else if v = 7237492 then 6 else if v = 6840691 then 7 else if v = 427071729268 then 8 else if v = 448546566771 then 9 else if v = 439855772532 then 10 else if v = 1818325876 then 11 else if v = 1734439027 then 12 else if v = 483006772069 then 13 else 257
theorem wK_rng (v : Nat) : 1 ≤ wK v ∧ wK v ≤ 257 ∧ (14 ≤ wK v → wK v = 257) := by unfold wK; (repeat' split) <;> omega
theorem wK_big {v : Nat} (h : 483006772069 < v) : wK v = 257 := by unfold wK; (repeat' split) <;> omega
def kT (tx : Nat → Nat) (n p : Nat) : Nat := if p < n then (if isL (tx p) = true then wK (pkU tx p (rE isL tx n p - p)) else if isD (tx p) = true then (if rE isD tx n p - p ≤ 5 then 256 else 257) else if isSg (tx p) = true then tx p else 257) else 258
def vT (tx : Nat → Nat) (n p : Nat) : Nat := if p < n ∧ isD (tx p) = true then nmU tx p (min (rE isD tx n p - p) 5) else 0
abbrev KT (tx : Nat → Nat) (n i : Nat) : Nat := kT tx n (sT tx n i)
abbrev VT (tx : Nat → Nat) (n i : Nat) : Nat := vT tx n (sT tx n i)
theorem isSg_rng {x : Nat} (h : isSg x = true) : 40 ≤ x ∧ x ≤ 93 := by have := isSg_iff.mp h; omega
theorem kT_in {tx : Nat → Nat} {n p : Nat} (h : p < n) : kT tx n p ≤ 257 := by
  unfold kT
  rw [if_pos h]
  split
  · exact (wK_rng _).2.1
  · split
    · split <;> omega
    · split
      · rename_i h1; have := isSg_rng h1; omega
      · omega
theorem kT_out {tx : Nat → Nat} {n p : Nat} (h : ¬ p < n) : kT tx n p = 258 := by unfold kT; rw [if_neg h]
theorem kT_le (tx : Nat → Nat) (n p : Nat) : kT tx n p ≤ 258 := by
  by_cases h : p < n
  · have := kT_in (tx := tx) h; omega
  · rw [kT_out h]; omega
theorem vT_le (tx : Nat → Nat) (n p : Nat) : vT tx n p ≤ 99999 := by
  unfold vT
  split
  · rename_i h
    have h1 := rE_sp (c := isD) (tx := tx) (Nat.le_of_lt h.1)
    have h2 : nmU tx p (min (rE isD tx n p - p) 5) < 10 ^ (min (rE isD tx n p - p) 5) := nmU_lt _ (fun i hi => h1.2.2.1 (p + i) (by omega) (by omega))
    have h3 : 10 ^ (min (rE isD tx n p - p) 5) ≤ 10 ^ 5 := Nat.pow_le_pow_right (by decide) (Nat.min_le_right _ _)
    omega
  · omega
theorem TkE_text {tx : Nat → Nat} {n m : Nat} (hn : n ≤ 400) (h1 : sT tx n m = n) (h2 : ∀ j, j < m → sT tx n j < n) : TkE (KT tx n) (VT tx n) m := by
  have h3 := sT_up m h2
  refine ⟨by omega, kT_out (by omega), fun j hj => ?_, fun j => vT_le _ _ _⟩
  have := kT_in (tx := tx) (h2 j hj)
  show kT tx n (sT tx n j) ≠ 258
  omega
theorem TkE_one {K V : Nat → Nat} {m m' : Nat} (h1 : TkE K V m) (h2 : TkE K V m') : m = m' := by
  rcases Nat.lt_trichotomy m m' with h | h | h
  · exact absurd h1.2.1 (h2.2.2.1 m h)
  · exact h
  · exact absurd h2.2.1 (h1.2.2.1 m' h)
/-! words: five signs and the packed value -/
def pd5 (tx : Nat → Nat) (p q i : Nat) : Nat := if p + i < q then tx (p + i) else 32
def wB (j : Nat) : Nat := ([97, 100, 100, 32, 32, 110, 101, 118, 101, 114, 105, 102, 32, 32, 32, 111, 114, 32, 32, 32, 97, 110, 100, 32, 32, 110, 111, 116, 32, 32, 104, 97, 115, 32, 32, 99, 111, 117, 110, 116, 104, 111, 117, 114, 115, 102, 105, 114, 115, 116, 108, 97, 115, 116, 32, 103, 97, 112, 115, 32, 112, 117, 114, 115, 101] : List Nat).getD j 0
def wV (c : Nat) : Nat := ([6382692, 474148660594, 26982, 28530, 6385252, 7237492, 6840691, 427071729268, 448546566771, 439855772532, 1818325876, 1734439027, 483006772069] : List Nat).getD c 0
def isWd (tx : Nat → Nat) (p q c : Nat) : Prop := ∀ i, i < 5 → pd5 tx p q i = wB (c * 5 + i)
theorem isWd_5 {tx : Nat → Nat} {p q c : Nat} : isWd tx p q c ↔ pd5 tx p q 0 = wB (c * 5) ∧ pd5 tx p q 1 = wB (c * 5 + 1) ∧ pd5 tx p q 2 = wB (c * 5 + 2) ∧ pd5 tx p q 3 = wB (c * 5 + 3) ∧ pd5 tx p q 4 = wB (c * 5 + 4) := by
  constructor
  · intro h; exact ⟨h 0 (by omega), h 1 (by omega), h 2 (by omega), h 3 (by omega), h 4 (by omega)⟩
  · rintro ⟨a, b, c, d, e⟩ i hi
    rcases (by omega : i = 0 ∨ i = 1 ∨ i = 2 ∨ i = 3 ∨ i = 4) with e1 | e1 | e1 | e1 | e1 <;> subst e1 <;> assumption
theorem wB_tab {c : Nat} (hc : c < 13) : (wB (c * 5) = 97 ∧ wB (c * 5 + 1) = 100 ∧ wB (c * 5 + 2) = 100 ∧ wB (c * 5 + 3) = 32 ∧ wB (c * 5 + 4) = 32 ∧ wV c = 6382692) ∨ (wB (c * 5) = 110 ∧ wB (c * 5 + 1) = 101 ∧ wB (c * 5 + 2) = 118 ∧ wB (c * 5 + 3) = 101 ∧ wB (c * 5 + 4) = 114 ∧ wV c = 474148660594) ∨ (wB (c * 5) = 105 ∧ wB (c * 5 + 1) = 102 ∧ wB (c * 5 + 2) = 32 ∧ wB (c * 5 + 3) = 32 ∧ wB (c * 5 + 4) = 32 ∧ wV c = 26982) ∨ (wB (c * 5) = 111 ∧ wB (c * 5 + 1) = 114 ∧ wB (c * 5 + 2) = 32 ∧ wB (c * 5 + 3) = 32 ∧ wB (c * 5 + 4) = 32 ∧ wV c = 28530) ∨ (wB (c * 5) = 97 ∧ wB (c * 5 + 1) = 110 ∧ wB (c * 5 + 2) = 100 ∧ wB (c * 5 + 3) = 32 ∧ wB (c * 5 + 4) = 32 ∧ wV c = 6385252) ∨ (wB (c * 5) = 110 ∧ wB (c * 5 + 1) = 111 ∧ wB (c * 5 + 2) = 116 ∧ wB (c * 5 + 3) = 32 ∧ wB (c * 5 + 4) = 32 ∧ wV c = 7237492) ∨ (wB (c * 5) = 104 ∧ wB (c * 5 + 1) = 97 ∧ wB (c * 5 + 2) = 115 ∧ wB (c * 5 + 3) = 32 ∧ wB (c * 5 + 4) = 32 ∧ wV c = 6840691) ∨ (wB (c * 5) = 99 ∧ wB (c * 5 + 1) = 111 ∧ wB (c * 5 + 2) = 117 ∧ wB (c * 5 + 3) = 110 ∧ wB (c * 5 + 4) = 116 ∧ wV c = 427071729268) ∨ (wB (c * 5) = 104 ∧ wB (c * 5 + 1) = 111 ∧ wB (c * 5 + 2) = 117 ∧ wB (c * 5 + 3) = 114 ∧ wB (c * 5 + 4) = 115 ∧ wV c = 448546566771) ∨ (wB (c * 5) = 102 ∧ wB (c * 5 + 1) = 105 ∧ wB (c * 5 + 2) = 114 ∧ wB (c * 5 + 3) = 115 ∧ wB (c * 5 + 4) = 116 ∧ wV c = 439855772532) ∨ (wB (c * 5) = 108 ∧ wB (c * 5 + 1) = 97 ∧ wB (c * 5 + 2) = 115 ∧ wB (c * 5 + 3) = 116 ∧ wB (c * 5 + 4) = 32 ∧ wV c = 1818325876) ∨ (wB (c * 5) = 103 ∧ wB (c * 5 + 1) = 97 ∧ wB (c * 5 + 2) = 112 ∧ wB (c * 5 + 3) = 115 ∧ wB (c * 5 + 4) = 32 ∧ wV c = 1734439027) ∨ (wB (c * 5) = 112 ∧ wB (c * 5 + 1) = 117 ∧ wB (c * 5 + 2) = 114 ∧ wB (c * 5 + 3) = 115 ∧ wB (c * 5 + 4) = 101 ∧ wV c = 483006772069) := by
  rcases (by omega : c = 0 ∨ c = 1 ∨ c = 2 ∨ c = 3 ∨ c = 4 ∨ c = 5 ∨ c = 6 ∨ c = 7 ∨ c = 8 ∨ c = 9 ∨ c = 10 ∨ c = 11 ∨ c = 12) with e | e | e | e | e | e | e | e | e | e | e | e | e <;> subst e
  · exact Or.inl ⟨rfl, rfl, rfl, rfl, rfl, rfl⟩
  · exact Or.inr (Or.inl ⟨rfl, rfl, rfl, rfl, rfl, rfl⟩)
  · exact Or.inr (Or.inr (Or.inl ⟨rfl, rfl, rfl, rfl, rfl, rfl⟩))
  · exact Or.inr (Or.inr (Or.inr (Or.inl ⟨rfl, rfl, rfl, rfl, rfl, rfl⟩)))
  · exact Or.inr (Or.inr (Or.inr (Or.inr (Or.inl ⟨rfl, rfl, rfl, rfl, rfl, rfl⟩))))
  · exact Or.inr (Or.inr (Or.inr (Or.inr (Or.inr (Or.inl ⟨rfl, rfl, rfl, rfl, rfl, rfl⟩)))))
  · exact Or.inr (Or.inr (Or.inr (Or.inr (Or.inr (Or.inr (Or.inl ⟨rfl, rfl, rfl, rfl, rfl, rfl⟩))))))
  · exact Or.inr (Or.inr (Or.inr (Or.inr (Or.inr (Or.inr (Or.inr (Or.inl ⟨rfl, rfl, rfl, rfl, rfl, rfl⟩)))))))
  · exact Or.inr (Or.inr (Or.inr (Or.inr (Or.inr (Or.inr (Or.inr (Or.inr (Or.inl ⟨rfl, rfl, rfl, rfl, rfl, rfl⟩))))))))
  · exact Or.inr (Or.inr (Or.inr (Or.inr (Or.inr (Or.inr (Or.inr (Or.inr (Or.inr (Or.inl ⟨rfl, rfl, rfl, rfl, rfl, rfl⟩)))))))))
  · exact Or.inr (Or.inr (Or.inr (Or.inr (Or.inr (Or.inr (Or.inr (Or.inr (Or.inr (Or.inr (Or.inl ⟨rfl, rfl, rfl, rfl, rfl, rfl⟩))))))))))
  · exact Or.inr (Or.inr (Or.inr (Or.inr (Or.inr (Or.inr (Or.inr (Or.inr (Or.inr (Or.inr (Or.inr (Or.inl ⟨rfl, rfl, rfl, rfl, rfl, rfl⟩)))))))))))
  · exact Or.inr (Or.inr (Or.inr (Or.inr (Or.inr (Or.inr (Or.inr (Or.inr (Or.inr (Or.inr (Or.inr (Or.inr (⟨rfl, rfl, rfl, rfl, rfl, rfl⟩))))))))))))
theorem isWd_pk {tx : Nat → Nat} {p q c : Nat} (hc : c < 13) (hp : p < q) (hq : q ≤ p + 5) (hL : ∀ i, p ≤ i → i < q → isL (tx i) = true) : isWd tx p q c ↔ pkU tx p (q - p) = wV c := by
  rw [isWd_5]
  have b : ∀ i, p + i < q → 97 ≤ tx (p + i) ∧ tx (p + i) ≤ 122 := fun i hi => isL_iff.mp (hL _ (by omega) hi)
  obtain ⟨k, hk⟩ : ∃ k, q = p + k := ⟨q - p, by omega⟩
  subst hk
  rw [show p + k - p = k by omega]
  unfold pd5
  rcases (by omega : k = 1 ∨ k = 2 ∨ k = 3 ∨ k = 4 ∨ k = 5) with e | e | e | e | e <;> subst e
  · have b0 := b 0 (by omega)
    simp only [pkU]
    rw [if_pos (show p + 0 < p + 1 by omega), if_neg (show ¬ p + 1 < p + 1 by omega), if_neg (show ¬ p + 2 < p + 1 by omega), if_neg (show ¬ p + 3 < p + 1 by omega), if_neg (show ¬ p + 4 < p + 1 by omega)]
    generalize tx (p + 0) = a0 at *
    clear b hL
    rcases wB_tab hc with ⟨h0, h1, h2, h3, h4, h5⟩ | ⟨h0, h1, h2, h3, h4, h5⟩ | ⟨h0, h1, h2, h3, h4, h5⟩ | ⟨h0, h1, h2, h3, h4, h5⟩ | ⟨h0, h1, h2, h3, h4, h5⟩ | ⟨h0, h1, h2, h3, h4, h5⟩ | ⟨h0, h1, h2, h3, h4, h5⟩ | ⟨h0, h1, h2, h3, h4, h5⟩ | ⟨h0, h1, h2, h3, h4, h5⟩ | ⟨h0, h1, h2, h3, h4, h5⟩ | ⟨h0, h1, h2, h3, h4, h5⟩ | ⟨h0, h1, h2, h3, h4, h5⟩ | ⟨h0, h1, h2, h3, h4, h5⟩ <;> rw [h0, h1, h2, h3, h4, h5] <;> clear h0 h1 h2 h3 h4 h5 <;> omega
  · have b0 := b 0 (by omega); have b1 := b 1 (by omega)
    simp only [pkU]
    rw [if_pos (show p + 0 < p + 2 by omega), if_pos (show p + 1 < p + 2 by omega), if_neg (show ¬ p + 2 < p + 2 by omega), if_neg (show ¬ p + 3 < p + 2 by omega), if_neg (show ¬ p + 4 < p + 2 by omega)]
    generalize tx (p + 0) = a0 at *
    generalize tx (p + 1) = a1 at *
    clear b hL
    rcases wB_tab hc with ⟨h0, h1, h2, h3, h4, h5⟩ | ⟨h0, h1, h2, h3, h4, h5⟩ | ⟨h0, h1, h2, h3, h4, h5⟩ | ⟨h0, h1, h2, h3, h4, h5⟩ | ⟨h0, h1, h2, h3, h4, h5⟩ | ⟨h0, h1, h2, h3, h4, h5⟩ | ⟨h0, h1, h2, h3, h4, h5⟩ | ⟨h0, h1, h2, h3, h4, h5⟩ | ⟨h0, h1, h2, h3, h4, h5⟩ | ⟨h0, h1, h2, h3, h4, h5⟩ | ⟨h0, h1, h2, h3, h4, h5⟩ | ⟨h0, h1, h2, h3, h4, h5⟩ | ⟨h0, h1, h2, h3, h4, h5⟩ <;> rw [h0, h1, h2, h3, h4, h5] <;> clear h0 h1 h2 h3 h4 h5 <;> omega
  · have b0 := b 0 (by omega); have b1 := b 1 (by omega); have b2 := b 2 (by omega)
    simp only [pkU]
    rw [if_pos (show p + 0 < p + 3 by omega), if_pos (show p + 1 < p + 3 by omega), if_pos (show p + 2 < p + 3 by omega), if_neg (show ¬ p + 3 < p + 3 by omega), if_neg (show ¬ p + 4 < p + 3 by omega)]
    generalize tx (p + 0) = a0 at *
    generalize tx (p + 1) = a1 at *
    generalize tx (p + 2) = a2 at *
    clear b hL
    rcases wB_tab hc with ⟨h0, h1, h2, h3, h4, h5⟩ | ⟨h0, h1, h2, h3, h4, h5⟩ | ⟨h0, h1, h2, h3, h4, h5⟩ | ⟨h0, h1, h2, h3, h4, h5⟩ | ⟨h0, h1, h2, h3, h4, h5⟩ | ⟨h0, h1, h2, h3, h4, h5⟩ | ⟨h0, h1, h2, h3, h4, h5⟩ | ⟨h0, h1, h2, h3, h4, h5⟩ | ⟨h0, h1, h2, h3, h4, h5⟩ | ⟨h0, h1, h2, h3, h4, h5⟩ | ⟨h0, h1, h2, h3, h4, h5⟩ | ⟨h0, h1, h2, h3, h4, h5⟩ | ⟨h0, h1, h2, h3, h4, h5⟩ <;> rw [h0, h1, h2, h3, h4, h5] <;> clear h0 h1 h2 h3 h4 h5 <;> omega
  · have b0 := b 0 (by omega); have b1 := b 1 (by omega); have b2 := b 2 (by omega); have b3 := b 3 (by omega)
    simp only [pkU]
    rw [if_pos (show p + 0 < p + 4 by omega), if_pos (show p + 1 < p + 4 by omega), if_pos (show p + 2 < p + 4 by omega), if_pos (show p + 3 < p + 4 by omega), if_neg (show ¬ p + 4 < p + 4 by omega)]
    generalize tx (p + 0) = a0 at *
    generalize tx (p + 1) = a1 at *
    generalize tx (p + 2) = a2 at *
    generalize tx (p + 3) = a3 at *
    clear b hL
    rcases wB_tab hc with ⟨h0, h1, h2, h3, h4, h5⟩ | ⟨h0, h1, h2, h3, h4, h5⟩ | ⟨h0, h1, h2, h3, h4, h5⟩ | ⟨h0, h1, h2, h3, h4, h5⟩ | ⟨h0, h1, h2, h3, h4, h5⟩ | ⟨h0, h1, h2, h3, h4, h5⟩ | ⟨h0, h1, h2, h3, h4, h5⟩ | ⟨h0, h1, h2, h3, h4, h5⟩ | ⟨h0, h1, h2, h3, h4, h5⟩ | ⟨h0, h1, h2, h3, h4, h5⟩ | ⟨h0, h1, h2, h3, h4, h5⟩ | ⟨h0, h1, h2, h3, h4, h5⟩ | ⟨h0, h1, h2, h3, h4, h5⟩ <;> rw [h0, h1, h2, h3, h4, h5] <;> clear h0 h1 h2 h3 h4 h5 <;> omega
  · have b0 := b 0 (by omega); have b1 := b 1 (by omega); have b2 := b 2 (by omega); have b3 := b 3 (by omega); have b4 := b 4 (by omega)
    simp only [pkU]
    rw [if_pos (show p + 0 < p + 5 by omega), if_pos (show p + 1 < p + 5 by omega), if_pos (show p + 2 < p + 5 by omega), if_pos (show p + 3 < p + 5 by omega), if_pos (show p + 4 < p + 5 by omega)]
    generalize tx (p + 0) = a0 at *
    generalize tx (p + 1) = a1 at *
    generalize tx (p + 2) = a2 at *
    generalize tx (p + 3) = a3 at *
    generalize tx (p + 4) = a4 at *
    clear b hL
    rcases wB_tab hc with ⟨h0, h1, h2, h3, h4, h5⟩ | ⟨h0, h1, h2, h3, h4, h5⟩ | ⟨h0, h1, h2, h3, h4, h5⟩ | ⟨h0, h1, h2, h3, h4, h5⟩ | ⟨h0, h1, h2, h3, h4, h5⟩ | ⟨h0, h1, h2, h3, h4, h5⟩ | ⟨h0, h1, h2, h3, h4, h5⟩ | ⟨h0, h1, h2, h3, h4, h5⟩ | ⟨h0, h1, h2, h3, h4, h5⟩ | ⟨h0, h1, h2, h3, h4, h5⟩ | ⟨h0, h1, h2, h3, h4, h5⟩ | ⟨h0, h1, h2, h3, h4, h5⟩ | ⟨h0, h1, h2, h3, h4, h5⟩ <;> rw [h0, h1, h2, h3, h4, h5] <;> clear h0 h1 h2 h3 h4 h5 <;> omega
theorem wK_ex (v : Nat) : (∃ c, c < 13 ∧ wK v = c + 1 ∧ v = wV c) ∨ wK v = 257 := by
  by_cases h0 : v = 6382692
  · exact Or.inl ⟨0, by decide, by unfold wK; rw [if_pos h0], h0⟩
  by_cases h1 : v = 474148660594
  · exact Or.inl ⟨1, by decide, by unfold wK; rw [if_neg h0, if_pos h1], h1⟩
  by_cases h2 : v = 26982
  · exact Or.inl ⟨2, by decide, by unfold wK; rw [if_neg h0, if_neg h1, if_pos h2], h2⟩
  by_cases h3 : v = 28530
  · exact Or.inl ⟨3, by decide, by unfold wK; rw [if_neg h0, if_neg h1, if_neg h2, if_pos h3], h3⟩
  by_cases h4 : v = 6385252
  · exact Or.inl ⟨4, by decide, by unfold wK; rw [if_neg h0, if_neg h1, if_neg h2, if_neg h3, if_pos h4], h4⟩
  by_cases h5 : v = 7237492
  · exact Or.inl ⟨5, by decide, by unfold wK; rw [if_neg h0, if_neg h1, if_neg h2, if_neg h3, if_neg h4, if_pos h5], h5⟩
  by_cases h6 : v = 6840691
  · exact Or.inl ⟨6, by decide, by unfold wK; rw [if_neg h0, if_neg h1, if_neg h2, if_neg h3, if_neg h4, if_neg h5, if_pos h6], h6⟩
  by_cases h7 : v = 427071729268
  · exact Or.inl ⟨7, by decide, by unfold wK; rw [if_neg h0, if_neg h1, if_neg h2, if_neg h3, if_neg h4, if_neg h5, if_neg h6, if_pos h7], h7⟩
  by_cases h8 : v = 448546566771
  · exact Or.inl ⟨8, by decide, by unfold wK; rw [if_neg h0, if_neg h1, if_neg h2, if_neg h3, if_neg h4, if_neg h5, if_neg h6, if_neg h7, if_pos h8], h8⟩
  by_cases h9 : v = 439855772532
  · exact Or.inl ⟨9, by decide, by unfold wK; rw [if_neg h0, if_neg h1, if_neg h2, if_neg h3, if_neg h4, if_neg h5, if_neg h6, if_neg h7, if_neg h8, if_pos h9], h9⟩
  by_cases h10 : v = 1818325876
  · exact Or.inl ⟨10, by decide, by unfold wK; rw [if_neg h0, if_neg h1, if_neg h2, if_neg h3, if_neg h4, if_neg h5, if_neg h6, if_neg h7, if_neg h8, if_neg h9, if_pos h10], h10⟩
  by_cases h11 : v = 1734439027
  · exact Or.inl ⟨11, by decide, by unfold wK; rw [if_neg h0, if_neg h1, if_neg h2, if_neg h3, if_neg h4, if_neg h5, if_neg h6, if_neg h7, if_neg h8, if_neg h9, if_neg h10, if_pos h11], h11⟩
  by_cases h12 : v = 483006772069
  · exact Or.inl ⟨12, by decide, by unfold wK; rw [if_neg h0, if_neg h1, if_neg h2, if_neg h3, if_neg h4, if_neg h5, if_neg h6, if_neg h7, if_neg h8, if_neg h9, if_neg h10, if_neg h11, if_pos h12], h12⟩
  exact Or.inr (by unfold wK; rw [if_neg h0, if_neg h1, if_neg h2, if_neg h3, if_neg h4, if_neg h5, if_neg h6, if_neg h7, if_neg h8, if_neg h9, if_neg h10, if_neg h11, if_neg h12])
theorem wK_of {c : Nat} (hc : c < 13) : wK (wV c) = c + 1 := by
  rcases (by omega : c = 0 ∨ c = 1 ∨ c = 2 ∨ c = 3 ∨ c = 4 ∨ c = 5 ∨ c = 6 ∨ c = 7 ∨ c = 8 ∨ c = 9 ∨ c = 10 ∨ c = 11 ∨ c = 12) with e | e | e | e | e | e | e | e | e | e | e | e | e <;> subst e <;> decide
theorem wK_wV {v c : Nat} (hc : c < 13) : wK v = c + 1 ↔ v = wV c := by
  constructor
  · intro h
    rcases wK_ex v with ⟨c', a, b, e⟩ | e
    · rw [e, show c' = c by omega]
    · omega
  · intro h; rw [h]; exact wK_of hc
