/-! ===== the component: its plan, its asker ===== -/
def mkm (f : Nat → Bool) : Nat → Nat
  | 0 => 0
  | o + 1 => mkm f o ||| (if f o = true then 2 ^ o else 0)
theorem mkm_tb (f : Nat → Bool) (N i : Nat) : (mkm f N).testBit i = (decide (i < N) && f i) := by
  induction N with
  | zero => simp [mkm]
  | succ N ih =>
    simp only [mkm, tb_or, ih]
    by_cases hf : f N = true
    · rw [if_pos hf, tb_pow]
      by_cases e : N = i
      · subst e; simp [hf]
      · have : decide (i < N + 1) = decide (i < N) := by simp; omega
        rw [this]; simp [e]
    · rw [if_neg hf]
      by_cases e : N = i
      · subst e; simp [hf]
      · have : decide (i < N + 1) = decide (i < N) := by simp; omega
        rw [this]; simp
theorem mkm_lt (f : Nat → Bool) (N : Nat) : mkm f N < 2 ^ N := lt_of_tb (fun i h => by rw [mkm_tb] at h; simp at h; exact h.1)
def clm (w : Wd) (l : Nat) : Nat := mkm (fun o => decide (o ≠ l ∧ w.fr l < w.to o ∧ w.fr o < w.to l)) w.N
def erm (w : Wd) (l : Nat) : Nat := mkm (fun o => (List.range w.A).any (fun k => decide (w.a1 k = l) && decide (w.a2 k = o))) w.N
/-- the plan keeps the lessons -/
def RP (σ : St) (w : Wd) : Prop := gI σ 1 0 = nI w.N ∧ gI σ 1 1 = nI w.mo ∧ gI σ 1 2 = nI w.A ∧ (∀ l, l < 10 → gI σ 12 l = nI (w.pl l) ∧ gI σ 13 l = nI (w.fr l) ∧ gI σ 14 l = nI (w.to l)) ∧ (∀ l, l < w.N → gI σ 15 l = nI (clm w l) ∧ gI σ 16 l = nI (erm w l)) ∧ ∀ l, w.N ≤ l → l < 10 → gI σ 15 l = 0 ∧ gI σ 16 l = 0
theorem RP.N {σ : St} {w : Wd} (h : RP σ w) : gI σ 1 0 = nI w.N := h.1
theorem RP.mo {σ : St} {w : Wd} (h : RP σ w) : gI σ 1 1 = nI w.mo := h.2.1
theorem RP.les {σ : St} {w : Wd} (h : RP σ w) : ∀ l, l < 10 → gI σ 12 l = nI (w.pl l) ∧ gI σ 13 l = nI (w.fr l) ∧ gI σ 14 l = nI (w.to l) := h.2.2.2.1
theorem RP.msk {σ : St} {w : Wd} (h : RP σ w) : ∀ l, l < w.N → gI σ 15 l = nI (clm w l) ∧ gI σ 16 l = nI (erm w l) := h.2.2.2.2.1
theorem RP.fr {σ σ' : St} {w : Wd} (h : RP σ w) (h1 : ∀ k, k ≤ 2 → gI σ' 1 k = gI σ 1 k) (h2 : ∀ q k, 12 ≤ q → q ≤ 16 → gI σ' q k = gI σ q k) : RP σ' w := by
  obtain ⟨a1, a2, a3, a4, a5, a6⟩ := h
  refine ⟨by rw [h1 0 (by decide)]; exact a1, by rw [h1 1 (by decide)]; exact a2, by rw [h1 2 (by decide)]; exact a3, fun l hl => ?_, fun l hl => ?_, fun l h3 h4 => ?_⟩
  · rw [h2 12 _ (by decide) (by decide), h2 13 _ (by decide) (by decide), h2 14 _ (by decide) (by decide)]; exact a4 l hl
  · rw [h2 15 _ (by decide) (by decide), h2 16 _ (by decide) (by decide)]; exact a5 l hl
  · rw [h2 15 _ (by decide) (by decide), h2 16 _ (by decide) (by decide)]; exact a6 l h3 h4
def okP (m : Md) : Bool := cellFree m 1 0 && (cellFree m 1 1 && (cellFree m 1 2 && (rowFree m 12 && (rowFree m 13 && (rowFree m 14 && (rowFree m 15 && rowFree m 16))))))
theorem RP.st {m : Md} {σ σ' : St} {w : Wd} (h : RP σ w) (hf : Fr m σ σ') (ho : okP m = true) : RP σ' w := by
  simp only [okP, Bool.and_eq_true] at ho
  obtain ⟨o1, o2, o3, o4, o5, o6, o7, o8⟩ := ho
  refine h.fr (fun k hk => ?_) (fun q k a b => ?_)
  · rcases (show k = 0 ∨ k = 1 ∨ k = 2 by omega) with e | e | e <;> subst e
    · exact hf.cell o1
    · exact hf.cell o2
    · exact hf.cell o3
  · rcases (show q = 12 ∨ q = 13 ∨ q = 14 ∨ q = 15 ∨ q = 16 by omega) with e | e | e | e | e <;> subst e
    · exact hf.row o4 k
    · exact hf.row o5 k
    · exact hf.row o6 k
    · exact hf.row o7 k
    · exact hf.row o8 k
/-- nothing of any person may change -/
def noP (m : Md) : Bool := m.2.2.1.isEmpty && (m.2.2.2.isEmpty && (m.1.all (fun q => decide (q < P0)) && m.2.1.all (fun c => decide (c.1 < P0))))
theorem Fr.per {m : Md} {σ σ' : St} (hf : Fr m σ σ') (h : noP m = true) {q : Nat} (hq : P0 ≤ q) (k : Nat) : gI σ' q k = gI σ q k := by
  simp only [noP, Bool.and_eq_true] at h
  obtain ⟨h1, h2, h3, h4⟩ := h
  refine hf.1 q k ?_
  rintro (z | z | z | z)
  · have := of_decide_eq_true (List.all_eq_true.mp h3 _ z); omega
  · have := of_decide_eq_true (List.all_eq_true.mp h4 _ z); simp only at this; omega
  · rw [List.isEmpty_iff.mp h1] at z; simp at z
  · rw [List.isEmpty_iff.mp h2] at z; simp at z
/-- the asker's stack -/
def Stk (σ : St) (s : List Int) : Prop := gI σ 2 4 = nI s.length ∧ ∀ i z, s.reverse[i]? = some z → (gI σ 17 i).toInt = z
theorem push_spec {d n : Nat} {σ : St} {s : List Int} {a : Int32} (hn : FIX ≤ n) (h : Stk σ s) (hl : s.length < 64) : Cn d n M_X0_push md_X0_push [.ref 2, .int a] σ (liV (fun σ' => Stk σ' (a.toInt :: s))) := by
  refine S_X0_push hn ⟨fun _ => ?_, fun h2 => absurd ?_ h2⟩
  · rw [h.1]
    refine ⟨vp_in_nI hl (by decide), ?_, ?_⟩
    · rw [gI_sI_same, gI_sI_ne (by omega), h.1, nI_1]; rfl
    · intro i z hz
      rw [gI_sI_ne (by omega), nI_clamp (by omega)]
      rw [List.reverse_cons, List.getElem?_append] at hz
      by_cases hi : i < s.reverse.length
      · rw [if_pos hi] at hz
        rw [List.length_reverse] at hi
        rw [gI_sI_ne (by omega)]
        exact h.2 i z hz
      · rw [if_neg hi] at hz
        rw [List.length_reverse] at hi hz
        have : i - s.length = 0 := by
          by_cases h0 : i - s.length = 0
          · exact h0
          · rw [show i - s.length = (i - s.length - 1) + 1 by omega] at hz; simp at hz
        have e : i = s.length := by omega
        subst e
        simp at hz
        rw [gI_sI_same]; exact hz
  · rw [h.1]; exact nI_lt (b := 64) hl (by decide)
theorem pop_spec {d n : Nat} {σ : St} {s : List Int} {x : Int} (hn : FIX ≤ n) (h : Stk σ (x :: s)) (hl : s.length < 64) : Cn d n M_X0_pop md_X0_pop [.ref 2] σ (liI (fun v σ' => v.toInt = x ∧ Stk σ' s)) := by
  have e1 : gI σ 2 4 - 1 = nI s.length := by rw [h.1]; exact nI_pred _
  refine S_X0_pop hn ⟨fun _ => ?_, fun h2 => absurd ?_ h2⟩
  · rw [e1, gI_sI_same, gI_sI_ne (by omega), nI_clamp (by omega)]
    refine ⟨vp_in_nI hl (by decide), ?_, ?_, ?_⟩
    · refine h.2 s.length x ?_
      rw [List.reverse_cons, List.getElem?_append_right (by simp)]
      simp
    · rw [gI_sI_same]
    · intro i z hz
      rw [gI_sI_ne (by omega)]
      refine h.2 i z ?_
      rw [List.reverse_cons, List.getElem?_append_left (List.getElem?_eq_some_iff.mp hz).1]
      exact hz
  · rw [h.1]; exact nI_lt (a := 0) (by simp) (by simp; omega)
theorem addIf_spec {d n : Nat} {σ : St} {a v : Int32} {z t : Int} (hn : FIX ≤ n) (hd : 1 ≤ d) (h : (gI σ 2 1).toInt = z) (hz : -1000000 ≤ z ∧ z ≤ 1000000) (hv : v.toInt = t) (ht : -1000000000 ≤ t ∧ t ≤ 1000000000) :
    Cn d n M_X0_addIf md_X0_addIf [.ref 2, .int a, .int v] σ (liV (fun σ' => (gI σ' 2 1).toInt = if a = 0 then z else hlW (z + t))) := by
  refine S_X0_addIf hn hd ⟨fun h0 => ?_, fun h0 => ?_⟩
  · show (gI σ 2 1).toInt = _; rw [if_pos h0]; exact h
  · show (gI (sI σ 2 1 _) 2 1).toInt = _
    rw [gI_sI_same, if_neg h0, mxI_ti, mnI_ti, ti_add (by omega) (by omega), h, hv]; rfl
/-- what joins two values, by the component's numbers -/
def jop (k : Nat) (x y : Int) : Int :=
  if k = 43 then hld (x + y) else if k = 45 then hld (x - y) else if k = 42 then hld (x * y) else if k = 47 then (if y = 0 then 0 else Int.tdiv x y)
  else if k = 60 then (if x < y then 1 else 0) else if k = 62 then (if y < x then 1 else 0) else if k = 61 then (if x = y then 1 else 0)
  else if k = 4 then (if 0 < x + y then 1 else 0) else (if x + y = 2 then 1 else 0)
def jOk (k : Nat) (x y : Int) : Prop := ((k = 43 ∨ k = 45 ∨ k = 42 ∨ k = 47 ∨ k = 60 ∨ k = 62 ∨ k = 61) ∧ -1000000000 ≤ x ∧ x ≤ 1000000000 ∧ -1000000000 ≤ y ∧ y ≤ 1000000000) ∨ ((k = 4 ∨ k = 5) ∧ (x = 0 ∨ x = 1) ∧ (y = 0 ∨ y = 1))
theorem clH {v : Int64} : ((mxL (-1000000000) (mnL 1000000000 v)).toInt32).toInt = hld v.toInt := by
  have h := hld_rng v.toInt
  have e : (mxL (-1000000000) (mnL 1000000000 v)).toInt = hld v.toInt := by rw [mxL_ti, mnL_ti]; rfl
  rw [toI32 (by rw [e]; omega), e]
theorem hld_id {z : Int} (h : -1000000000 ≤ z ∧ z ≤ 1000000000) : hld z = z := by unfold hld; omega
theorem joinTwo_spec {d n k : Nat} {σ : St} {s : List Int} {u v : Int32} {x y : Int} (hn : FIX ≤ n) (hd : 1 ≤ d) (h : Stk σ s) (hl : s.length < 64) (hu : u.toInt = y) (hv : v.toInt = x) (hk : jOk k x y) :
    Cn d n M_X0_joinTwo md_X0_joinTwo [.ref 2, .int (nI k), .int u, .int v] σ (liV (fun σ' => Stk σ' (jop k x y :: s))) := by
  have hkl : k < 2 ^ 31 := by rcases hk with z | z <;> omega
  have e : (nI k).toInt = k := nI_toInt hkl
  have P : ∀ (a : Int64), hld a.toInt = jop k x y → ∃ Q8 : St → Prop, Cn (d - 1) n M_X0_push md_X0_push [.ref 2, .int ((mxL (-1000000000) (mnL 1000000000 a)).toInt32)] σ (liV Q8) ∧ ∀ (σ10 : St), Q8 σ10 → Fr md_X0_push σ σ10 → Stk σ10 (jop k x y :: s) := by
    intro a ha
    refine ⟨_, push_spec hn h hl, ?_⟩
    intro σ10 h10 _
    rw [clH, ha] at h10
    exact h10
  refine S_X0_joinTwo hn hd ?_
  rw [e]
  have one : ∀ (b : Prop) [Decidable b] (a : Int64), (a.toInt = if b then 1 else 0) → jop k x y = (if b then 1 else 0) → hld a.toInt = jop k x y := by
    intro b _ a h1 h2
    rw [h2, h1]; split <;> rfl
  refine ⟨fun h1 => ?_, fun h1 => ?_, fun h1 => ?_, fun h1 => ?_, fun h1 => ?_, fun h1 => ?_, fun h1 => ?_, fun h1 => ?_, fun h1 => ?_⟩
  · have : k = 5 := by omega
    subst this
    rcases hk with z | ⟨-, zx, zy⟩
    · omega
    · refine P _ ?_
      have ev : v = Int32.ofInt x := ii hv
      have eu : u = Int32.ofInt y := ii hu
      rw [ev, eu]
      rcases zx with zx | zx <;> rcases zy with zy | zy <;> subst zx <;> subst zy <;> decide
  · have : k = 42 := by omega
    subst this
    rcases hk with ⟨-, a1, a2, a3, a4⟩ | z
    · have m : (x * y).natAbs ≤ 1000000000 * 1000000000 := by rw [Int.natAbs_mul]; exact Nat.mul_le_mul (by omega) (by omega)
      refine P _ ?_
      rw [tl_mul] <;> rw [l64_ti, l64_ti, hu, hv] <;> first | rfl | omega
    · omega
  · have : k = 43 := by omega
    subst this
    rcases hk with ⟨-, a1, a2, a3, a4⟩ | z
    · refine P _ ?_
      rw [tl_add] <;> rw [l64_ti, l64_ti, hu, hv] <;> first | rfl | omega
    · omega
  · have : k = 45 := by omega
    subst this
    rcases hk with ⟨-, a1, a2, a3, a4⟩ | z
    · refine P _ ?_
      rw [tl_sub] <;> rw [l64_ti, l64_ti, hu, hv] <;> first | rfl | omega
    · omega
  · have : k = 47 := by omega
    subst this
    rcases hk with ⟨-, a1, a2, a3, a4⟩ | z
    · refine ⟨fun h0 => ⟨h0, P _ ?_⟩, fun h0 => P _ ?_⟩
      · have hy : ¬ y = 0 := fun q => h0 (eq_ti.mpr (by rw [hu, q]; rfl))
        have hb := tdiv_rng (x := x) (y := y) ⟨a1, a2⟩
        rw [l64_ti, Int32.toInt_div, Int.bmod_eq_of_le (by rw [hu, hv]; omega) (by rw [hu, hv]; omega), hu, hv, hld_id hb]
        simp [jop, hy]
      · have hy : y = 0 := by rw [← hu, h0]; rfl
        simp [jop, hy]; rfl
    · omega
  · have : k = 60 := by omega
    subst this
    refine ⟨fun h0 => P _ ?_, fun h0 => P _ ?_⟩
    · have := le_ti.mp h0; rw [hu, hv] at this
      simp only [jop, Nat.reduceEqDiff, if_false, if_true]; rw [if_neg (by omega)]; rfl
    · have : ¬ u.toInt ≤ v.toInt := fun q => h0 (le_ti.mpr q); rw [hu, hv] at this
      simp only [jop, Nat.reduceEqDiff, if_false, if_true]; rw [if_pos (by omega)]; rfl
  · have : k = 61 := by omega
    subst this
    refine ⟨fun h0 => P _ ?_, fun h0 => P _ ?_⟩
    · have : ¬ v.toInt = u.toInt := fun q => h0 (eq_ti.mpr q); rw [hu, hv] at this
      simp only [jop, Nat.reduceEqDiff, if_false, if_true]; rw [if_neg this]; rfl
    · have := eq_ti.mp h0; rw [hu, hv] at this
      simp only [jop, Nat.reduceEqDiff, if_false, if_true]; rw [if_pos this]; rfl
  · have : k = 62 := by omega
    subst this
    refine ⟨fun h0 => P _ ?_, fun h0 => P _ ?_⟩
    · have := le_ti.mp h0; rw [hu, hv] at this
      simp only [jop, Nat.reduceEqDiff, if_false, if_true]; rw [if_neg (by omega)]; rfl
    · have : ¬ v.toInt ≤ u.toInt := fun q => h0 (le_ti.mpr q); rw [hu, hv] at this
      simp only [jop, Nat.reduceEqDiff, if_false, if_true]; rw [if_pos (by omega)]; rfl
  · rcases hk with z | ⟨z, zx, zy⟩
    · omega
    · have : k = 4 := by omega
      subst this
      refine P _ ?_
      have ev : v = Int32.ofInt x := ii hv
      have eu : u = Int32.ofInt y := ii hu
      rw [ev, eu]
      rcases zx with zx | zx <;> rcases zy with zy | zy <;> subst zx <;> subst zy <;> decide
