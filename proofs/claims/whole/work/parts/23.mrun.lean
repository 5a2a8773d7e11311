/-! ===== the model asks its wishes ===== -/
theorem hold_nz {b l : Nat} (hb : b < 2 ^ 31) (h : l < 32) (hz : ¬ fn_X12_holds (nI b) (nI l) = 0) : b.testBit l = true := by
  rcases Bool.eq_false_or_eq_true (b.testBit l) with e | e
  · exact e
  · exact absurd ((hold_z hb h).mpr (by simp [e])) hz
theorem cont_nz {b l : Nat} (hb : b < 2 ^ 31) (h : l < 32) (hz : ¬ fn_X11_contains (nI b) (nI l) = 0) : b.testBit l = true := by
  rcases Bool.eq_false_or_eq_true (b.testBit l) with e | e
  · exact e
  · exact absurd ((cont_z hb h).mpr (by simp [e])) hz
theorem le_tl {x y : Int64} : x ≤ y ↔ x.toInt ≤ y.toInt := Int64.le_iff_toInt_le
theorem lt_tl {x y : Int64} : x < y ↔ x.toInt < y.toInt := Int64.lt_iff_toInt_lt
theorem eq_tl {x y : Int64} : x = y ↔ x.toInt = y.toInt := Int64.toInt_inj.symm
theorem tl_add {x y : Int64} (h1 : -2 ^ 63 ≤ x.toInt + y.toInt) (h2 : x.toInt + y.toInt < 2 ^ 63) : (x + y).toInt = x.toInt + y.toInt := by
  rw [Int64.toInt_add]; exact Int.bmod_eq_of_le (by omega) (by omega)
theorem tl_sub {x y : Int64} (h1 : -2 ^ 63 ≤ x.toInt - y.toInt) (h2 : x.toInt - y.toInt < 2 ^ 63) : (x - y).toInt = x.toInt - y.toInt := by
  rw [Int64.toInt_sub]; exact Int.bmod_eq_of_le (by omega) (by omega)
theorem tl_mul {x y : Int64} (h1 : -2 ^ 63 ≤ x.toInt * y.toInt) (h2 : x.toInt * y.toInt < 2 ^ 63) : (x * y).toInt = x.toInt * y.toInt := by
  rw [Int64.toInt_mul]; exact Int.bmod_eq_of_le (by omega) (by omega)
theorem mxL_ti (x y : Int64) : (mxL x y).toInt = max x.toInt y.toInt := by
  unfold mxL
  by_cases h : y < x
  · rw [if_pos h]; have := lt_tl.mp h; omega
  · rw [if_neg h]; have : ¬ y.toInt < x.toInt := fun z => h (lt_tl.mpr z); omega
theorem mnL_ti (x y : Int64) : (mnL x y).toInt = min x.toInt y.toInt := by
  unfold mnL
  by_cases h : y < x
  · rw [if_pos h]; have := lt_tl.mp h; omega
  · rw [if_neg h]; have : ¬ y.toInt < x.toInt := fun z => h (lt_tl.mpr z); omega
theorem held_ti (v : Int64) : (fn_X12_held v).toInt = hld v.toInt := by
  unfold fn_X12_held hld
  rw [mxL_ti, mnL_ti]; rfl
theorem cmp_z {x y : Int64} : lg_cmp x y = 0 ↔ x.toInt = y.toInt := by
  unfold lg_cmp
  simp only [gt_iff_lt, Int64.lt_iff_toInt_lt, ← Int64.toInt_inj]
  repeat' split
  · refine ⟨fun h => absurd h (by decide), fun h => by omega⟩
  · refine ⟨fun _ => by assumption, fun _ => rfl⟩
  · refine ⟨fun h => absurd h (by decide), fun h => absurd h (by assumption)⟩
theorem cmp_ge {x y : Int64} : (0 : Int32) ≤ lg_cmp x y ↔ y.toInt ≤ x.toInt := by rw [lg_cmp_ge, le_tl]
theorem cmp_le {x y : Int64} : lg_cmp x y ≤ 0 ↔ x.toInt ≤ y.toInt := by
  unfold lg_cmp
  simp only [gt_iff_lt, Int64.lt_iff_toInt_lt, ← Int64.toInt_inj]
  repeat' split
  · refine ⟨fun h => absurd h (by decide), fun h => by omega⟩
  · refine ⟨fun _ => by omega, fun _ => by decide⟩
  · refine ⟨fun _ => by omega, fun _ => by decide⟩
def opOk (t : Nat) (x y : Int) : Prop := (3 ≤ t ∧ t ≤ 9 ∧ -1000000000 ≤ x ∧ x ≤ 1000000000 ∧ -1000000000 ≤ y ∧ y ≤ 1000000000) ∨ ((t = 10 ∨ t = 11) ∧ (x = 0 ∨ x = 1) ∧ (y = 0 ∨ y = 1))
theorem both_spec {d n : Nat} {σ : St} {t : Nat} {x y : Int64} (hd : 2 ≤ d) (h : opOk t x.toInt y.toInt) : Cn d n M_X12_both md_X12_both [.int (nI t), .long x, .long y] σ (liL (fun v σ' => v.toInt = bop t x.toInt y.toInt ∧ σ = σ')) := by
  have ht : t < 2 ^ 31 := by rcases h with h | h <;> omega
  have e : (nI t).toInt = t := nI_toInt ht
  have b0 : (fn_X12_bit 0).toInt = 0 := by decide
  have b1 : (fn_X12_bit 1).toInt = 1 := by decide
  have z0 : (0 : Int64).toInt = 0 := by decide
  have z2 : (2 : Int64).toInt = 2 := by decide
  refine S_X12_both hd ?_
  rw [e]
  refine ⟨fun h1 => ?_, fun h1 => ?_, fun h1 => ?_, fun h1 => ?_, fun h1 => ?_, fun h1 => ?_, fun h1 => ?_, fun h1 => ?_, fun h1 => ?_⟩
  · have : t = 3 := by omega
    subst this
    rcases h with h | h
    · refine ⟨?_, rfl⟩; rw [held_ti, tl_add (by omega) (by omega)]; rfl
    · omega
  · have : t = 4 := by omega
    subst this
    rcases h with h | h
    · refine ⟨?_, rfl⟩; rw [held_ti, tl_sub (by omega) (by omega)]; rfl
    · omega
  · have : t = 5 := by omega
    subst this
    rcases h with h | h
    · obtain ⟨-, -, a1, a2, a3, a4⟩ := h
      have m1 : x.toInt * y.toInt ≤ 1000000000 * 1000000000 := by
        have : (x.toInt * y.toInt).natAbs ≤ 1000000000 * 1000000000 := by rw [Int.natAbs_mul]; exact Nat.mul_le_mul (by omega) (by omega)
        omega
      have m2 : -(1000000000 * 1000000000) ≤ x.toInt * y.toInt := by
        have : (x.toInt * y.toInt).natAbs ≤ 1000000000 * 1000000000 := by rw [Int.natAbs_mul]; exact Nat.mul_le_mul (by omega) (by omega)
        omega
      refine ⟨?_, rfl⟩; rw [held_ti, tl_mul (by omega) (by omega)]; rfl
    · omega
  · have : t = 6 := by omega
    subst this
    rcases h with h | h
    · refine ⟨fun hc => ?_, fun hc => ?_⟩
      · have hy : ¬ y.toInt = 0 := fun z => hc (cmp_z.mpr (by rw [z0]; exact z))
        refine ⟨fun z => hy (by rw [z]; rfl), ?_, rfl⟩
        have hb : (Int.tdiv x.toInt y.toInt).natAbs ≤ 1000000000 := by
          rw [Int.natAbs_tdiv]; exact Nat.le_trans (Nat.div_le_self _ _) (by omega)
        rw [Int64.toInt_div, Int.bmod_eq_of_le (by omega) (by omega)]
        simp [bop, hy]
      · have hy : y.toInt = 0 := by have := cmp_z.mp hc; rw [z0] at this; exact this
        refine ⟨?_, rfl⟩
        simp [bop, hy]
    · omega
  · have : t = 7 := by omega
    subst this
    refine ⟨fun hc => ⟨?_, rfl⟩, fun hc => ⟨?_, rfl⟩⟩
    · have := cmp_ge.mp hc; rw [b0]; simp [bop]; omega
    · have : ¬ y.toInt ≤ x.toInt := fun z => hc (cmp_ge.mpr z); rw [b1]; simp [bop]; omega
  · have : t = 8 := by omega
    subst this
    refine ⟨fun hc => ⟨?_, rfl⟩, fun hc => ⟨?_, rfl⟩⟩
    · have := cmp_le.mp hc; rw [b0]; simp [bop]; omega
    · have : ¬ x.toInt ≤ y.toInt := fun z => hc (cmp_le.mpr z); rw [b1]; simp [bop]; omega
  · have : t = 9 := by omega
    subst this
    refine ⟨fun hc => ⟨?_, rfl⟩, fun hc => ⟨?_, rfl⟩⟩
    · have : ¬ x.toInt = y.toInt := fun z => hc (cmp_z.mpr z); rw [b0]; simp [bop, this]
    · have := cmp_z.mp hc; rw [b1]; simp [bop, this]
  · have : t = 10 := by omega
    subst this
    rcases h with h | h
    · omega
    · have ha : (x + y).toInt = x.toInt + y.toInt := tl_add (by omega) (by omega)
      refine ⟨fun hc => ⟨?_, rfl⟩, fun hc => ⟨?_, rfl⟩⟩
      · have := cmp_le.mp hc; rw [ha, z0] at this; rw [b0]; simp [bop]; omega
      · have : ¬ (x + y).toInt ≤ (0 : Int64).toInt := fun z => hc (cmp_le.mpr z); rw [ha, z0] at this; rw [b1]; simp [bop]; omega
  · have : t = 11 := by rcases h with h | h <;> omega
    subst this
    rcases h with h | h
    · omega
    · have ha : (x + y).toInt = x.toInt + y.toInt := tl_add (by omega) (by omega)
      refine ⟨fun hc => ⟨?_, rfl⟩, fun hc => ⟨?_, rfl⟩⟩
      · have : ¬ (x + y).toInt = (2 : Int64).toInt := fun z => hc (cmp_z.mpr z); rw [ha, z2] at this; rw [b0]; simp [bop, this]
      · have := cmp_z.mp hc; rw [ha, z2] at this; rw [b1]; simp [bop, this]

/-- the pile holds a stack: its top is the list's head -/
def Pile (σ : St) (s : List Int) : Prop := ∀ i z, s.reverse[i]? = some z → (gL σ 57 i).toInt = z
theorem VS_len : ∀ {ts : List Bool} {s : List Int}, VS ts s → ts.length = s.length
  | [], [], _ => rfl
  | [], _ :: _, h => by simp [VS] at h
  | _ :: _, [], h => by simp [VS] at h
  | _ :: ts, _ :: s, h => by simp [VS_len h.2]
theorem hld_rng (z : Int) : -1000000000 ≤ hld z ∧ hld z ≤ 1000000000 := by unfold hld; omega
theorem tdiv_rng {x y : Int} (h : -1000000000 ≤ x ∧ x ≤ 1000000000) : -1000000000 ≤ Int.tdiv x y ∧ Int.tdiv x y ≤ 1000000000 := by
  have : (Int.tdiv x y).natAbs ≤ 1000000000 := by rw [Int.natAbs_tdiv]; exact Nat.le_trans (Nat.div_le_self _ _) (by omega)
  omega
theorem bop_num {t : Nat} {x y : Int} (ht : t = 3 ∨ t = 4 ∨ t = 5 ∨ t = 6) (h : -1000000000 ≤ x ∧ x ≤ 1000000000) : -1000000000 ≤ bop t x y ∧ bop t x y ≤ 1000000000 := by
  rcases ht with e | e | e | e <;> subst e <;> simp only [bop]
  · exact hld_rng _
  · exact hld_rng _
  · exact hld_rng _
  · simp only [Nat.reduceEqDiff, if_false, if_true]
    split
    · omega
    · exact tdiv_rng h
theorem bop_bool {t : Nat} {x y : Int} (ht : t = 7 ∨ t = 8 ∨ t = 9 ∨ t = 10 ∨ t = 11) : bop t x y = 0 ∨ bop t x y = 1 := by
  rcases ht with e | e | e | e | e <;> subst e <;> simp only [bop, Nat.reduceEqDiff, if_false, if_true] <;> split <;> simp
/-- one step keeps the types -/
theorem tc_step {B : Nat} {g : Nat → Int} {b : Nat} {o : Op} {ts us : List Bool} {s : List Int} (hg : ∀ k, -1000000 ≤ g k ∧ g k ≤ 1000000) (hv : VS ts s) (h : tcO B o ts = some us) : VS us (op1 g b o s) := by
  obtain ⟨t, a⟩ := o
  unfold tcO at h
  simp only at h
  by_cases h0 : t = 0
  · subst h0
    simp only [if_true] at h
    split at h
    · cases h
      simp only [op1, if_true, VS]
      refine ⟨?_, hv⟩
      simp only [okT, if_true]; omega
    · cases h
  · by_cases h1 : t = 1
    · subst h1
      simp only [Nat.one_ne_zero, if_false, if_true] at h
      split at h
      · cases h
        simp only [op1, Nat.one_ne_zero, if_false, if_true, VS]
        refine ⟨?_, hv⟩
        have := hg a
        simp only [okT, if_true]; omega
      · cases h
    · by_cases h2 : t = 2
      · subst h2
        simp only [show ¬ (2 : Nat) = 0 from by decide, show ¬ (2 : Nat) = 1 from by decide, if_false, if_true] at h
        split at h
        · cases h
          simp only [op1, show ¬ (2 : Nat) = 0 from by decide, show ¬ (2 : Nat) = 1 from by decide, if_false, if_true, VS]
          refine ⟨?_, hv⟩
          simp only [okT, if_true]; split <;> omega
        · cases h
      · simp only [h0, h1, h2, if_false] at h
        by_cases h12 : t = 12
        · subst h12
          simp only [if_true] at h
          match ts, s, hv, h with
          | false :: ts, x :: s, hv, h =>
            cases h
            simp only [op1, h0, h1, h2, if_false, if_true, VS]
            refine ⟨?_, hv.2⟩
            have := hv.1
            simp only [okT] at this ⊢
            simp at this ⊢
            omega
          | true :: ts, x :: s, hv, h => cases h
          | [], [], hv, h => cases h
        · simp only [h12, if_false] at h
          have hop : op1 g b (t, a) s = (match (generalizing := false) s with
            | y :: x :: r => bop t x y :: r
            | s => s) := by
            simp only [op1, h0, h1, h2, h12, if_false] <;>
              (rcases s with _ | ⟨y, _ | ⟨x, r⟩⟩ <;> rfl)
          rw [hop]
          by_cases hA : t = 10 ∨ t = 11
          · rw [if_pos hA] at h
            match ts, s, hv, h with
            | false :: false :: ts, y :: x :: s, hv, h =>
              cases h
              refine ⟨?_, hv.2.2⟩
              simpa [okT] using bop_bool (x := x) (y := y) (by omega)
            | [], [], hv, h => cases h
            | [a], [b], hv, h => cases a <;> cases h
            | true :: _ :: _, _ :: _ :: _, hv, h => cases h
            | false :: true :: _, _ :: _ :: _, hv, h => cases h
          · rw [if_neg hA] at h
            by_cases hB : t = 3 ∨ t = 4 ∨ t = 5 ∨ t = 6
            · rw [if_pos hB] at h
              match ts, s, hv, h with
              | true :: true :: ts, y :: x :: s, hv, h =>
                cases h
                refine ⟨?_, hv.2.2⟩
                have := hv.2.1
                simp only [okT, if_true] at this ⊢
                exact bop_num hB this
              | [], [], hv, h => cases h
              | [a], [b], hv, h => cases a <;> cases h
              | false :: _ :: _, _ :: _ :: _, hv, h => cases h
              | true :: false :: _, _ :: _ :: _, hv, h => cases h
            · rw [if_neg hB] at h
              by_cases hC : t = 7 ∨ t = 8 ∨ t = 9
              · rw [if_pos hC] at h
                match ts, s, hv, h with
                | true :: true :: ts, y :: x :: s, hv, h =>
                  cases h
                  refine ⟨?_, hv.2.2⟩
                  simpa [okT] using bop_bool (x := x) (y := y) (by omega)
                | [], [], hv, h => cases h
                | [a], [b], hv, h => cases a <;> cases h
                | false :: _ :: _, _ :: _ :: _, hv, h => cases h
                | true :: false :: _, _ :: _ :: _, hv, h => cases h
              · rw [if_neg hC] at h; cases h
theorem tc_all {B : Nat} {g : Nat → Int} {b : Nat} (hg : ∀ k, -1000000 ≤ g k ∧ g k ≤ 1000000) : ∀ {ops : List Op} {ts us : List Bool} {s : List Int}, VS ts s → tcL B ops ts = some us → VS us (evl g b ops s)
  | [], ts, us, s, hv, h => by cases h; exact hv
  | o :: os, ts, us, s, hv, h => by
    simp only [tcL] at h
    cases ho : tcO B o ts with
    | none => rw [ho] at h; cases h
    | some vs =>
      rw [ho] at h
      exact tc_all hg (ops := os) (tc_step hg hv ho) h

theorem tcO_len {B : Nat} {o : Op} {ts us : List Bool} (h : tcO B o ts = some us) (hl : ts.length ≤ B) : us.length ≤ B := by
  obtain ⟨t, a⟩ := o
  unfold tcO at h
  simp only at h
  repeat' split at h
  all_goals first
    | (cases h; done)
    | (cases h; simp at hl ⊢; omega)
theorem op_len {B : Nat} {g : Nat → Int} {b : Nat} {o : Op} {ts us : List Bool} {s : List Int} (hg : ∀ k, -1000000 ≤ g k ∧ g k ≤ 1000000) (hv : VS ts s) (h : tcO B o ts = some us) : us.length = (op1 g b o s).length := VS_len (tc_step hg hv h)
/-- what a segment of the model's code holds -/
def Seg (σ : St) (p : Nat) (ops : List Op) : Prop := ∀ i o, ops[i]? = some o → gI σ 55 (p + i) = nI o.1 ∧ gI σ 56 (p + i) = nI o.2
theorem Seg.tail {σ : St} {p : Nat} {o : Op} {ops : List Op} (h : Seg σ p (o :: ops)) : Seg σ (p + 1) ops := by
  intro i x hx
  have := h (i + 1) x (by simpa using hx)
  rw [show p + (i + 1) = p + 1 + i by omega] at this
  exact this
theorem Pile_push {σ : St} {s : List Int} {v : Int64} (h : Pile σ s) : Pile (sL σ 57 s.length v) (v.toInt :: s) := by
  intro i z hz
  rw [List.reverse_cons, List.getElem?_append] at hz
  by_cases hi : i < s.reverse.length
  · rw [if_pos hi] at hz
    rw [List.length_reverse] at hi
    rw [gL_sL, if_neg (by omega)]
    exact h i z hz
  · rw [if_neg hi] at hz
    rw [List.length_reverse] at hi hz
    have : i - s.length = 0 := by
      by_cases h0 : i - s.length = 0
      · exact h0
      · rw [show i - s.length = (i - s.length - 1) + 1 by omega] at hz; simp at hz
    have e : i = s.length := by omega
    subst e
    simp at hz
    rw [gL_sL, if_pos ⟨rfl, rfl⟩]; exact hz
theorem Pile_pop {σ : St} {x : Int} {s : List Int} (h : Pile σ (x :: s)) : Pile σ s := by
  intro i z hz
  refine h i z ?_
  rw [List.reverse_cons, List.getElem?_append_left (List.getElem?_eq_some_iff.mp hz).1]
  exact hz
theorem Pile_top {σ : St} {x : Int} {s : List Int} (h : Pile σ (x :: s)) : (gL σ 57 s.length).toInt = x := by
  refine h s.length x ?_
  rw [List.reverse_cons, List.getElem?_append_right (by simp)]
  simp
theorem Pile_bot {σ : St} {x : Int} (h : Pile σ [x]) : (gL σ 57 0).toInt = x := Pile_top (s := []) h
theorem sL_58 {σ : St} {w : Wd} {j b k : Nat} {v : Int64} (h : Wrds σ w j b) : Wrds (sL σ 57 k v) w j b := by
  intro i hi
  rw [gL_sL, if_neg (by omega)]; exact h i hi
theorem tag_lt {B : Nat} {o : Op} {ts us : List Bool} (h : tcO B o ts = some us) : o.1 ≤ 12 := by
  unfold tcO at h
  repeat' split at h
  all_goals first
    | (cases h; done)
    | omega
theorem bin_shape {B t a : Nat} {ts us : List Bool} {s : List Int} (h3 : 3 ≤ t) (h11 : t ≤ 11) (h : tcO B (t, a) ts = some us) (hv : VS ts s) : ∃ y x r, s = y :: x :: r ∧ opOk t x y := by
  unfold tcO at h
  simp only [show ¬ t = 0 by omega, show ¬ t = 1 by omega, show ¬ t = 2 by omega, show ¬ t = 12 by omega, if_false] at h
  by_cases hA : t = 10 ∨ t = 11
  · rw [if_pos hA] at h
    match ts, s, hv, h with
    | false :: false :: ts, y :: x :: s, hv, h =>
      refine ⟨y, x, s, rfl, Or.inr ⟨hA, ?_, ?_⟩⟩
      · simpa [okT] using hv.2.1
      · simpa [okT] using hv.1
    | [], [], hv, h => cases h
    | [a], [b], hv, h => cases a <;> cases h
    | true :: _ :: _, _ :: _ :: _, hv, h => cases h
    | false :: true :: _, _ :: _ :: _, hv, h => cases h
  · rw [if_neg hA] at h
    by_cases hB : t = 3 ∨ t = 4 ∨ t = 5 ∨ t = 6
    · rw [if_pos hB] at h
      match ts, s, hv, h with
      | true :: true :: ts, y :: x :: s, hv, h =>
        have h1 := hv.1
        have h2 := hv.2.1
        simp only [okT, if_true] at h1 h2
        exact ⟨y, x, s, rfl, Or.inl ⟨h3, by omega, h2.1, h2.2, h1.1, h1.2⟩⟩
      | [], [], hv, h => cases h
      | [a], [b], hv, h => cases a <;> cases h
      | false :: _ :: _, _ :: _ :: _, hv, h => cases h
      | true :: false :: _, _ :: _ :: _, hv, h => cases h
    · rw [if_neg hB, if_pos (by omega)] at h
      match ts, s, hv, h with
      | true :: true :: ts, y :: x :: s, hv, h =>
        have h1 := hv.1
        have h2 := hv.2.1
        simp only [okT, if_true] at h1 h2
        exact ⟨y, x, s, rfl, Or.inl ⟨h3, by omega, h2.1, h2.2, h1.1, h1.2⟩⟩
      | [], [], hv, h => cases h
      | [a], [b], hv, h => cases a <;> cases h
      | false :: _ :: _, _ :: _ :: _, hv, h => cases h
      | true :: false :: _, _ :: _ :: _, hv, h => cases h
theorem not_shape {B a : Nat} {ts us : List Bool} {s : List Int} (h : tcO B (12, a) ts = some us) (hv : VS ts s) : ∃ x r, s = x :: r ∧ (x = 0 ∨ x = 1) := by
  unfold tcO at h
  simp at h
  match ts, s, hv, h with
  | false :: ts, x :: s, hv, h => exact ⟨x, s, rfl, by simpa [okT] using hv.1⟩
  | true :: ts, x :: s, hv, h => cases h
  | [], [], hv, h => cases h
theorem room_shape {B t a : Nat} {ts us : List Bool} (h2 : t ≤ 2) (h : tcO B (t, a) ts = some us) : ts.length < B := by
  unfold tcO at h
  rcases (show t = 0 ∨ t = 1 ∨ t = 2 by omega) with e | e | e <;> subst e <;> simp at h <;> exact h.1.2
theorem runs_loop {d n : Nat} {σ0 : St} {w : Wd} {j b last : Nat} {Q : Int64 → St → Prop} (hn : FIX ≤ n) (hd : 3 ≤ d) (hw : WW w) (hb : b < 1024) : ∀ (ops : List Op) (p : Nat) (s : List Int) (ts us : List Bool) (σ : St), Seg σ p ops → p + ops.length = last → last ≤ 5000 → tcL 40 ops ts = some us → ts.length ≤ 40 → VS ts s → Pile σ s → Wrds σ w j b →
    (∀ σ', Pile σ' (evl (wrd w j b) b ops s) → Wrds σ' w j b → Q (gL σ' 57 0) σ') → K_X12_runs_6 d n σ0 Q σ (nI last) (nI b) (nI s.length) (nI p) := by
  intro ops
  induction ops with
  | nil =>
    intro p s ts us σ hseg hp hl _ _ _ hP hW hQ
    have : p = last := by simpa using hp
    subst this
    exact B_X12_runs_6 hn (by omega) ⟨fun _ => hQ σ hP hW, fun h => absurd (nI_le (Nat.le_refl _) (by omega)) h⟩
  | cons o os ih =>
    intro p s ts us σ hseg hp hl htc htl hv hP hW hQ
    have hp' : p + 1 + os.length = last := by simp at hp; omega
    have hpl : p < last := by omega
    have hvp : vp_in (nI p) 5000 := vp_in_nI (by omega) (by decide)
    obtain ⟨g1, g2⟩ := hseg 0 o rfl
    simp only [Nat.add_zero] at g1 g2
    simp only [tcL] at htc
    have hsl := VS_len hv
    cases ho : tcO 40 o ts with
    | none => rw [ho] at htc; cases htc
    | some vs =>
      rw [ho] at htc
      have htc : tcL 40 os vs = some us := htc
      have htg := tag_lt ho
      have hvs : VS vs (op1 (wrd w j b) b o s) := tc_step (fun k => wrd_rng hw) hv ho
      have hvl : vs.length ≤ 40 := tcO_len ho htl
      have hQ' : ∀ σ', Pile σ' (evl (wrd w j b) b os (op1 (wrd w j b) b o s)) → Wrds σ' w j b → Q (gL σ' 57 0) σ' := hQ
      refine B_X12_runs_6 hn (by omega) ⟨fun h => absurd h (nI_ge hpl (by omega)), fun _ => ⟨hvp, ?_⟩⟩
      rw [nI_clamp (by omega), g1, g2]
      obtain ⟨t, a⟩ := o
      simp only at g1 g2 htg ⊢
      refine ⟨fun h2 => ?_, fun h2 => ?_⟩
      · have h2' : 2 < t := (nI_ltI (a := 2) (by decide) (by omega)).mp h2
        refine ⟨fun h12 => ?_, fun h12 => ?_⟩
        · have h12' : t ≠ 12 := fun e => h12 (by rw [e]; rfl)
          obtain ⟨y, x, r, rfl, hop⟩ := bin_shape (by omega) (by omega) ho hv
          have e1 : nI (y :: x :: r).length + (-1) = nI (r.length + 1) := pk_m1 _
          have e2 : nI (r.length + 1) - 1 = nI r.length := nI_pred _
          have hrl : r.length + 2 ≤ 40 := by simp at hsl; omega
          rw [e1, e2, nI_clamp (by omega), nI_clamp (by omega)]
          have hy : (gL σ 57 (r.length + 1)).toInt = y := Pile_top (s := x :: r) hP
          have hx : (gL σ 57 r.length).toInt = x := Pile_top (Pile_pop hP)
          refine ⟨vp_in_nI (by omega) (by decide), vp_in_nI (by omega) (by decide), _, both_spec (by omega) (by rw [hx, hy]; exact hop), ?_⟩
          rintro v σ6 ⟨hv6, rfl⟩ _
          refine ⟨vp_in_nI (by omega) (by decide), ?_⟩
          have hop1 : op1 (wrd w j b) b (t, a) (y :: x :: r) = bop t x y :: r := by
            simp only [op1, show ¬ t = 0 by omega, show ¬ t = 1 by omega, show ¬ t = 2 by omega, h12', if_false]
          rw [hop1] at hvs hQ'
          rw [hx, hy] at hv6
          have hPn := Pile_push (v := v) (Pile_pop (Pile_pop hP))
          rw [hv6] at hPn
          rw [nI_1]
          have := ih (p + 1) (bop t x y :: r) vs us (sL σ 57 r.length v) (fun i o hi => hseg.tail i o hi) hp' hl htc hvl hvs hPn (sL_58 hW) hQ'
          exact this
        · have h12' : t = 12 := (nI_eq (b := 12) (by omega) (by decide)).mp h12
          subst h12'
          obtain ⟨x, r, rfl, hx01⟩ := not_shape ho hv
          have e2 : nI (x :: r).length - 1 = nI r.length := nI_pred _
          have hrl : r.length + 1 ≤ 40 := by simp at hsl; omega
          rw [e2, nI_clamp (by omega)]
          have hx : (gL σ 57 r.length).toInt = x := Pile_top hP
          refine ⟨vp_in_nI (by omega) (by decide), vp_in_nI (by omega) (by decide), ?_⟩
          have hop1 : op1 (wrd w j b) b (12, a) (x :: r) = (1 - x) :: r := by simp [op1]
          rw [hop1] at hvs hQ'
          have e3 : (1 - gL σ 57 r.length).toInt = 1 - x := by
            have o1 : (1 : Int64).toInt = 1 := by decide
            rw [tl_sub] <;> rw [hx, o1] <;> omega
          have hPn := Pile_push (v := 1 - gL σ 57 r.length) (Pile_pop hP)
          rw [e3] at hPn
          rw [nI_1]
          exact ih (p + 1) ((1 - x) :: r) vs us (sL σ 57 r.length (1 - gL σ 57 r.length)) (fun i o hi => hseg.tail i o hi) hp' hl htc hvl hvs hPn (sL_58 hW) hQ'
      · have h2' : t ≤ 2 := by
          rcases Nat.lt_or_ge 2 t with q | q
          · exact absurd ((nI_ltI (a := 2) (by decide) (by omega)).mpr q) h2
          · exact q
        have hrm := room_shape h2' ho
        have hsl40 : s.length < 40 := by omega
        have hvs64 : vp_in (nI s.length) 64 := vp_in_nI (by omega) (by decide)
        have push : ∀ (v : Int64), op1 (wrd w j b) b (t, a) s = v.toInt :: s → K_X12_runs_6 d n σ0 Q (sL σ 57 s.length v) (nI last) (nI b) (nI s.length + 1) (nI p + 1) := by
          intro v hop1
          rw [hop1] at hvs hQ'
          rw [nI_1, nI_1]
          exact ih (p + 1) (v.toInt :: s) vs us (sL σ 57 s.length v) (fun i o hi => hseg.tail i o hi) hp' hl htc hvl hvs (Pile_push hP) (sL_58 hW) hQ'
        refine ⟨fun h0 => ?_, fun h0 => ?_⟩
        · have h0' : t ≠ 0 := fun e => h0 (by rw [e]; rfl)
          refine ⟨fun h1 => ?_, fun h1 => ?_⟩
          · have h1' : t ≠ 1 := fun e => h1 (by rw [e]; rfl)
            have ht2 : t = 2 := by omega
            subst ht2
            have ha : a < 10 := by
              unfold tcO at ho
              simp at ho
              exact ho.1.1
            refine ⟨hvp, hvs64, ?_⟩
            rw [nI_clamp (by omega)]
            refine push _ ?_
            rw [hold_nI (by omega) (by omega)]
            by_cases ht : b.testBit a = true
            · simp only [op1, ht, if_true]; rfl
            · simp only [op1, ht]; rfl
          · have h1' : t = 1 := (nI_eq (b := 1) (by omega) (by decide)).mp h1
            subst h1'
            have ha : a < 6 := by
              unfold tcO at ho
              simp at ho
              exact ho.1.1
            refine ⟨hvp, vp_in_nI (by omega) (by decide), hvs64, ?_⟩
            rw [nI_clamp (by omega), nI_clamp (by omega)]
            refine push _ ?_
            rw [hW a ha]; rfl
        · have h0' : t = 0 := (nI_eq (b := 0) (by omega) (by decide)).mp h0
          subst h0'
          have ha : a ≤ 99999 := by
            unfold tcO at ho
            simp at ho
            exact ho.1.1
          refine ⟨hvp, hvs64, ?_⟩
          rw [nI_clamp (by omega)]
          refine push _ ?_
          rw [l64_ti, nI_toInt (by omega)]; rfl
/-- a run of a segment: its one value -/
theorem runs_spec {d n : Nat} {σ : St} {w : Wd} {j b p : Nat} {ops : List Op} {t : Bool} (hn : FIX ≤ n) (hd : 3 ≤ d) (hw : WW w) (hb : b < 1024) (hs : Seg σ p ops) (hl : p + ops.length ≤ 5000) (ht : tcL 40 ops [] = some [t]) (hW : Wrds σ w j b) :
    Cn d n M_X12_runs md_X12_runs [.ref 11, .int (nI p), .int (nI (p + ops.length)), .int (nI b)] σ (liL (fun v σ' => v.toInt = topv (evl (wrd w j b) b ops []) ∧ Wrds σ' w j b)) := by
  refine S_X12_runs hn (by omega) ?_
  refine runs_loop hn hd hw hb ops p [] [] [t] σ hs rfl hl ht (by decide) trivial (fun i z h => by simp at h) hW ?_
  intro σ' hP hW'
  have hv := tc_all (g := wrd w j b) (b := b) (fun k => wrd_rng hw) (ts := []) (s := []) trivial ht
  match hE : evl (wrd w j b) b ops [], hv, hP with
  | [x], hv, hP => exact ⟨by rw [Pile_bot hP]; rfl, hW'⟩
