/-! ===== the component: lesson, after, feed ===== -/
theorem clm_old {w : Wd} {x y z l : Nat} (hl : l < w.N) : clm (addLs w x y z) l = clm w l ||| if y < w.to l ∧ w.fr l < z then 2 ^ w.N else 0 := by
  apply Nat.eq_of_testBit_eq
  intro i
  unfold clm
  rw [Nat.testBit_or, mkm_tb, mkm_tb]
  show (decide (i < w.N + 1) && decide (i ≠ l ∧ puh w.fr w.N y l < puh w.to w.N z i ∧ puh w.fr w.N y i < puh w.to w.N z l)) = _
  rw [puh_ne (show l ≠ w.N by omega), puh_ne (show l ≠ w.N by omega)]
  by_cases e : i = w.N
  · subst e
    rw [puh_same, puh_same]
    by_cases hc : y < w.to l ∧ w.fr l < z
    · rw [if_pos hc, Nat.testBit_two_pow_self]
      rw [decide_eq_true (show w.N ≠ l ∧ w.fr l < z ∧ y < w.to l from ⟨by omega, hc.2, hc.1⟩)]; simp
    · rw [if_neg hc, Nat.zero_testBit]
      rw [decide_eq_false (show ¬ (w.N ≠ l ∧ w.fr l < z ∧ y < w.to l) from fun q => hc ⟨q.2.2, q.2.1⟩)]; simp
  · rw [puh_ne e, puh_ne e]
    have h1 : (if y < w.to l ∧ w.fr l < z then 2 ^ w.N else 0).testBit i = false := by
      split
      · rw [Nat.testBit_two_pow]; exact decide_eq_false (fun q => e q.symm)
      · exact Nat.zero_testBit i
    rw [h1, Bool.or_false]
    congr 1
    exact decide_eq_decide.mpr (by omega)
theorem clm_new {w : Wd} {x y z : Nat} : clm (addLs w x y z) w.N = mkm (fun o => decide (y < w.to o ∧ w.fr o < z)) w.N := by
  apply Nat.eq_of_testBit_eq
  intro i
  unfold clm
  rw [mkm_tb, mkm_tb]
  show (decide (i < w.N + 1) && decide (i ≠ w.N ∧ puh w.fr w.N y w.N < puh w.to w.N z i ∧ puh w.fr w.N y i < puh w.to w.N z w.N)) = _
  rw [puh_same, puh_same]
  by_cases e : i = w.N
  · subst e; simp
  · rw [puh_ne e, puh_ne e]
    have h1 : decide (i < w.N + 1) = decide (i < w.N) := decide_eq_decide.mpr (by omega)
    have h2 : decide (i ≠ w.N ∧ y < w.to i ∧ w.fr i < z) = decide (y < w.to i ∧ w.fr i < z) := decide_eq_decide.mpr ⟨fun q => q.2, fun q => ⟨e, q⟩⟩
    rw [h1, h2]
theorem erm_old {w : Wd} (hw : WW w) {x y z l : Nat} : erm (addLs w x y z) l = erm w l := by
  apply Nat.eq_of_testBit_eq
  intro i
  unfold erm
  rw [mkm_tb, mkm_tb]
  show (decide (i < w.N + 1) && (List.range w.A).any (fun k => decide (w.a1 k = l) && decide (w.a2 k = i))) = _
  by_cases e : i = w.N
  · have : (List.range w.A).any (fun k => decide (w.a1 k = l) && decide (w.a2 k = i)) = false := by
      rw [List.any_eq_false]
      intro k hk
      have := (hw.af k (List.mem_range.mp hk)).2
      simp; intro _; omega
    rw [this]; simp
  · have h1 : decide (i < w.N + 1) = decide (i < w.N) := decide_eq_decide.mpr (by omega)
    rw [h1]
theorem erm_top {w : Wd} (hw : WW w) : erm w w.N = 0 := by
  apply Nat.eq_of_testBit_eq
  intro i
  unfold erm
  rw [mkm_tb, Nat.zero_testBit]
  have : (List.range w.A).any (fun k => decide (w.a1 k = w.N) && decide (w.a2 k = i)) = false := by
    rw [List.any_eq_false]
    intro k hk
    have := (hw.af k (List.mem_range.mp hk)).1
    simp; intro _; omega
  rw [this, Bool.and_false]
theorem addLesson_C {d n : Nat} {σ : St} {w : Wd} {a1 a2 a3 : Int32} (hn : FIX ≤ n) (hR : RP σ w) (hw : WW w) : Cn d n M_X6_addLesson md_X6_addLesson [.ref 1, .int a1, .int a2, .int a3] σ (liI (fun v σ' => (lessonG w a1 a2 a3 ∧ v = nI w.N ∧ RP σ' (addLs w (tn a1) (tn a2) (tn a3)) ∧ (∀ q k, ¬ (q = 1 ∧ k = 0) → ¬ (12 ≤ q ∧ q ≤ 15) → gI σ' q k = gI σ q k) ∧ gR σ' = gR σ) ∨ ¬ lessonG w a1 a2 a3 ∧ v = -1 ∧ σ' = σ)) := by
  have hN := hw.N
  have no : ¬ lessonG w a1 a2 a3 → (fun (v : Int32) (σ' : St) => (lessonG w a1 a2 a3 ∧ v = nI w.N ∧ RP σ' (addLs w (tn a1) (tn a2) (tn a3)) ∧ (∀ q k, ¬ (q = 1 ∧ k = 0) → ¬ (12 ≤ q ∧ q ≤ 15) → gI σ' q k = gI σ q k) ∧ gR σ' = gR σ) ∨ ¬ lessonG w a1 a2 a3 ∧ v = -1 ∧ σ' = σ) (-1) σ := fun h => Or.inr ⟨h, rfl, rfl⟩
  have o9 : (9 : Int32).toInt = 9 := by decide
  have o39 : (39 : Int32).toInt = 39 := by decide
  have o40 : (40 : Int32).toInt = 40 := by decide
  have o10 : (10 : Int32).toInt = 10 := by decide
  refine S_X6_addLesson hn ?_
  rw [hR.N]
  refine ⟨fun h => no (fun z => by have := le_ti.mp h; rw [o10, nI_toInt (by omega)] at this; have := z.2.2.2; omega), fun h => ⟨fun h2 => no (fun z => by have := lt0.mp h2; have := z.1.1; omega), fun h2 => ⟨fun h3 => ⟨fun h4 => no (fun z => by have := lt0.mp h4; have := z.2.1.1; omega), fun h4 => ⟨fun h5 => no (fun z => by have := lt_ti.mp h5; rw [o39] at this; have := z.2.1.2; omega), fun h5 => ⟨fun h6 => no (fun z => by have := le_ti.mp h6; have := z.2.2.1.1; omega), fun h6 => ⟨fun h7 => ?_, fun h7 => no (fun z => h7 (le_ti.mpr (by rw [o40]; exact z.2.2.1.2)))⟩⟩⟩⟩, fun h3 => no (fun z => h3 (le_ti.mpr (by rw [o9]; have := z.1.2; omega)))⟩⟩⟩
  have k1 : ¬ _ ≤ _ := fun z => h (le_ti.mpr z)
  rw [o10, nI_toInt (by omega)] at k1
  have k2 : ¬ _ := fun z => h2 (lt0.mpr z)
  have k3 := le_ti.mp h3
  rw [o9] at k3
  have k4 : ¬ _ := fun z => h4 (lt0.mpr z)
  have k5 : ¬ _ < _ := fun z => h5 (lt_ti.mpr z)
  rw [o39] at k5
  have k6 : ¬ _ ≤ _ := fun z => h6 (le_ti.mpr z)
  have k7 := le_ti.mp h7
  rw [o40] at k7
  have hG : lessonG w a1 a2 a3 := ⟨⟨by omega, by omega⟩, ⟨by omega, by omega⟩, ⟨by omega, by omega⟩, by omega⟩
  obtain ⟨x, hx, rfl⟩ := inP_ex (K := 10) (by decide) hG.1
  obtain ⟨y, hy, rfl⟩ := inP_ex (K := 40) (by decide) hG.2.1
  obtain ⟨z, hz, rfl⟩ := inP_ex (a := a3) (K := 41) (by decide) ⟨by omega, by omega⟩
  rw [tn_nI (by omega), tn_nI (by omega), tn_nI (by omega)]
  generalize hQ : (fun (v : Int32) (σ' : St) => (lessonG w (nI x) (nI y) (nI z) ∧ v = nI w.N ∧ RP σ' (addLs w x y z) ∧ (∀ q k, ¬ (q = 1 ∧ k = 0) → ¬ (12 ≤ q ∧ q ≤ 15) → gI σ' q k = gI σ q k) ∧ gR σ' = gR σ) ∨ ¬ lessonG w (nI x) (nI y) (nI z) ∧ v = -1 ∧ σ' = σ) = Q
  obtain ⟨r1, r2, r3, r4, r5, r6⟩ := hR
  have loop : ∀ k, k ≤ w.N → ∀ σ1 : St, (∀ q k, q ≠ 15 → gI σ1 q k = gI σ q k) → gR σ1 = gR σ → (∀ l, l < w.N → gI σ1 15 l = nI (if l < k then clm (addLs w x y z) l else clm w l)) → gI σ1 15 w.N = nI (mkm (fun o => decide (y < w.to o ∧ w.fr o < z)) k) → (∀ l, w.N < l → l < 10 → gI σ1 15 l = 0) → K_X6_addLesson_47 d n σ Q σ1 (nI x) (nI y) (nI z) (nI k) := by
    refine up_ind (N := w.N) ?_ ?_
    · intro σ1 m1 m2 m3 m4 m5
      have e0 : gI σ1 1 0 = nI w.N := by rw [m1 _ _ (by decide)]; exact r1
      refine B_X6_addLesson_47 hn ⟨fun _ => ?_, fun q => absurd (by rw [e0]; exact nI_le (Nat.le_refl _) (by omega)) q⟩
      simp (disch := omega) only [gI_sI_ne, gI_sI_same, e0, nI_clamp, nI_1]
      have hvp : vp_in (nI w.N) 10 := vp_in_nI (by omega) (by decide)
      refine ⟨hvp, hvp, hvp, ?_⟩
      rw [← hQ]
      generalize hτ : sI (sI (sI (sI σ1 12 w.N (nI x)) 13 w.N (nI y)) 14 w.N (nI z)) 1 0 (nI (w.N + 1)) = τ
      have f : ∀ q k, ¬ (q = 1 ∧ k = 0) → ¬ (12 ≤ q ∧ q ≤ 14 ∧ k = w.N) → gI τ q k = gI σ1 q k := fun q k hq h2 => by
        subst hτ; rw [gI_sI_ne (by omega), gI_sI_ne (by omega), gI_sI_ne (by omega), gI_sI_ne (by omega)]
      have f12 : gI τ 12 w.N = nI x := by subst hτ; simp (disch := omega) only [gI_sI_ne, gI_sI_same]
      have f13 : gI τ 13 w.N = nI y := by subst hτ; simp (disch := omega) only [gI_sI_ne, gI_sI_same]
      have f14 : gI τ 14 w.N = nI z := by subst hτ; simp (disch := omega) only [gI_sI_ne, gI_sI_same]
      have f0 : gI τ 1 0 = nI (w.N + 1) := by subst hτ; simp (disch := omega) only [gI_sI_ne, gI_sI_same]
      have fR : gR τ = gR σ := by subst hτ; exact m2
      refine Or.inl ⟨hG, ?_, ⟨f0, ?_, ?_, fun l hl => ?_, fun l hl => ?_, fun l h1 h2 => ?_⟩, fun q k q1 q2 => by rw [f q k q1 (by omega), m1 _ _ (by omega)], fR⟩
      · show nI (w.N + 1) - nI 1 = nI w.N
        rw [nI_sub (by omega)]; congr 1
      · rw [f _ _ (by decide) (by omega), m1 _ _ (by decide)]; exact r2
      · rw [f _ _ (by decide) (by omega), m1 _ _ (by decide)]; exact r3
      · show gI τ 12 l = nI (puh w.pl w.N x l) ∧ gI τ 13 l = nI (puh w.fr w.N y l) ∧ gI τ 14 l = nI (puh w.to w.N z l)
        by_cases e : l = w.N
        · rw [e, puh_same, puh_same, puh_same]; exact ⟨f12, f13, f14⟩
        · rw [puh_ne e, puh_ne e, puh_ne e, f 12 _ (by omega) (by omega), f 13 _ (by omega) (by omega), f 14 _ (by omega) (by omega), m1 12 _ (by decide), m1 13 _ (by decide), m1 14 _ (by decide)]; exact r4 l hl
      · replace hl : l < w.N + 1 := hl
        rw [f 15 _ (by omega) (by omega), f 16 _ (by omega) (by omega), m1 16 _ (by decide)]
        by_cases e : l = w.N
        · rw [e, m4, clm_new, erm_old hw, erm_top hw]
          exact ⟨rfl, (r6 w.N (Nat.le_refl _) (by omega)).2⟩
        · rw [m3 l (by omega), if_pos (by omega), erm_old hw]
          exact ⟨rfl, (r5 l (by omega)).2⟩
      · replace h1 : w.N + 1 ≤ l := h1
        rw [f 15 _ (by omega) (by omega), f 16 _ (by omega) (by omega), m1 16 _ (by decide)]
        exact ⟨m5 l (by omega) h2, (r6 l (by omega) h2).2⟩
    · intro k hk ih σ1 m1 m2 m3 m4 m5
      have e0 : gI σ1 1 0 = nI w.N := by rw [m1 _ _ (by decide)]; exact r1
      have hv : vp_in (nI k) 10 := vp_in_nI (by omega) (by decide)
      have hvN : vp_in (nI w.N) 10 := vp_in_nI (by omega) (by decide)
      have hft := hw.ft k hk
      have e13 : gI σ1 13 k = nI (w.fr k) := by rw [m1 _ _ (by decide)]; exact (r4 k (by omega)).2.1
      have e14 : gI σ1 14 k = nI (w.to k) := by rw [m1 _ _ (by decide)]; exact (r4 k (by omega)).2.2
      have no2 : ¬ (y < w.to k ∧ w.fr k < z) → K_X6_addLesson_47 d n σ Q σ1 (nI x) (nI y) (nI z) (nI (k + 1)) := fun hc => by
        refine ih σ1 m1 m2 (fun l hl => ?_) ?_ m5
        · rw [m3 l hl]
          by_cases e : l = k
          · rw [e, if_neg (by omega), if_pos (by omega), clm_old hk, if_neg hc, Nat.or_zero]
          · have e3 : l < k + 1 ↔ l < k := by omega
            simp only [e3]
        · rw [m4]
          show _ = nI (mkm _ k ||| if decide (y < w.to k ∧ w.fr k < z) = true then 2 ^ k else 0)
          rw [decide_eq_false hc, if_neg (by decide), Nat.or_zero]
      refine B_X6_addLesson_47 hn ⟨fun q => absurd q (by rw [e0]; exact nI_ge hk (by omega)), fun _ => ⟨hv, ?_⟩⟩
      rw [nI_clamp (by omega), e14, e13]
      simp (disch := omega) only [gI_sI_ne, e0, nI_clamp, nI_1]
      rw [shl1 (by omega), shl1 (by omega)]
      refine ⟨fun q => no2 (fun hc => ?_), fun q => ⟨hv, fun q2 => no2 (fun hc => ?_), fun q2 => ⟨hv, hv, hvN, hvN, ?_⟩⟩⟩
      · have := le_ti.mp q
        rw [nI_toInt (by omega), nI_toInt (by omega)] at this
        have := hc.1; omega
      · have := le_ti.mp q2
        rw [nI_toInt (by omega), nI_toInt (by omega)] at this
        have := hc.2; omega
      · have hc : y < w.to k ∧ w.fr k < z := by
          have p1 : ¬ _ ≤ _ := fun u => q (le_ti.mpr u)
          have p2 : ¬ _ ≤ _ := fun u => q2 (le_ti.mpr u)
          rw [nI_toInt (by omega), nI_toInt (by omega)] at p1 p2
          omega
        have a1 := m3 k hk
        rw [if_neg (by omega)] at a1
        rw [a1, m4, nI_or, nI_or]
        refine ih _ (fun q k' hq => by rw [gI_sI_ne (by omega), gI_sI_ne (by omega)]; exact m1 q k' hq) m2 (fun l hl => ?_) ?_ (fun l h1 h2 => by rw [gI_sI_ne (by omega), gI_sI_ne (by omega)]; exact m5 l h1 h2)
        · rw [gI_sI_ne (by omega), gI_sI]
          by_cases e : l = k
          · rw [if_pos ⟨rfl, e⟩, if_pos (by omega), e, clm_old hk, if_pos hc]
          · rw [if_neg (fun z => e z.2), m3 l hl]
            have e3 : l < k + 1 ↔ l < k := by omega
            simp only [e3]
        · rw [gI_sI_same]
          show _ = nI (mkm _ k ||| if decide (y < w.to k ∧ w.fr k < z) = true then 2 ^ k else 0)
          rw [decide_eq_true hc, if_pos rfl]
  exact loop 0 (by omega) σ (fun _ _ _ => rfl) rfl (fun l hl => by rw [if_neg (by omega)]; exact (r5 l hl).1) (r6 w.N (Nat.le_refl _) (by omega)).1 (fun l h1 h2 => (r6 l (by omega) h2).1)
theorem lesson_C {d n : Nat} {σ : St} {w : Wd} {a1 a2 a3 : Int32} (hn : FIX ≤ n) (hd : 2 ≤ d) (hR : RC σ n w) (hw : WW w) : Cn d n M_X11_lesson md_X11_lesson [.ref 0, .int a1, .int a2, .int a3] σ (liI (fun v σ' => v = lessonV w a1 a2 a3 ∧ RC σ' n (lessonW w a1 a2 a3))) := by
  have hN := hw.N
  have hP := hw.P
  refine S_X11_lesson hn (by omega) ⟨_, addLesson_C hn hR.1.1 hw, ?_⟩
  rintro v σ1 (⟨hG, rfl, r1, f, fR⟩ | ⟨hG, rfl, rfl⟩) hf1
  · have hlt := hG.2.2.2
    refine ⟨fun z => absurd z (optI_ne (x := w.N) (by omega)), fun _ => ⟨_, forget_C hn hP (by rw [f _ _ (by decide) (by decide)]; exact hR.1.2.1) (fun j hj => by rw [fR]; exact hR.1.seats j hj), ?_⟩⟩
    rintro σ2 ⟨e1, e2, e3⟩ hf2
    have g : ∀ q k, ¬ (q = 1 ∧ k = 0) → ¬ (12 ≤ q ∧ q ≤ 15) → ¬ (88 ≤ q ∧ (q - 88) % 5 = 0 ∧ k = 5) → gI σ2 q k = gI σ q k := fun q k x y z => by rw [e2 q k z, f q k x y]
    unfold lessonV lessonW
    rw [if_pos hG, if_pos hG]
    exact ⟨rfl, hR.1.renew rfl rfl rfl rfl (r1.fr (fun k _ => e2 _ _ (by omega)) (fun q k x y => e2 _ _ (by omega))) (g _ _ (by decide) (by omega) (by omega)) (by rw [e3, fR]) e1 (fun q k x y => g _ _ (by omega) (by omega) (by omega)), hR.2.1.w rfl rfl (fun q k hq => g _ _ (by omega) (by omega) (by omega)), hR.2.2.mv rfl rfl rfl rfl rfl (fun q k hq => g _ _ (by omega) (by omega) (by omega))⟩
  · refine ⟨fun _ => ?_, fun z => absurd rfl z⟩
    unfold lessonV lessonW
    rw [if_neg hG, if_neg hG]; exact ⟨rfl, hR⟩
theorem erm_bit {w : Wd} {l i : Nat} : (erm w l).testBit i = true ↔ i < w.N ∧ ∃ k, k < w.A ∧ w.a1 k = l ∧ w.a2 k = i := by
  unfold erm
  rw [mkm_tb, Bool.and_eq_true, decide_eq_true_eq, List.any_eq_true]
  constructor
  · rintro ⟨h1, k, hk, hb⟩
    simp at hb
    exact ⟨h1, k, List.mem_range.mp hk, hb.1, hb.2⟩
  · rintro ⟨h1, k, hk, e1, e2⟩
    exact ⟨h1, k, List.mem_range.mpr hk, by simp [e1, e2]⟩
theorem erm_add {w : Wd} {x y l : Nat} (hy : y < w.N) : erm (addAf w x y) l = erm w l ||| if l = x then 2 ^ y else 0 := by
  apply Nat.eq_of_testBit_eq
  intro i
  have h : (erm (addAf w x y) l).testBit i = true ↔ (erm w l).testBit i = true ∨ (l = x ∧ i = y) := by
    rw [erm_bit, erm_bit]
    constructor
    · rintro ⟨h1, k, hk, e1, e2⟩
      replace hk : k < w.A + 1 := hk
      replace e1 : puh w.a1 w.A x k = l := e1
      replace e2 : puh w.a2 w.A y k = i := e2
      by_cases e : k = w.A
      · rw [e, puh_same] at e1 e2; exact Or.inr ⟨e1.symm, e2.symm⟩
      · rw [puh_ne e] at e1 e2; exact Or.inl ⟨h1, k, by omega, e1, e2⟩
    · rintro (⟨h1, k, hk, e1, e2⟩ | ⟨e1, e2⟩)
      · exact ⟨h1, k, by show k < w.A + 1; omega, by show puh w.a1 w.A x k = l; rw [puh_ne (by omega)]; exact e1, by show puh w.a2 w.A y k = i; rw [puh_ne (by omega)]; exact e2⟩
      · exact ⟨by show i < w.N; omega, w.A, by show w.A < w.A + 1; omega, by show puh w.a1 w.A x w.A = l; rw [puh_same]; exact e1.symm, by show puh w.a2 w.A y w.A = i; rw [puh_same]; exact e2.symm⟩
  have h2 : (erm w l ||| if l = x then 2 ^ y else 0).testBit i = true ↔ (erm w l).testBit i = true ∨ (l = x ∧ i = y) := by
    rw [Nat.testBit_or, Bool.or_eq_true]
    by_cases e : l = x
    · rw [if_pos e, Nat.testBit_two_pow, decide_eq_true_eq]
      constructor
      · rintro (q | q)
        · exact Or.inl q
        · exact Or.inr ⟨e, q.symm⟩
      · rintro (q | q)
        · exact Or.inl q
        · exact Or.inr q.2.symm
    · rw [if_neg e, Nat.zero_testBit]
      constructor
      · rintro (q | q)
        · exact Or.inl q
        · cases q
      · rintro (q | q)
        · exact Or.inl q
        · exact absurd q.1 e
  exact Bool.eq_iff_iff.mpr (h.trans h2.symm)
theorem after_C {d n : Nat} {σ : St} {w : Wd} {a1 a2 : Int32} (hn : FIX ≤ n) (hd : 2 ≤ d) (hR : RC σ n w) (hw : WW w) : Cn d n M_X11_after md_X11_after [.ref 0, .int a1, .int a2] σ (liI (fun v σ' => v = afterV w a1 a2 ∧ RC σ' n (afterW w a1 a2))) := by
  have hN := hw.N
  have hP := hw.P
  have hA := hw.A
  have o20 : (20 : Int32).toInt = 20 := by decide
  have addC : Cn (d - 1) n M_X6_addCouple md_X6_addCouple [.ref 1, .int a1, .int a2] σ (liI (fun v σ' => (afterG w a1 a2 ∧ v = nI (w.A + 1) ∧ RP σ' (addAf w (tn a1) (tn a2)) ∧ (∀ q k, ¬ (q = 1 ∧ k = 2) → q ≠ 16 → gI σ' q k = gI σ q k) ∧ gR σ' = gR σ) ∨ ¬ afterG w a1 a2 ∧ v = -1 ∧ σ' = σ)) := by
    have no : ¬ afterG w a1 a2 → (fun (v : Int32) (σ' : St) => (afterG w a1 a2 ∧ v = nI (w.A + 1) ∧ RP σ' (addAf w (tn a1) (tn a2)) ∧ (∀ q k, ¬ (q = 1 ∧ k = 2) → q ≠ 16 → gI σ' q k = gI σ q k) ∧ gR σ' = gR σ) ∨ ¬ afterG w a1 a2 ∧ v = -1 ∧ σ' = σ) (-1) σ := fun h => Or.inr ⟨h, rfl, rfl⟩
    have eA : gI σ 1 2 = nI w.A := hR.1.1.2.2.1
    refine S_X6_addCouple hn (by omega) ⟨fun h => no (fun z => ze.mp h ((hR.1.les hw).mpr z.1.1)), fun h => ⟨fun h2 => no (fun z => ze.mp h2 ((hR.1.les hw).mpr z.1.2.1)), fun h2 => ⟨fun h3 => ⟨fun h4 => no (fun z => by have := le_ti.mp h4; rw [eA, o20, nI_toInt (by omega)] at this; have := z.1.2.2.2; omega), fun h4 => ?_⟩, fun h3 => no (fun z => z.1.2.2.1 h3)⟩⟩⟩
    have g1 := (hR.1.les hw).mp h
    have g2 := (hR.1.les hw).mp h2
    obtain ⟨x, hx, rfl⟩ := inP_ex (by omega) g1
    obtain ⟨y, hy, rfl⟩ := inP_ex (by omega) g2
    have hlt : w.A < 20 := by
      have : ¬ _ ≤ _ := fun z => h4 (le_ti.mpr z)
      rw [eA, o20, nI_toInt (by omega)] at this; omega
    have ex : tn (nI x) = x := tn_nI (by omega)
    have ey : tn (nI y) = y := tn_nI (by omega)
    have hv : vp_in (nI x) 10 := vp_in_nI (by omega) (by decide)
    have herm : erm w x < 2 ^ w.N := mkm_lt _ _
    have hpw := pow10 hN
    have hcond : (erm w x).testBit y = false ↔ ∀ k, k < w.A → ¬ (w.a1 k = x ∧ w.a2 k = y) := by
      constructor
      · intro hb k hk hh
        have := erm_bit.mpr ⟨hy, k, hk, hh.1, hh.2⟩
        rw [hb] at this; cases this
      · intro hh
        cases e : (erm w x).testBit y with
        | false => rfl
        | true =>
          obtain ⟨-, k, hk, e1, e2⟩ := erm_bit.mp e
          exact absurd ⟨e1, e2⟩ (hh k hk)
    rw [nI_clamp (by omega), (hR.1.1.msk x hx).2, cont_zf (by omega) (by omega), shl1 (by omega), nI_or, ex, ey]
    refine ⟨hv, fun hz => ⟨hv, hv, ?_⟩, fun hz => ?_⟩
    · have hG : afterG w (nI x) (nI y) := ⟨⟨g1, g2, h3, hlt⟩, by rw [ex, ey]; exact hcond.mp hz⟩
      rw [gI_sI_same, gI_sI_ne (σ := σ) (by omega), eA, nI_1]
      generalize hτ : sI (sI σ 16 x (nI (erm w x ||| 2 ^ y))) 1 2 (nI (w.A + 1)) = τ
      have f : ∀ q k, ¬ (q = 1 ∧ k = 2) → ¬ (q = 16 ∧ k = x) → gI τ q k = gI σ q k := fun q k h1 h2 => by subst hτ; rw [gI_sI_ne (by omega), gI_sI_ne (by omega)]
      have f16 : gI τ 16 x = nI (erm w x ||| 2 ^ y) := by subst hτ; rw [gI_sI_ne (by omega), gI_sI_same]
      have f2 : gI τ 1 2 = nI (w.A + 1) := by subst hτ; rw [gI_sI_same]
      have fR : gR τ = gR σ := by subst hτ; rfl
      obtain ⟨r1, r2, r3, r4, r5, r6⟩ := hR.1.1
      refine Or.inl ⟨hG, rfl, ⟨?_, ?_, f2, fun l hl => ?_, fun l hl => ?_, fun l h1 h2 => ?_⟩, fun q k q1 q2 => f q k q1 (by omega), fR⟩
      · rw [f _ _ (by decide) (by omega)]; exact r1
      · rw [f _ _ (by decide) (by omega)]; exact r2
      · rw [f 12 _ (by omega) (by omega), f 13 _ (by omega) (by omega), f 14 _ (by omega) (by omega)]; exact r4 l hl
      · rw [f 15 _ (by omega) (by omega), erm_add hy]
        refine ⟨(r5 l hl).1, ?_⟩
        by_cases e : l = x
        · rw [e, f16, if_pos rfl]
        · rw [f 16 _ (by omega) (by omega), if_neg e, Nat.or_zero]; exact (r5 l hl).2
      · replace h1 : w.N ≤ l := h1
        rw [f 15 _ (by omega) (by omega), f 16 _ (by omega) (by omega)]; exact r6 l h1 h2
    · have := no (fun z => hz (hcond.mpr (by have := z.2; rw [ex, ey] at this; exact this)))
      rw [ex, ey] at this; exact this
  refine S_X11_after hn (by omega) ⟨_, addC, ?_⟩
  rintro v σ1 (⟨hG, rfl, r1, f, fR⟩ | ⟨hG, rfl, rfl⟩) hf1
  · have hlt := hG.1.2.2.2
    refine ⟨fun z => absurd z (optI_ne (x := w.A + 1) (by omega)), fun _ => ⟨_, forget_C hn hP (by rw [f _ _ (by decide) (by decide)]; exact hR.1.2.1) (fun j hj => by rw [fR]; exact hR.1.seats j hj), ?_⟩⟩
    rintro σ2 ⟨e1, e2, e3⟩ hf2
    have g : ∀ q k, ¬ (q = 1 ∧ k = 2) → q ≠ 16 → ¬ (88 ≤ q ∧ (q - 88) % 5 = 0 ∧ k = 5) → gI σ2 q k = gI σ q k := fun q k x y z => by rw [e2 q k z, f q k x y]
    unfold afterV afterW
    rw [if_pos hG, if_pos hG]
    exact ⟨rfl, hR.1.renew rfl rfl rfl rfl (r1.fr (fun k _ => e2 _ _ (by omega)) (fun q k x y => e2 _ _ (by omega))) (g _ _ (by decide) (by omega) (by omega)) (by rw [e3, fR]) e1 (fun q k x y => g _ _ (by omega) (by omega) (by omega)), hR.2.1.w rfl rfl (fun q k hq => g _ _ (by omega) (by omega) (by omega)), hR.2.2.mv rfl rfl rfl rfl rfl (fun q k hq => g _ _ (by omega) (by omega) (by omega))⟩
  · refine ⟨fun _ => ?_, fun z => absurd rfl z⟩
    unfold afterV afterW
    rw [if_neg hG, if_neg hG]; exact ⟨rfl, hR⟩
theorem SX.push {σ : St} {n : Nat} {w : Wd} {x : Nat} (h : SX σ n w pdJ id (hdI w)) : SX σ n (pushB w x) pdJ id (hdI w) := by
  obtain ⟨a1, a2, a3, a4⟩ := h
  refine ⟨a1, a2, fun j hj => ?_, a4⟩
  obtain ⟨b1, b2, b3, b4, b5, b6, b7⟩ := a3 j hj
  refine ⟨b1, b2, b3, b4, b5, b6, fun hf => ?_⟩
  rw [law_ext (w := w) (w' := pushB w x) (j := j) rfl rfl rfl rfl rfl rfl rfl rfl rfl rfl, wth_ext (w := w) (w' := pushB w x) (j := j) rfl rfl rfl rfl rfl]
  exact b7 hf
theorem push_RC {σ : St} {n : Nat} {w : Wd} {x : Nat} (hR : RC σ n w) (hT : w.T < 400) : RC (sI (sI σ 19 w.T (nI x)) 4 0 (nI (w.T + 1))) n (pushB w x) := by
  generalize hτ : sI (sI σ 19 w.T (nI x)) 4 0 (nI (w.T + 1)) = τ
  have f : ∀ q k, ¬ (q = 4 ∧ k = 0) → q ≠ 19 → gI τ q k = gI σ q k := fun q k hq h2 => by subst hτ; rw [gI_sI_ne (by omega), gI_sI_ne (by omega)]
  have fR : gR τ = gR σ := by subst hτ; rfl
  obtain ⟨hS, hK, ⟨t1, t2⟩, ⟨t3, t4⟩, t5, t6⟩ := hR
  refine ⟨(hS.fr (hS.1.fr (fun k _ => f _ _ (by omega) (by omega)) (fun q k x y => f _ _ (by omega) (by omega))) (f _ _ (by decide) (by decide)) fR (fun q k hq => f _ _ (by omega) (by omega))).push, hK.w rfl rfl (fun q k hq => f _ _ (by omega) (by omega)), ⟨?_, fun i hi => ?_⟩, ⟨t3, t4.fr (f _ _ (by decide) (by decide)) (fun k => f _ _ (by omega) (by omega))⟩, by rw [f _ _ (by decide) (by decide)]; exact t5, by rw [f _ _ (by decide) (by decide)]; exact t6⟩
  · subst hτ; rw [gI_sI_same]; rfl
  · subst hτ
    replace hi : i < w.T + 1 := hi
    rw [gI_sI_ne (by omega), gI_sI]
    show _ = nI (puh w.tp w.T x i)
    by_cases e : i = w.T
    · rw [if_pos ⟨rfl, e⟩, e, puh_same]
    · rw [if_neg (fun z => e z.2), puh_ne e]; exact t2 i (by omega)
theorem put_C {d n : Nat} {σ : St} {w : Wd} {a : Int32} (hn : FIX ≤ n) (hR : RC σ n w) (hT : w.T + 4 ≤ 400) : Cn d n M_X9_put md_X9_put [.ref 4, .int a] σ (liV (fun σ' => RC σ' n (putW w a))) := by
  have one : ∀ (σ1 : St) (w1 : Wd) (k : Nat), RC σ1 n w1 → w1.T < 400 → k + 8 ≤ 32 → (∀ σ2, RC σ2 n (pushB w1 (byK a k)) → K_X9_put_3 d n σ (fun σ' => RC σ' n (putW w a)) σ2 a (nI k + (-8))) → K_X9_put_3 d n σ (fun σ' => RC σ' n (putW w a)) σ1 a (nI k) := by
    intro σ1 w1 k m hT1 hk h
    have e4 : gI σ1 4 0 = nI w1.T := m.2.2.1.1
    refine B_X9_put_3 hn ⟨fun z => ?_, fun _ => ⟨fun z => ?_, fun _ => ?_⟩⟩
    · have := lt0.mp z
      rw [nI_toInt (by omega)] at this; omega
    · have := le_ti.mp z
      rw [e4, nI_toInt (by omega), show (400 : Int32).toInt = 400 by decide] at this; omega
    · rw [gI_sI_ne (j := 4) (by omega), e4, nI_clamp (by omega), nI_1, shr255 hk]
      exact ⟨vp_in_nI (by omega) (by decide), h _ (push_RC m hT1)⟩
  refine S_X9_put hn ?_
  refine one σ w 24 hR (by omega) (by decide) (fun σ2 m2 => ?_)
  refine one σ2 _ 16 m2 (by show w.T + 1 < 400; omega) (by decide) (fun σ3 m3 => ?_)
  refine one σ3 _ 8 m3 (by show w.T + 1 + 1 < 400; omega) (by decide) (fun σ4 m4 => ?_)
  refine one σ4 _ 0 m4 (by show w.T + 1 + 1 + 1 < 400; omega) (by decide) (fun σ5 m5 => ?_)
  exact B_X9_put_3 hn ⟨fun _ => m5, fun z => absurd (by decide) z⟩
theorem feed_C {d n : Nat} {σ : St} {w : Wd} {a b c e g : Int32} (hn : FIX ≤ n) (hd : 2 ≤ d) (hR : RC σ n w) (hw : WW w) : Cn d n M_X11_feed md_X11_feed [.ref 0, .int a, .int b, .int c, .int e, .int g] σ (liI (fun v σ' => v = feedV w ∧ RC σ' n (feedW w a b c e g))) := by
  have hT := hw.T
  have e20 : (gI σ 4 0 + 20).toInt = w.T + 20 := by
    rw [hR.2.2.1.1, ti_add] <;> rw [nI_toInt (by omega), show (20 : Int32).toInt = 20 by decide] <;> omega
  have e400 : (400 : Int32).toInt = 400 := by decide
  unfold feedV feedW
  refine S_X11_feed hn (by omega) ⟨fun h => ?_, fun h => ?_⟩
  · have h2 := le_ti.mp h
    rw [e20, e400] at h2
    rw [if_pos (by omega), if_pos (by omega)]
    refine ⟨_, put_C hn hR (by omega), fun σ1 m1 _ => ⟨_, put_C hn m1 (by rw [putW_T]; omega), fun σ2 m2 _ => ⟨_, put_C hn m2 (by rw [putW_T, putW_T]; omega), fun σ3 m3 _ => ⟨_, put_C hn m3 (by rw [putW_T, putW_T, putW_T]; omega), fun σ4 m4 _ => ⟨_, put_C hn m4 (by rw [putW_T, putW_T, putW_T, putW_T]; omega), fun σ5 m5 _ => ⟨?_, m5⟩⟩⟩⟩⟩⟩
    rw [m5.2.2.1.1]; rfl
  · have h2 : ¬ _ ≤ _ := fun z => h (le_ti.mpr z)
    rw [e20, e400] at h2
    rw [if_neg (by omega), if_neg (by omega)]; exact ⟨rfl, hR⟩
