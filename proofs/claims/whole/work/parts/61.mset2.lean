/-! ===== the model: what is told to it, more ===== -/
theorem give_M {d n : Nat} {σ : St} {w : Wd} {a1 a2 : Int32} (hn : FIX ≤ n) (hd : 2 ≤ d) (hM : MG σ w) (hw : WW w) : Cn d n M_X12_give md_X12_give [.ref 11, .int a1, .int a2] σ (liI (fun v σ' => v = giveV w a1 a2 ∧ MG σ' (giveW w a1 a2))) := by
  have hN := hw.N
  have hP := hw.P
  have hpw := pow10 hN
  have no : ¬ (inP a1 w.P ∧ inP a2 (2 ^ w.N)) → (fun (v : Int32) (σ' : St) => v = giveV w a1 a2 ∧ MG σ' (giveW w a1 a2)) 0 σ := fun h => by
    unfold giveV giveW; rw [if_neg h, if_neg h]; exact ⟨rfl, hM⟩
  refine S_X12_give hn (by omega) ⟨fun h => no (fun z => ze.mp h ((pers_in hM.1 hw).mpr z.1)), fun h => ⟨fun h2 => no (fun z => ze.mp h2 (bund_in.mpr ⟨z.2.1, by have := z.2.2; omega⟩)), fun h2 => ?_⟩⟩
  have g1 := (pers_in hM.1 hw).mp h
  have g2 := bund_in.mp h2
  obtain ⟨p, hp, rfl⟩ := inP_ex (by omega) g1
  obtain ⟨x, hx, rfl⟩ := inP_ex (by decide) g2
  rw [hM.1.N, shrN (by omega) (by omega)]
  have hq : x / 2 ^ w.N ≤ x := Nat.div_le_self _ _
  have z0 : (0 : Int32).toInt = 0 := by decide
  refine ⟨fun h3 => ?_, fun h3 => no (fun z => h3 (le_ti.mpr ?_))⟩
  · have h4 := le_ti.mp h3
    rw [nI_toInt (by generalize x / 2 ^ w.N = q at hq; omega), z0] at h4
    have hlt : x < 2 ^ w.N := by
      have : x / 2 ^ w.N = 0 := by generalize x / 2 ^ w.N = q at h4; omega
      exact (Nat.div_eq_zero_iff_lt (Nat.two_pow_pos _)).mp this
    have g3 : inP (nI x) (2 ^ w.N) := inP_nI hlt (by omega)
    unfold giveV giveW
    rw [if_pos ⟨g1, g3⟩, if_pos ⟨g1, g3⟩, tn_nI (by omega), tn_nI (by omega), nI_clamp (by omega)]
    refine ⟨vp_in_nI (by omega) (by decide), rfl, ?_⟩
    obtain ⟨⟨x1, x2, x3, x4, x5, x6, x7, x8, x9, x10, x11, x12, x13, x14, x15⟩, h38, hc⟩ := hM
    have f : ∀ q k, q ≠ 49 → gI (sI σ 49 p (nI x)) q k = gI σ q k := fun q k hq => gI_sI_ne (by omega)
    refine ⟨⟨?_, ?_, ?_, ?_, ?_, fun l' hl' => ?_, fun k hk => ?_, fun j hj => ?_, fun r hr => (x9 r hr).fr (fun q k a b => f q k (by omega)), ?_, ?_, fun i hi => ?_, ?_, ?_, ?_⟩, ?_, fun e r hr => ?_⟩
    · rw [f _ _ (by decide)]; exact x1
    · rw [f _ _ (by decide)]; exact x2
    · rw [f _ _ (by decide)]; exact x3
    · rw [f _ _ (by decide)]; exact x4
    · rw [f _ _ (by decide)]; exact x5
    · rw [f 41 _ (by decide), f 42 _ (by decide), f 43 _ (by decide), f 44 _ (by decide)]; exact x6 l' hl'
    · rw [f 45 _ (by decide), f 46 _ (by decide)]; exact x7 k hk
    · rw [f 47 _ (by decide), f 48 _ (by decide)]
      refine ⟨(x8 j hj).1, (x8 j hj).2.1, ?_⟩
      rw [gI_sI]
      show _ = nI (puh w.hd p x j)
      by_cases e : j = p
      · rw [if_pos ⟨rfl, e⟩, e, puh_same]
      · rw [if_neg (fun z => e z.2), puh_ne e]; exact (x8 j hj).2.2
    · rw [f _ _ (by decide)]; exact x10
    · rw [f _ _ (by decide)]; exact x11
    · rw [f _ _ (by decide)]; exact x12 i hi
    · rw [f _ _ (by decide)]; exact x13
    · rw [f _ _ (by decide)]; exact x14
    · rw [f _ _ (by decide)]; exact x15
    · rw [f _ _ (by decide)]; exact h38
    · rw [f _ _ (by decide), f _ _ (by decide)] at e
      rw [law_ext (w := w) (w' := setHd w p x) (j := r) rfl rfl rfl rfl rfl rfl rfl rfl rfl rfl, wth_ext (w := w) (w' := setHd w p x) (j := r) rfl rfl rfl rfl rfl]
      exact (hc e r hr).fr (fun k _ _ => ⟨f _ _ (by decide), f _ _ (by decide)⟩)
  · have hlt : x < 2 ^ w.N := by
      have := z.2.2
      rw [nI_toInt (by omega)] at this; omega
    rw [(Nat.div_eq_zero_iff_lt (Nat.two_pow_pos _)).mpr hlt]; decide
theorem purse_M {d n : Nat} {σ : St} {w : Wd} {a1 a2 : Int32} (hn : FIX ≤ n) (hd : 2 ≤ d) (hM : MG σ w) (hw : WW w) (hv : w.ver + 1 < 2 ^ 30) : Cn d n M_X12_purse md_X12_purse [.ref 11, .int a1, .int a2] σ (liI (fun v σ' => v = purseV w a1 a2 ∧ MG σ' (purseW w a1 a2))) := by
  have hP := hw.P
  unfold purseV purseW
  refine S_X12_purse hn (by omega) ⟨fun h => ?_, fun h => ⟨fun h2 => ?_, fun h2 => ?_⟩⟩
  · rw [if_neg (fun z => ze.mp h ((pers_in hM.1 hw).mpr z.1)), if_neg (fun z => ze.mp h ((pers_in hM.1 hw).mpr z.1))]; exact ⟨rfl, hM⟩
  · have g1 := (pers_in hM.1 hw).mp h
    have g2 : inP a2 201 := (isIn_in (by decide) (by decide)).mp h2
    obtain ⟨p, hp, rfl⟩ := inP_ex (by omega) g1
    obtain ⟨x, hx, rfl⟩ := inP_ex (by decide) g2
    rw [if_pos ⟨g1, g2⟩, if_pos ⟨g1, g2⟩, tn_nI (by omega), tn_nI (by omega), nI_clamp (by omega)]
    refine ⟨vp_in_nI (by omega) (by decide), rfl, ?_⟩
    rw [gI_sI_ne (σ := σ) (j := 11) (by omega), hM.1.ver, nI_1]
    obtain ⟨⟨x1, x2, x3, x4, x5, x6, x7, x8, x9, x10, x11, x12, x13, x14, v, x15, x16⟩, h38, hc⟩ := hM
    have f : ∀ q k, ¬ (q = 11 ∧ k = 20) → q ≠ 47 → gI (sI (sI σ 47 p (nI x)) 11 20 (nI (w.ver + 1))) q k = gI σ q k := fun q k hq h2 => by rw [gI_sI_ne (by omega), gI_sI_ne (by omega)]
    refine MG.next ⟨?_, ?_, ?_, ?_, ?_, fun l' hl' => ?_, fun k hk => ?_, fun j hj => ?_, fun r hr => (x9 r hr).fr (fun q k a b => f q k (by omega) (by omega)), ?_, ?_, fun i hi => ?_, ?_, ?_, v, ?_, ?_⟩ ?_ hv ⟨v, ?_, ?_⟩
    · rw [f _ _ (by decide) (by decide)]; exact x1
    · rw [f _ _ (by decide) (by decide)]; exact x2
    · rw [f _ _ (by decide) (by decide)]; exact x3
    · rw [f _ _ (by decide) (by decide)]; exact x4
    · rw [f _ _ (by decide) (by decide)]; exact x5
    · rw [f 41 _ (by omega) (by decide), f 42 _ (by omega) (by decide), f 43 _ (by omega) (by decide), f 44 _ (by omega) (by decide)]; exact x6 l' hl'
    · rw [f 45 _ (by omega) (by decide), f 46 _ (by omega) (by decide)]; exact x7 k hk
    · rw [f 48 _ (by omega) (by decide), f 49 _ (by omega) (by decide)]
      refine ⟨?_, (x8 j hj).2⟩
      rw [gI_sI_ne (by omega), gI_sI]
      show _ = nI (puh w.pu p x j)
      by_cases e : j = p
      · rw [if_pos ⟨rfl, e⟩, e, puh_same]
      · rw [if_neg (fun z => e z.2), puh_ne e]; exact (x8 j hj).1
    · rw [f _ _ (by decide) (by decide)]; exact x10
    · rw [f _ _ (by decide) (by decide)]; exact x11
    · rw [f _ _ (by omega) (by decide)]; exact x12 i hi
    · rw [f _ _ (by decide) (by decide)]; exact x13
    · rw [gI_sI_same]; rfl
    · show v ≤ w.ver + 1; omega
    · rw [f _ _ (by decide) (by decide)]; exact x16
    · rw [f _ _ (by decide) (by decide)]; exact h38
    · show v < w.ver + 1; omega
    · rw [f _ _ (by decide) (by decide)]; exact x16
  · rw [if_neg (fun z => ze.mp h2 ((isIn_in (K := 201) (by decide) (by decide)).mpr z.2)), if_neg (fun z => ze.mp h2 ((isIn_in (K := 201) (by decide) (by decide)).mpr z.2))]; exact ⟨rfl, hM⟩
theorem lesson_M {d n : Nat} {σ : St} {w : Wd} {a1 a2 a3 : Int32} (hn : FIX ≤ n) (hd : 2 ≤ d) (hM : MG σ w) (hw : WW w) (hv : w.ver + 1 < 2 ^ 30) : Cn d n M_X12_lesson md_X12_lesson [.ref 11, .int a1, .int a2, .int a3] σ (liI (fun v σ' => v = lessonV w a1 a2 a3 ∧ MG σ' (lessonW w a1 a2 a3))) := by
  have hN := hw.N
  have o1 : (1 : Int32).toInt = 1 := by decide
  have o40 : (40 : Int32).toInt = 40 := by decide
  have no : ¬ lessonG w a1 a2 a3 → (fun (v : Int32) (σ' : St) => v = lessonV w a1 a2 a3 ∧ MG σ' (lessonW w a1 a2 a3)) (-1) σ := fun h => by
    unfold lessonV lessonW; rw [if_neg h, if_neg h]; exact ⟨rfl, hM⟩
  refine S_X12_lesson hn (by omega) ⟨fun h => no (fun z => ze.mp h ((isIn_in (K := 10) (by decide) (by decide)).mpr z.1)), fun h => ⟨fun h2 => no (fun z => ze.mp h2 ((isIn_in (K := 40) (by decide) (by decide)).mpr z.2.1)), fun h2 => ?_⟩⟩
  have g1 : inP a1 10 := (isIn_in (by decide) (by decide)).mp h
  have g2 : inP a2 40 := (isIn_in (by decide) (by decide)).mp h2
  have ea : (a2 + 1).toInt = a2.toInt + 1 := by have := g2.1; have := g2.2; rw [ti_add] <;> rw [o1] <;> omega
  refine ⟨fun h3 => no (fun z => isIn_z.mp h3 (by rw [ea, o40]; have := z.2.2.1; omega)), fun h3 => ⟨fun h4 => ?_, fun h4 => no (fun z => ?_)⟩⟩
  · have g3 := isIn_ti.mp h3
    rw [ea, o40] at g3
    have hlt : w.N < 10 := by
      rcases Nat.lt_or_ge w.N 10 with z | z
      · exact z
      · exact absurd (by rw [hM.1.N, show w.N = 10 by omega]; rfl) h4
    have hG : lessonG w a1 a2 a3 := ⟨g1, g2, by omega, hlt⟩
    have hg3 : inP a3 41 := ⟨by have := g2.1; omega, by omega⟩
    obtain ⟨x, hx, rfl⟩ := inP_ex (by decide) g1
    obtain ⟨y, hy, rfl⟩ := inP_ex (by decide) g2
    obtain ⟨z, hz, rfl⟩ := inP_ex (by decide) hg3
    unfold lessonV lessonW
    rw [if_pos hG, if_pos hG, tn_nI (by omega), tn_nI (by omega), tn_nI (by omega)]
    have e0 : gI σ 11 0 = nI w.N := hM.1.N
    have ev : gI σ 11 20 = nI w.ver := hM.1.ver
    simp (disch := omega) only [gI_sI_ne, gI_sI_same, e0, ev, nI_clamp, nI_1]
    have hvp : vp_in (nI w.N) 10 := vp_in_nI (by omega) (by decide)
    refine ⟨hvp, hvp, hvp, ?_, ?_⟩
    · show nI (w.N + 1) - nI 1 = nI w.N
      rw [nI_sub (by omega)]; congr 1
    obtain ⟨⟨x1, x2, x3, x4, x5, x6, x7, x8, x9, x10, x11, x12, x13, x14, v, x15, x16⟩, h38, hc⟩ := hM
    generalize hτ : sI (sI (sI (sI (sI σ 41 w.N (nI x)) 42 w.N (nI y)) 43 w.N (nI z)) 11 0 (nI (w.N + 1))) 11 20 (nI (w.ver + 1)) = τ
    have f : ∀ q k, ¬ (q = 11 ∧ (k = 0 ∨ k = 20)) → ¬ (41 ≤ q ∧ q ≤ 43 ∧ k = w.N) → gI τ q k = gI σ q k := fun q k hq h2 => by
      subst hτ
      rw [gI_sI_ne (by omega), gI_sI_ne (by omega), gI_sI_ne (by omega), gI_sI_ne (by omega), gI_sI_ne (by omega)]
    have f41 : gI τ 41 w.N = nI x := by subst hτ; simp (disch := omega) only [gI_sI_ne, gI_sI_same]
    have f42 : gI τ 42 w.N = nI y := by subst hτ; simp (disch := omega) only [gI_sI_ne, gI_sI_same]
    have f43 : gI τ 43 w.N = nI z := by subst hτ; simp (disch := omega) only [gI_sI_ne, gI_sI_same]
    have f0 : gI τ 11 0 = nI (w.N + 1) := by subst hτ; simp (disch := omega) only [gI_sI_ne, gI_sI_same]
    have f20 : gI τ 11 20 = nI (w.ver + 1) := by subst hτ; simp (disch := omega) only [gI_sI_ne, gI_sI_same]
    refine MG.next ⟨f0, ?_, ?_, ?_, ?_, fun l' hl' => ?_, fun k hk => ?_, fun j hj => ?_, fun r hr => (x9 r hr).fr (fun q k a b => f q k (by omega) (by omega)), ?_, ?_, fun i hi => ?_, ?_, f20, v, ?_, ?_⟩ ?_ hv ⟨v, ?_, ?_⟩
    · rw [f _ _ (by decide) (by omega)]; exact x2
    · rw [f _ _ (by decide) (by omega)]; exact x3
    · rw [f _ _ (by decide) (by omega)]; exact x4
    · rw [f _ _ (by decide) (by omega)]; exact x5
    · show gI τ 41 l' = nI (puh w.pl w.N x l') ∧ gI τ 42 l' = nI (puh w.fr w.N y l') ∧ gI τ 43 l' = nI (puh w.to w.N z l') ∧ gI τ 44 l' = nI (w.pr l')
      by_cases e : l' = w.N
      · rw [e, puh_same, puh_same, puh_same, f41, f42, f43, f 44 _ (by omega) (by omega)]
        exact ⟨rfl, rfl, rfl, (x6 w.N (by omega)).2.2.2⟩
      · rw [puh_ne e, puh_ne e, puh_ne e, f 41 _ (by omega) (by omega), f 42 _ (by omega) (by omega), f 43 _ (by omega) (by omega), f 44 _ (by omega) (by omega)]; exact x6 l' hl'
    · rw [f 45 _ (by omega) (by omega), f 46 _ (by omega) (by omega)]; exact x7 k hk
    · rw [f 47 _ (by omega) (by omega), f 48 _ (by omega) (by omega), f 49 _ (by omega) (by omega)]; exact x8 j hj
    · rw [f _ _ (by decide) (by omega)]; exact x10
    · rw [f _ _ (by decide) (by omega)]; exact x11
    · rw [f _ _ (by omega) (by omega)]; exact x12 i hi
    · rw [f _ _ (by decide) (by omega)]; exact x13
    · show v ≤ w.ver + 1; omega
    · rw [f _ _ (by decide) (by omega)]; exact x16
    · rw [f _ _ (by decide) (by omega)]; exact h38
    · show v < w.ver + 1; omega
    · rw [f _ _ (by decide) (by omega)]; exact x16
  · rw [hM.1.N] at h4
    have := (nI_eq (a := w.N) (b := 10) (by omega) (by decide)).mp h4
    have := z.2.2.2
    omega
theorem after_M {d n : Nat} {σ : St} {w : Wd} {a1 a2 : Int32} (hn : FIX ≤ n) (hd : 2 ≤ d) (hM : MG σ w) (hw : WW w) (hv : w.ver + 1 < 2 ^ 30) : Cn d n M_X12_after md_X12_after [.ref 11, .int a1, .int a2] σ (liI (fun v σ' => v = afterV w a1 a2 ∧ MG σ' (afterW w a1 a2))) := by
  have hN := hw.N
  have hA := hw.A
  have no : ¬ afterG w a1 a2 → (fun (v : Int32) (σ' : St) => v = afterV w a1 a2 ∧ MG σ' (afterW w a1 a2)) (-1) σ := fun h => by
    unfold afterV afterW; rw [if_neg h, if_neg h]; exact ⟨rfl, hM⟩
  refine S_X12_after hn (by omega) ⟨fun h => no (fun z => ze.mp h ((less_in hM.1 hw).mpr z.1.1)), fun h => ⟨fun h2 => no (fun z => ze.mp h2 ((less_in hM.1 hw).mpr z.1.2.1)), fun h2 => ⟨fun h3 => no (fun z => z.1.2.2.1 h3), fun h3 => ⟨fun h4 => ?_, fun h4 => no (fun z => ?_)⟩⟩⟩⟩
  · have g1 := (less_in hM.1 hw).mp h
    have g2 := (less_in hM.1 hw).mp h2
    have hlt : w.A < 20 := by
      rcases Nat.lt_or_ge w.A 20 with z | z
      · exact z
      · exact absurd (by rw [hM.1.A, show w.A = 20 by omega]; rfl) h4
    obtain ⟨x, hx, rfl⟩ := inP_ex (by omega) g1
    obtain ⟨y, hy, rfl⟩ := inP_ex (by omega) g2
    have ex : tn (nI x) = x := tn_nI (by omega)
    have ey : tn (nI y) = y := tn_nI (by omega)
    generalize hQ : (fun (v : Int32) (σ' : St) => v = afterV w (nI x) (nI y) ∧ MG σ' (afterW w (nI x) (nI y))) = Q at no
    have loop : ∀ k, k ≤ w.A → (∀ i, i < k → ¬ (w.a1 i = x ∧ w.a2 i = y)) → K_X12_after_34 d n σ Q σ (nI x) (nI y) (nI k) := by
      refine up_ind (N := w.A) ?_ ?_
      · intro hno
        have hG : afterG w (nI x) (nI y) := ⟨⟨g1, g2, h3, hlt⟩, by rw [ex, ey]; exact hno⟩
        refine B_X12_after_34 hn (by omega) ⟨fun _ => ?_, fun z => absurd (by rw [hM.1.A]; exact nI_le (Nat.le_refl _) (by omega)) z⟩
        have e2 : gI σ 11 2 = nI w.A := hM.1.A
        have ev : gI σ 11 20 = nI w.ver := hM.1.ver
        simp (disch := omega) only [gI_sI_ne, gI_sI_same, e2, ev, nI_clamp, nI_1]
        have hvp : vp_in (nI w.A) 20 := vp_in_nI (by omega) (by decide)
        refine ⟨hvp, hvp, ?_⟩
        rw [← hQ]
        unfold afterV afterW
        rw [if_pos hG, if_pos hG, ex, ey]
        refine ⟨rfl, ?_⟩
        obtain ⟨⟨x1, x2, x3, x4, x5, x6, x7, x8, x9, x10, x11, x12, x13, x14, v, x15, x16⟩, h38, hc⟩ := hM
        generalize hτ : sI (sI (sI (sI σ 45 w.A (nI x)) 46 w.A (nI y)) 11 2 (nI (w.A + 1))) 11 20 (nI (w.ver + 1)) = τ
        have f : ∀ q k, ¬ (q = 11 ∧ (k = 2 ∨ k = 20)) → ¬ (45 ≤ q ∧ q ≤ 46 ∧ k = w.A) → gI τ q k = gI σ q k := fun q k hq h2 => by
          subst hτ
          rw [gI_sI_ne (by omega), gI_sI_ne (by omega), gI_sI_ne (by omega), gI_sI_ne (by omega)]
        have f45 : gI τ 45 w.A = nI x := by subst hτ; simp (disch := omega) only [gI_sI_ne, gI_sI_same]
        have f46 : gI τ 46 w.A = nI y := by subst hτ; simp (disch := omega) only [gI_sI_ne, gI_sI_same]
        have f2 : gI τ 11 2 = nI (w.A + 1) := by subst hτ; simp (disch := omega) only [gI_sI_ne, gI_sI_same]
        have f20 : gI τ 11 20 = nI (w.ver + 1) := by subst hτ; simp (disch := omega) only [gI_sI_ne, gI_sI_same]
        refine MG.next ⟨?_, ?_, f2, ?_, ?_, fun l' hl' => ?_, fun k hk => ?_, fun j hj => ?_, fun r hr => (x9 r hr).fr (fun q k a b => f q k (by omega) (by omega)), ?_, ?_, fun i hi => ?_, ?_, f20, v, ?_, ?_⟩ ?_ hv ⟨v, ?_, ?_⟩
        · rw [f _ _ (by decide) (by omega)]; exact x1
        · rw [f _ _ (by decide) (by omega)]; exact x2
        · rw [f _ _ (by decide) (by omega)]; exact x4
        · rw [f _ _ (by decide) (by omega)]; exact x5
        · rw [f 41 _ (by omega) (by omega), f 42 _ (by omega) (by omega), f 43 _ (by omega) (by omega), f 44 _ (by omega) (by omega)]; exact x6 l' hl'
        · show gI τ 45 k = nI (puh w.a1 w.A x k) ∧ gI τ 46 k = nI (puh w.a2 w.A y k)
          replace hk : k < w.A + 1 := hk
          by_cases e : k = w.A
          · rw [e, puh_same, puh_same, f45, f46]; exact ⟨rfl, rfl⟩
          · rw [puh_ne e, puh_ne e, f 45 _ (by omega) (by omega), f 46 _ (by omega) (by omega)]; exact x7 k (by omega)
        · rw [f 47 _ (by omega) (by omega), f 48 _ (by omega) (by omega), f 49 _ (by omega) (by omega)]; exact x8 j hj
        · rw [f _ _ (by decide) (by omega)]; exact x10
        · rw [f _ _ (by decide) (by omega)]; exact x11
        · rw [f _ _ (by omega) (by omega)]; exact x12 i hi
        · rw [f _ _ (by decide) (by omega)]; exact x13
        · show v ≤ w.ver + 1; omega
        · rw [f _ _ (by decide) (by omega)]; exact x16
        · rw [f _ _ (by decide) (by omega)]; exact h38
        · show v < w.ver + 1; omega
        · rw [f _ _ (by decide) (by omega)]; exact x16
      · intro k hk ih hno
        have hvp : vp_in (nI k) 20 := vp_in_nI (by omega) (by decide)
        obtain ⟨a1, a2⟩ := hM.1.aft k hk
        have haf := hw.af k hk
        refine B_X12_after_34 hn (by omega) ⟨fun z => absurd z (by rw [hM.1.A]; exact nI_ge hk (by omega)), fun _ => ⟨hvp, ?_⟩⟩
        rw [nI_clamp (by omega), a1, a2, nI_1]
        have step : ¬ (w.a1 k = x ∧ w.a2 k = y) → K_X12_after_34 d n σ Q σ (nI x) (nI y) (nI (k + 1)) := fun hx => ih (fun i hi => by
          by_cases e : i = k
          · rw [e]; exact hx
          · exact hno i (by omega))
        refine ⟨fun e => step (fun z => e (by rw [z.1])), fun e => ⟨hvp, fun e2 => step (fun z => e2 (by rw [z.2])), fun e2 => no (fun z => z.2 k hk ?_)⟩⟩
        rw [ex, ey]
        exact ⟨(nI_eq (by omega) (by omega)).mp e, (nI_eq (by omega) (by omega)).mp e2⟩
    exact loop 0 (by omega) (fun i hi => absurd hi (by omega))
  · rw [hM.1.A] at h4
    have := (nI_eq (a := w.A) (b := 20) (by omega) (by decide)).mp h4
    have := z.1.2.2.2
    omega
theorem person_M {d n : Nat} {σ : St} {w : Wd} {a1 a2 : Int32} (hn : FIX ≤ n) (hd : 2 ≤ d) (hM : MG σ w) (hw : WW w) (hv : w.ver + 1 < 2 ^ 30) : Cn d n M_X12_person md_X12_person [.ref 11, .int a1, .int a2] σ (liI (fun v σ' => v = personV w a1 a2 ∧ MG σ' (personW w a1 a2))) := by
  have hP := hw.P
  have no : ¬ personG w a1 a2 → (fun (v : Int32) (σ' : St) => v = personV w a1 a2 ∧ MG σ' (personW w a1 a2)) (-1) σ := fun h => by
    unfold personV personW; rw [if_neg h, if_neg h]; exact ⟨rfl, hM⟩
  refine S_X12_person hn (by omega) ⟨fun h => no (fun z => ze.mp h ((isIn_in (K := 201) (by decide) (by decide)).mpr z.1)), fun h => ⟨fun h2 => no (fun z => ze.mp h2 (bund_in.mpr z.2.1)), fun h2 => ⟨fun h4 => ?_, fun h4 => no (fun z => ?_)⟩⟩⟩
  · have g1 : inP a1 201 := (isIn_in (by decide) (by decide)).mp h
    have g2 := bund_in.mp h2
    have hlt : w.P < 8 := by
      rcases Nat.lt_or_ge w.P 8 with z | z
      · exact z
      · exact absurd (by rw [hM.1.P, show w.P = 8 by omega]; rfl) h4
    have hG : personG w a1 a2 := ⟨g1, g2, hlt⟩
    obtain ⟨x, hx, rfl⟩ := inP_ex (by decide) g1
    obtain ⟨y, hy, rfl⟩ := inP_ex (by decide) g2
    unfold personV personW
    rw [if_pos hG, if_pos hG, tn_nI (by omega), tn_nI (by omega)]
    have e0 : gI σ 11 1 = nI w.P := hM.1.P
    have ev : gI σ 11 20 = nI w.ver := hM.1.ver
    simp (disch := omega) only [gI_sI_ne, gI_sI_same, e0, ev, nI_clamp, nI_1]
    have hvp : vp_in (nI w.P) 8 := vp_in_nI (by omega) (by decide)
    refine ⟨hvp, hvp, vp_in_nI (by omega) (by decide), ?_, ?_⟩
    · show nI (w.P + 1) - nI 1 = nI w.P
      rw [nI_sub (by omega)]; congr 1
    obtain ⟨⟨x1, x2, x3, x4, x5, x6, x7, x8, x9, x10, x11, x12, x13, x14, v, x15, x16⟩, h38, hc⟩ := hM
    generalize hτ : sI (sI (sI (sI (sI σ 47 w.P (nI x)) 48 w.P (nI y)) 50 w.P 0) 11 1 (nI (w.P + 1))) 11 20 (nI (w.ver + 1)) = τ
    have f : ∀ q k, ¬ (q = 11 ∧ (k = 1 ∨ k = 20)) → ¬ ((47 ≤ q ∧ q ≤ 48 ∨ q = 50) ∧ k = w.P) → gI τ q k = gI σ q k := fun q k hq h2 => by
      subst hτ
      rw [gI_sI_ne (by omega), gI_sI_ne (by omega), gI_sI_ne (by omega), gI_sI_ne (by omega), gI_sI_ne (by omega)]
    have f47 : gI τ 47 w.P = nI x := by subst hτ; simp (disch := omega) only [gI_sI_ne, gI_sI_same]
    have f48 : gI τ 48 w.P = nI y := by subst hτ; simp (disch := omega) only [gI_sI_ne, gI_sI_same]
    have f50 : gI τ 50 w.P = 0 := by subst hτ; simp (disch := omega) only [gI_sI_ne, gI_sI_same]
    have f1 : gI τ 11 1 = nI (w.P + 1) := by subst hτ; simp (disch := omega) only [gI_sI_ne, gI_sI_same]
    have f20 : gI τ 11 20 = nI (w.ver + 1) := by subst hτ; simp (disch := omega) only [gI_sI_ne, gI_sI_same]
    refine MG.next ⟨?_, f1, ?_, ?_, ?_, fun l' hl' => ?_, fun k hk => ?_, fun j hj => ?_, fun r hr => ?_, ?_, ?_, fun i hi => ?_, ?_, f20, v, ?_, ?_⟩ ?_ hv ⟨v, ?_, ?_⟩
    · rw [f _ _ (by decide) (by omega)]; exact x1
    · rw [f _ _ (by decide) (by omega)]; exact x3
    · rw [f _ _ (by decide) (by omega)]; exact x4
    · rw [f _ _ (by decide) (by omega)]; exact x5
    · rw [f 41 _ (by omega) (by omega), f 42 _ (by omega) (by omega), f 43 _ (by omega) (by omega), f 44 _ (by omega) (by omega)]; exact x6 l' hl'
    · rw [f 45 _ (by omega) (by omega), f 46 _ (by omega) (by omega)]; exact x7 k hk
    · show gI τ 47 j = nI (puh w.pu w.P x j) ∧ gI τ 48 j = nI (puh w.dn w.P y j) ∧ gI τ 49 j = nI (w.hd j)
      by_cases e : j = w.P
      · rw [e, puh_same, puh_same, f47, f48, f 49 _ (by omega) (by omega)]; exact ⟨rfl, rfl, (x8 w.P (by omega)).2.2⟩
      · rw [puh_ne e, puh_ne e, f 47 _ (by omega) (by omega), f 48 _ (by omega) (by omega), f 49 _ (by omega) (by omega)]; exact x8 j hj
    · show RowM τ r (if r = w.P then [] else w.ws r)
      by_cases e : r = w.P
      · rw [if_pos e, e]
        exact ⟨f50, fun i s hi => by simp at hi, fun t o ht => by simp [flat] at ht⟩
      · rw [if_neg e]
        obtain ⟨q1, q2, q3⟩ := x9 r hr
        refine ⟨by rw [f 50 _ (by omega) (by omega)]; exact q1, fun i s hi => ?_, fun t o ht => ?_⟩
        · rw [f 51 _ (by omega) (by omega), f 52 _ (by omega) (by omega), f 53 _ (by omega) (by omega), f 54 _ (by omega) (by omega)]; exact q2 i s hi
        · rw [f 55 _ (by omega) (by omega), f 56 _ (by omega) (by omega)]; exact q3 t o ht
    · rw [f _ _ (by decide) (by omega)]; exact x10
    · rw [f _ _ (by decide) (by omega)]; exact x11
    · rw [f _ _ (by omega) (by omega)]; exact x12 i hi
    · rw [f _ _ (by decide) (by omega)]; exact x13
    · show v ≤ w.ver + 1; omega
    · rw [f _ _ (by decide) (by omega)]; exact x16
    · rw [f _ _ (by decide) (by omega)]; exact h38
    · show v < w.ver + 1; omega
    · rw [f _ _ (by decide) (by omega)]; exact x16
  · rw [hM.1.P] at h4
    have := (nI_eq (a := w.P) (b := 8) (by omega) (by decide)).mp h4
    have := z.2.2
    omega
theorem fault_M {d n : Nat} {σ : St} {w : Wd} (hn : FIX ≤ n) (hM : MG σ w) : Cn d n M_X12_fault md_X12_fault [.ref 11] σ (liI (fun v σ' => v = Int32.ofInt w.fa ∧ MG σ' w)) := S_X12_fault hn ⟨hM.1.2.2.2.2.2.2.2.2.2.2.2.2.1, hM⟩
