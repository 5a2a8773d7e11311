/-! ===== the component: fit, settle, must, why, ties, edge ===== -/
theorem fit_C {d n : Nat} {σ : St} {w : Wd} {a1 a2 : Int32} (hn : FIX ≤ n) (hd : 8 ≤ d) (hR : RC σ n w) (hw : WW w) : Cn d n M_X11_fit md_X11_fit [.ref 0, .int a1, .int a2] σ (liI (fun v σ' => v = fitV w a1 a2 ∧ RC σ' n w)) := by
  refine Cn.wk (Q := liI (fun v σ' => v = fitV w a1 a2 ∧ SX σ' n w pdJ id (hdI w) ∧ MK σ' w)) ?_ (by
    rintro v σ' ⟨x, e, h1, h2, h3⟩ hf
    exact ⟨x, e, h1, h2, h3, hR.2.2.st hf (by decide)⟩)
  have hN := hw.N
  have o : (1 : Int32).toInt = 1 := by decide
  have s : (60 : Int32).toInt = 60 := by decide
  have t10 : (10 : Int32).toInt = 10 := by decide
  have z0 : (0 : Int32).toInt = 0 := by decide
  generalize hQ : (fun (v : Int32) (σ' : St) => v = fitV w a1 a2 ∧ SX σ' n w pdJ id (hdI w) ∧ MK σ' w) = Q
  have no : ¬ fitG w a1 a2 → Q (-1) σ := fun h => by rw [← hQ]; unfold fitV; rw [if_neg h]; exact ⟨rfl, hR.1, hR.2.1⟩
  have e10 : inP (a2 - 10) w.N ↔ 10 ≤ a2.toInt ∧ a2.toInt ≤ 9 + (w.N : Int) := by
    have h1 := Int32.toInt_lt a2
    have h2 := Int32.le_toInt a2
    constructor
    · intro h
      obtain ⟨l, hl, el⟩ := inP_ex (by omega) h
      have : a2 = nI l + 10 := by rw [← el]; simp
      rw [this, ti_add] <;> rw [nI_toInt (by omega), t10] <;> omega
    · intro h
      have : (a2 - 10).toInt = a2.toInt - 10 := by rw [ti_sub] <;> rw [t10] <;> omega
      exact ⟨by omega, by omega⟩
  have got : (a2 = 0 ∨ a2 = 1 ∨ inP (a2 - 10) w.N) → ((a1 < 1 → Q (-1) σ) ∧ (¬ a1 < 1 → (((60 : Int32) < a1 → Q (-1) σ) ∧ (¬ (60 : Int32) < a1 → (((1 : Int32) ≠ 0 → ∃ Q5 : St → Prop, Cn (d - 1) n M_X1_freshenAll md_X1_freshenAll [.ref 3] σ (liV Q5) ∧ ∀ (σ7 : St), Q5 σ7 → Fr md_X1_freshenAll σ σ7 → ∃ Q11 : St → Prop, Cn (d - 1) n M_X8_run md_X8_run [.ref 7, .int a1] σ7 (liV Q11) ∧ ∀ (σ13 : St), Q11 σ13 → Fr md_X8_run σ7 σ13 → ((a2 ≠ 0 → ((a2 ≠ 1 → vp_in (a2 - 10) 10 ∧ Q (gI σ13 28 (a2 - 10).toNatClampNeg) σ13) ∧ (a2 = 1 → Q (gI σ13 7 4) σ13))) ∧ (a2 = 0 → Q (gI σ13 7 3) σ13))) ∧ ((1 : Int32) = 0 → Q (-1) σ)))))) := by
    intro hk
    refine ⟨fun h => no (fun z => by have := lt_ti.mp h; rw [o] at this; have := z.1.1; omega), fun h => ⟨fun h2 => no (fun z => by have := lt_ti.mp h2; rw [s] at this; have := z.1.2; omega), fun h2 => ⟨fun _ => ?_, fun z => absurd z (by decide)⟩⟩⟩
    have g1 : ¬ _ < _ := fun z => h (lt_ti.mpr z)
    have g2 : ¬ _ < _ := fun z => h2 (lt_ti.mpr z)
    rw [o] at g1
    rw [s] at g2
    have hg : fitG w a1 a2 := ⟨⟨by omega, by omega⟩, by
      rcases hk with k | k | k
      · left; rw [k, z0]; omega
      · left; rw [k, o]; omega
      · right; exact e10.mp k⟩
    obtain ⟨m, hm, rfl⟩ := ex_nI (K := 61) (by decide) (by omega : 0 ≤ a1.toInt) (by omega)
    refine ⟨_, freshenAll_spec hn (by omega) hR.1 hw, ?_⟩
    rintro σ1 ⟨s1, x1, l1, r1, -⟩ hf1
    have k1 := hR.2.1.low l1
    refine ⟨_, run_spec hn (by omega) ⟨x1, k1⟩ hw (tR_w w id) (by omega), fun σ2 c2 hf2 => ?_⟩
    have s2 := s1.st hf2 (by decide)
    have k2 := k1.st0 hf2 c2.2.1 (by decide)
    rw [← hQ]
    refine ⟨fun n0 => ⟨fun n1 => ?_, fun n1 => ⟨?_, s2, k2⟩⟩, fun n0 => ⟨?_, s2, k2⟩⟩
    · have hl : inP (a2 - 10) w.N := by
        rcases hk with k | k | k
        · exact absurd k n0
        · exact absurd k n1
        · exact k
      obtain ⟨l, hl2, el⟩ := inP_ex (by omega) hl
      rw [el]
      refine ⟨vp_in_nI (by omega) (by decide), ?_, s2, k2⟩
      unfold fitV; rw [if_pos hg, if_neg n0, if_neg n1, el, tn_nI (by omega), tn_nI (by omega), nI_clamp (by omega)]
      exact c2.2.2.2.2.2.2.1 l (by omega)
    · unfold fitV; rw [if_pos hg, if_neg (by rw [n1]; decide), if_pos n1, tn_nI (by omega)]
      exact c2.2.2.2.1
    · unfold fitV; rw [if_pos hg, if_pos n0, tn_nI (by omega)]
      exact ofI c2.2.2.2.2.2.2.2
  refine S_X11_fit hn (by omega) ⟨fun h => got (Or.inl h), fun h => ⟨fun h2 => got (Or.inr (Or.inl h2)), fun h2 => ⟨fun h3 => ?_, fun h3 => got (Or.inr (Or.inr ((hR.1.les hw).mp h3)))⟩⟩⟩
  have ng : ¬ fitG w a1 a2 := fun z => by
    rcases z.2 with y | y
    · have : a2.toInt = 0 ∨ a2.toInt = 1 := by omega
      rcases this with q | q
      · exact h (eq_ti.mpr (by rw [q, z0]))
      · exact h2 (eq_ti.mpr (by rw [q, o]))
    · exact ze.mp h3 ((hR.1.les hw).mpr (e10.mpr y))
  exact ⟨fun _ => no ng, fun _ => ⟨fun _ => no ng, fun _ => ⟨fun z => absurd rfl z, fun _ => no ng⟩⟩⟩
theorem RP.pr {σ : St} {w : Wd} {f : Nat → Nat} (h : RP σ w) : RP σ (setPr w f) := h
theorem SX.pr {σ : St} {n : Nat} {w : Wd} {pd rr : Nat → Nat} {hv : Nat → Int32} {f : Nat → Nat} (h : SX σ n w pd rr hv) : SX σ n (setPr w f) pd rr hv := by
  obtain ⟨a1, a2, a3, a4⟩ := h
  refine ⟨a1, a2, fun j hj => ?_, a4⟩
  obtain ⟨b1, b2, b3, b4, b5, b6, b7⟩ := a3 j hj
  exact ⟨b1, b2, b3, b4, b5, b6, fun hf => by rw [setPr_law, setPr_wth]; exact b7 hf⟩
theorem settle_C {d n : Nat} {σ : St} {w : Wd} {a : Int32} (hn : FIX ≤ n) (hd : 8 ≤ d) (hR : RC σ n w) (hw : WW w) : Cn d n M_X11_settle md_X11_settle [.ref 0, .int a] σ (liI (fun v σ' => v = settleV a ∧ RC σ' n (settleW w a))) := by
  have eH : hdI (settleW w a) = hdI w := by unfold settleW; split <;> rfl
  have eT : ∀ σ', TL σ' n w → TL σ' n (settleW w a) := fun σ' h => by unfold settleW; split <;> exact h
  refine Cn.wk (Q := liI (fun v σ' => v = settleV a ∧ SX σ' n (settleW w a) pdJ id (hdI w) ∧ MK σ' (settleW w a))) ?_ (by
    rintro v σ' ⟨x, e, h1, h2, h3⟩ hf
    exact ⟨x, e, h1, by rw [eH]; exact h2, h3, eT _ (hR.2.2.st hf (by decide))⟩)
  have hN := hw.N
  have o : (1 : Int32).toInt = 1 := by decide
  have s : (60 : Int32).toInt = 60 := by decide
  have no : ¬ (1 ≤ a.toInt ∧ a.toInt ≤ 60) → (fun (v : Int32) (σ' : St) => v = settleV a ∧ SX σ' n (settleW w a) pdJ id (hdI w) ∧ MK σ' (settleW w a)) 0 σ := fun h => by
    unfold settleV settleW; rw [if_neg h, if_neg h]; exact ⟨rfl, hR.1, hR.2.1⟩
  refine S_X11_settle hn (by omega) ⟨fun h => no (fun z => by have := lt_ti.mp h; rw [o] at this; omega), fun h => ⟨fun h2 => ?_, fun h2 => no (fun z => h2 (le_ti.mpr (by rw [s]; omega)))⟩⟩
  have g1 : ¬ _ < _ := fun z => h (lt_ti.mpr z)
  have g2 := le_ti.mp h2
  rw [o] at g1
  rw [s] at g2
  have hg : 1 ≤ a.toInt ∧ a.toInt ≤ 60 := ⟨by omega, by omega⟩
  obtain ⟨m, hm, rfl⟩ := ex_nI (K := 61) (by decide) (by omega : 0 ≤ a.toInt) (by omega)
  refine ⟨_, freshenAll_spec hn (by omega) hR.1 hw, ?_⟩
  rintro σ1 ⟨s1, x1, l1, r1, -⟩ hf1
  have k1 := hR.2.1.low l1
  refine ⟨_, run_spec hn (by omega) ⟨x1, k1⟩ hw (tR_w w id) (by omega), fun σ2 c2 hf2 => ?_⟩
  have s2 := s1.st hf2 (by decide)
  have k2 := k1.st0 hf2 c2.2.1 (by decide)
  generalize hτ : sA σ2 24 (va_cpy (gI σ2 28) (gI σ2 24) 0 0 10) = τ
  have f : ∀ q k, q ≠ 24 → gI τ q k = gI σ2 q k := fun q k hq => by subst hτ; rw [gI_sA_ne hq]
  have fR : gR τ = gR σ2 := by subst hτ; rfl
  have eW : settleW w (nI m) = setPr w (settleF w m) := by unfold settleW; rw [if_pos hg, tn_nI (by omega)]
  have eS : settleV (nI m) = 1 := by unfold settleV; rw [if_pos hg]
  rw [eW, eS]
  refine ⟨rfl, (s2.fr (s2.1.fr (fun k _ => f _ _ (by decide)) (fun q k x y => f _ _ (by omega))) (f _ _ (by decide)) fR (fun q k hq => f _ _ (by omega))).pr, ?_⟩
  refine ⟨by rw [f _ _ (by decide), f _ _ (by decide)]; exact k2.1, by rw [f _ _ (by decide)]; exact k2.2.1, fun l hl => ?_⟩
  subst hτ
  rw [gI_sA_same]; unfold va_cpy; rw [if_pos (by omega), show 0 + (l - 0) = l by omega, c2.2.2.2.2.2.2.1 l hl]
  show nI ((fitS w (tM w) m).b l) = nI (settleF w m l)
  unfold settleF
  by_cases e : l < w.N
  · rw [if_pos e]
  · rw [if_neg e]
    congr 1
    -- beyond the lessons nothing changes
    have keep : ∀ i (s : Se), (∀ l, w.N ≤ l → (∀ k, s.r k l = w.pr l) ∧ s.b l = w.pr l) → ∀ l, w.N ≤ l → (runS w (tM w) s i).b l = w.pr l := by
      intro i
      induction i with
      | zero => intro s hs l hl; exact (hs l hl).2
      | succ i ih =>
        intro s hs l hl
        unfold runS
        split
        · exact (hs l hl).2
        · next k _ =>
          refine ih _ (fun l' hl' => ?_) l hl
          have et : tryC w (tM w) (s.r s.g) k l' = w.pr l' := by
            unfold tryC; rw [if_pos hl']; exact (hs l' hl').1 s.g
          refine ⟨fun k' => ?_, ?_⟩
          · show (if k' = s.g + 1 then tryC w (tM w) (s.r s.g) k else s.r k') l' = _
            split
            · exact et
            · exact (hs l' hl').1 k'
          · show (if sqN w (tM w) (tryC w (tM w) (s.r s.g) k) < s.q then tryC w (tM w) (s.r s.g) k else s.b) l' = _
            split
            · exact et
            · exact (hs l' hl').2
    exact keep m _ (fun l _ => ⟨fun _ => rfl, rfl⟩) l (by omega)
theorem must_C {d n : Nat} {σ : St} {w : Wd} {a : Int32} (hn : FIX ≤ n) (hd : 8 ≤ d) (hR : RC σ n w) (hw : WW w) : Cn d n M_X11_must md_X11_must [.ref 0, .int a] σ (liI (fun v σ' => v = mustV w a ∧ RC σ' n w)) := by
  refine Cn.wk (Q := liI (fun v σ' => v = mustV w a ∧ SX σ' n w pdJ id (hdI w) ∧ MK σ' w)) ?_ (by
    rintro v σ' ⟨x, e, h1, h2, h3⟩ hf
    exact ⟨x, e, h1, h2, h3, hR.2.2.st hf (by decide)⟩)
  have hN := hw.N
  have o : (1 : Int32).toInt = 1 := by decide
  have t3 : (3 : Int32).toInt = 3 := by decide
  have t250 : (250 : Int32).toInt = 250 := by decide
  have no : ¬ ((1 ≤ w.N ∧ w.N ≤ 3) ∧ (1 ≤ a.toInt ∧ a.toInt ≤ 250)) → (fun (v : Int32) (σ' : St) => v = mustV w a ∧ SX σ' n w pdJ id (hdI w) ∧ MK σ' w) (-1) σ := fun h => by
    unfold mustV; rw [if_neg h]; exact ⟨rfl, hR.1, hR.2.1⟩
  refine S_X11_must hn (by omega) ?_
  rw [hR.1.1.N]
  refine ⟨fun h => no (fun z => by have := lt_ti.mp h; rw [o, nI_toInt (by omega)] at this; omega), fun h => ⟨fun h2 => no (fun z => by have := lt_ti.mp h2; rw [t3, nI_toInt (by omega)] at this; omega), fun h2 => ⟨fun h3 => no (fun z => by have := lt_ti.mp h3; rw [o] at this; omega), fun h3 => ⟨fun h4 => ?_, fun h4 => no (fun z => h4 (le_ti.mpr (by rw [t250]; omega)))⟩⟩⟩⟩
  have g1 : ¬ _ < _ := fun z => h (lt_ti.mpr z)
  have g2 : ¬ _ < _ := fun z => h2 (lt_ti.mpr z)
  have g3 : ¬ _ < _ := fun z => h3 (lt_ti.mpr z)
  have g4 := le_ti.mp h4
  rw [o, nI_toInt (by omega)] at g1
  rw [t3, nI_toInt (by omega)] at g2
  rw [o] at g3
  rw [t250] at g4
  have hg : (1 ≤ w.N ∧ w.N ≤ 3) ∧ (1 ≤ a.toInt ∧ a.toInt ≤ 250) := ⟨⟨by omega, by omega⟩, by omega, by omega⟩
  obtain ⟨b, hb, rfl⟩ := ex_nI (K := 251) (by decide) (by omega : 0 ≤ a.toInt) (by omega)
  have hb1 : 1 ≤ b := by have := hg.2.1; rw [nI_toInt (by omega)] at this; omega
  refine ⟨_, freshenAll_spec hn (by omega) hR.1 hw, ?_⟩
  rintro σ1 ⟨s1, x1, l1, r1, -⟩ hf1
  have k1 := hR.2.1.low l1
  refine ⟨_, leastSquare_spec (t := tR w id) hn (by omega) x1 k1.1 hw (tR_w w id) (by omega) (by omega) hb1 (by omega), ?_⟩
  rintro v σ2 ⟨e1, e2⟩ hf2
  refine ⟨?_, s1.st hf2 (by decide), k1.st0 hf2 e2 (by decide)⟩
  unfold mustV; rw [if_pos hg, tn_nI (by omega)]; exact ofI e1
theorem ties_C {d n : Nat} {σ : St} {w : Wd} {a : Int32} (hn : FIX ≤ n) (hd : 8 ≤ d) (hR : RC σ n w) (hw : WW w) : Cn d n M_X11_ties md_X11_ties [.ref 0, .int a] σ (liI (fun v σ' => tiesA w a v ∧ RC σ' n w)) := by
  refine Cn.wk (Q := liI (fun v σ' => tiesA w a v ∧ SX σ' n w pdJ id (hdI w) ∧ MK σ' w)) ?_ (by
    rintro v σ' ⟨x, e, h1, h2, h3⟩ hf
    exact ⟨x, e, h1, h2, h3, hR.2.2.st hf (by decide)⟩)
  have hP := hw.P
  refine S_X11_ties hn (by omega) ⟨fun h => ?_, fun h => ⟨Or.inl ⟨fun z => ze.mp h ((hR.1.per hw).mpr ((inP_iff (by omega)).mpr z)), rfl⟩, hR.1, hR.2.1⟩⟩
  have g1 := (hR.1.per hw).mp h
  obtain ⟨j, hj, rfl⟩ := inP_ex (by omega) g1
  refine ⟨_, freshened_spec hn (by omega) hR.1 hw hj, ?_⟩
  rintro p σ1 ⟨rfl, s1, j1, l1⟩ hf1
  have k1 := hR.2.1.low l1
  refine ⟨j1.2.1, _, mark_pr hn k1, ?_⟩
  rintro σ2 ⟨mk, k2⟩ hf2
  have j2 := j1.st hf2 (by decide)
  have s2 := s1.st hf2 (by decide)
  refine ⟨_, alike_spec hn (by omega) j2 hw (tR_w w id) mk (pr_ok hw) hj, fun v σ3 e hf3 => ⟨Or.inr ⟨j, hj, rfl, e⟩, s2.st hf3 (by decide), k2.st hf3 (by decide)⟩⟩
theorem edge_C {d n : Nat} {σ : St} {w : Wd} {a1 a2 : Int32} (hn : FIX ≤ n) (hd : 8 ≤ d) (hR : RC σ n w) (hw : WW w) : Cn d n M_X11_edge md_X11_edge [.ref 0, .int a1, .int a2] σ (liI (fun v σ' => edgeA w a1 a2 v ∧ RC σ' n w)) := by
  refine Cn.wk (Q := liI (fun v σ' => edgeA w a1 a2 v ∧ SX σ' n w pdJ id (hdI w) ∧ MK σ' w)) ?_ (by
    rintro v σ' ⟨x, e, h1, h2, h3⟩ hf
    exact ⟨x, e, h1, h2, h3, hR.2.2.st hf (by decide)⟩)
  have hP := hw.P
  have hN := hw.N
  refine S_X11_edge hn (by omega) ⟨fun h => ⟨Or.inl ⟨fun z => ze.mp h ((hR.1.per hw).mpr ((inP_iff (by omega)).mpr z.1)), rfl⟩, hR.1, hR.2.1⟩, fun h => ⟨fun h2 => ?_, fun h2 => ⟨Or.inl ⟨fun z => ze.mp h2 ((hR.1.les hw).mpr ((inP_iff (by omega)).mpr z.2)), rfl⟩, hR.1, hR.2.1⟩⟩⟩
  obtain ⟨j, hj, rfl⟩ := inP_ex (by omega) ((hR.1.per hw).mp h)
  obtain ⟨l, hl, rfl⟩ := inP_ex (by omega) ((hR.1.les hw).mp h2)
  refine ⟨_, freshened_spec hn (by omega) hR.1 hw hj, ?_⟩
  rintro p σ1 ⟨rfl, s1, j1, l1⟩ hf1
  have k1 := hR.2.1.low l1
  refine ⟨j1.2.1, _, edgeOf_spec (t := tR w id) hn (by omega) j1 k1.1 k1.2.2 hw (tR_w w id) hj hl rfl rfl, ?_⟩
  rintro v σ2 ⟨e1, e2⟩ hf2
  exact ⟨Or.inr ⟨j, l, hj, rfl, hl, rfl, e1⟩, s1.st hf2 (by decide), k1.st0 hf2 e2 (by decide)⟩
theorem why_C {d n : Nat} {σ : St} {w : Wd} {a1 a2 a3 : Int32} (hn : FIX ≤ n) (hd : 8 ≤ d) (hR : RC σ n w) (hw : WW w) : Cn d n M_X11_why md_X11_why [.ref 0, .int a1, .int a2, .int a3] σ (liI (fun v σ' => whyA w a1 a2 a3 v ∧ RC σ' n w)) := by
  refine Cn.wk (Q := liI (fun v σ' => whyA w a1 a2 a3 v ∧ SX σ' n w pdJ id (hdI w) ∧ MK σ' w)) ?_ (by
    rintro v σ' ⟨x, e, h1, h2, h3⟩ hf
    exact ⟨x, e, h1, h2, h3, hR.2.2.st hf (by decide)⟩)
  have hP := hw.P
  have hN := hw.N
  have hpw := pow10 hN
  have o : (1 : Int32).toInt = 1 := by decide
  have z0 : (0 : Int32).toInt = 0 := by decide
  have no : ¬ ((∃ j, j < w.P ∧ a1 = nI j) ∧ (∃ l, l < w.N ∧ a2 = nI l) ∧ (a3 = 0 ∨ a3 = 1)) → (fun (v : Int32) (σ' : St) => whyA w a1 a2 a3 v ∧ SX σ' n w pdJ id (hdI w) ∧ MK σ' w) (-1) σ := fun h => ⟨Or.inl ⟨h, rfl⟩, hR.1, hR.2.1⟩
  refine S_X11_why hn (by omega) ⟨fun h => no (fun z => ze.mp h ((hR.1.per hw).mpr ((inP_iff (by omega)).mpr z.1))), fun h => ⟨fun h2 => no (fun z => ze.mp h2 ((hR.1.les hw).mpr ((inP_iff (by omega)).mpr z.2.1))), fun h2 => ⟨fun h3 => no (fun z => ?_), fun h3 => ⟨fun h4 => ?_, fun h4 => no (fun z => h4 ?_)⟩⟩⟩⟩
  · have := lt0.mp h3
    rcases z.2.2 with e | e
    · rw [e, z0] at this; omega
    · rw [e, o] at this; omega
  · have h01 : a3 = 0 ∨ a3 = 1 := by
      have g1 : ¬ _ := fun z => h3 (lt0.mpr z)
      have g2 := le_ti.mp h4
      rw [o] at g2
      have : a3.toInt = 0 ∨ a3.toInt = 1 := by omega
      rcases this with q | q
      · exact Or.inl (eq_ti.mpr (by rw [q, z0]))
      · exact Or.inr (eq_ti.mpr (by rw [q, o]))
    obtain ⟨j, hj, rfl⟩ := inP_ex (by omega) ((hR.1.per hw).mp h)
    obtain ⟨l, hl, rfl⟩ := inP_ex (by omega) ((hR.1.les hw).mp h2)
    have h2l : 2 ^ l < 2 ^ w.N := Nat.pow_lt_pow_right (by decide) hl
    refine ⟨_, freshened_spec hn (by omega) hR.1 hw hj, ?_⟩
    rintro p σ1 ⟨rfl, s1, j1, l1⟩ hf1
    have k1 := hR.2.1.low l1
    refine ⟨j1.2.1, _, mark_pr hn k1, ?_⟩
    rintro σ2 ⟨mk, k2⟩ hf2
    have j2 := j1.st hf2 (by decide)
    have s2 := s1.st hf2 (by decide)
    rw [shl1 (by omega)]
    refine ⟨_, leastBetter_spec (a := 2 ^ l) hn (by omega) j2 hw (tR_w w id) mk (pr_ok hw) hj (by omega), ?_⟩
    rintro v1 σ3 ⟨ob, ho, rfl⟩ hf3
    have j3 := j2.st hf3 (by decide)
    have s3 := s2.st hf3 (by decide)
    have k3 := k2.st hf3 (by decide)
    have mk3 := mk.st hf3 (by decide)
    refine ⟨_, pickC0 hn (by omega) j3 hw (tR_w w id) mk3 (fun l hl => pr_ok hw l (by omega)) hj, ?_⟩
    rintro v2 σ4 ⟨⟨e1, e2⟩, -, -⟩ hf4
    have j4 := j3.st hf4 (by decide)
    have s4 := s3.st hf4 (by decide)
    have k4 := k3.st hf4 (by decide)
    have hB : buyB w (LM w) (VM w) w.pr j < 2 ^ w.N := buyB_ok w (tM w) w.pr j
    have hbt : (buyB w (LM w) (VM w) w.pr j).testBit l = true ↔ ∃ b, buyO w (LM w) (VM w) w.pr j = some b ∧ b.testBit l = true := by
      unfold buyB
      cases buyO w (LM w) (VM w) w.pr j with
      | none => simp
      | some z => simp
    have fin : ∀ v, (a3 = 0 ∧ v = nI (whyI w j l ob) ∨ a3 = 1 ∧ v = if whyI w j l ob = 3 then optS ob (w.pu j) else -1) → whyA w (nI j) (nI l) a3 v := fun v e => Or.inr ⟨j, l, hj, rfl, hl, rfl, ob, ho, e⟩
    have hle : ∀ c, ob = some c → c < 2 ^ 31 := fun c e => by
      subst e
      obtain ⟨⟨x, hx, hc⟩, -⟩ := ho
      have hc' : costU w.pr x w.N = c := hc
      have := cost_le (b := x) (pr_ok hw) hw.N
      omega
    have obI : optI ob = -1 ↔ ob = none := by
      cases ob with
      | none => exact ⟨fun _ => rfl, fun _ => rfl⟩
      | some c => exact ⟨fun z => absurd z (optI_ne (hle c rfl)), fun z => by cases z⟩
    have hsome : ob ≠ none → ∃ b, b < 2 ^ w.N ∧ LM w j b = true ∧ b.testBit l = true := fun hne => by
      cases ob with
      | none => exact absurd rfl hne
      | some c =>
        obtain ⟨⟨x, ⟨x1, x2, x3, x4⟩, hc⟩, -⟩ := ho
        exact ⟨x, x1, x2, tb_and.mp x4⟩
    have hm : gI σ4 (pdJ j) 0 = nI (w.pu j) := (s4.2.2.1 j hj).2.2.1
    refine ⟨e1, ?_⟩
    rw [e2]
    show (a3 ≠ 1 → _) ∧ (a3 = 1 → _)
    have ez : fn_X11_contains (nI (buyB w (tR w id).1 (tR w id).2 w.pr j)) (nI l) = 0 ↔ (buyB w (LM w) (VM w) w.pr j).testBit l = false := cont_zf (by show buyB w (LM w) (VM w) w.pr j < 2 ^ 31; omega) (by omega)
    simp only [ne_eq, ez]
    refine ⟨fun n1 => ?_, fun n1 => ?_⟩
    · have a30 : a3 = 0 := by
        rcases h01 with e | e
        · exact e
        · exact absurd e n1
      refine ⟨fun hz => ?_, fun hz => ⟨fin _ (Or.inl ⟨a30, ?_⟩), s4, k4⟩⟩
      · have nb : ¬ ∃ b, buyO w (LM w) (VM w) w.pr j = some b ∧ b.testBit l = true := fun z => by rw [hbt.mpr z] at hz; cases hz
        obtain ⟨m, β, hRk⟩ := j4.2.2.2.rnk
        refine ⟨_, hasLawfulWith_spec (a := 2 ^ l) j4.2.1 hRk (tR_w w id j) (by omega) (by omega), ?_⟩
        rintro v3 σ5 ⟨rfl, hv3⟩ hf5
        refine ⟨fun hv => ?_, fun hv => ⟨fin _ (Or.inl ⟨a30, ?_⟩), s4, k4⟩⟩
        · have hs : ∃ b, b < 2 ^ w.N ∧ LM w j b = true ∧ b.testBit l = true := by
            rcases hv3 with ⟨-, b, q1, q2, q3⟩ | ⟨q, -⟩
            · exact ⟨b, q1, q2, tb_and.mp q3⟩
            · exact absurd q hv
          refine ⟨fun hx => ⟨fin _ (Or.inl ⟨a30, ?_⟩), s4, k4⟩, fun hx => ⟨fin _ (Or.inl ⟨a30, ?_⟩), s4, k4⟩⟩
          · unfold whyI; rw [if_neg nb, if_pos hs, if_neg (fun z => hx (obI.mpr z))]; rfl
          · unfold whyI; rw [if_neg nb, if_pos hs, if_pos (obI.mp hx)]; rfl
        · have hs : ¬ ∃ b, b < 2 ^ w.N ∧ LM w j b = true ∧ b.testBit l = true := by
            rintro ⟨b, q1, q2, q3⟩
            rcases hv3 with ⟨q, -⟩ | ⟨-, q⟩
            · rw [hv] at q; cases q
            · exact q b q1 q2 (tb_and.mpr q3)
          unfold whyI; rw [if_neg nb, if_neg hs]; rfl
      · have hb : ∃ b, buyO w (LM w) (VM w) w.pr j = some b ∧ b.testBit l = true := hbt.mp (by simpa using hz)
        unfold whyI; rw [if_pos hb]; rfl
    · refine ⟨fun hz => ⟨fin _ (Or.inr ⟨n1, ?_⟩), s4, k4⟩, fun hz => ⟨fun hx => ⟨fin _ (Or.inr ⟨n1, ?_⟩), s4, k4⟩, fun hx => ⟨fin _ (Or.inr ⟨n1, ?_⟩), s4, k4⟩⟩⟩
      · have hb : ∃ b, buyO w (LM w) (VM w) w.pr j = some b ∧ b.testBit l = true := hbt.mp (by simpa using hz)
        rw [if_neg]; unfold whyI; rw [if_pos hb]; decide
      · have nb : ¬ ∃ b, buyO w (LM w) (VM w) w.pr j = some b ∧ b.testBit l = true := fun z => by rw [hbt.mpr z] at hz; cases hz
        have hne : ob ≠ none := fun z => hx (obI.mpr z)
        rw [if_pos (by unfold whyI; rw [if_neg nb, if_pos (hsome hne), if_neg hne]), hm]
        cases ob with
        | none => exact absurd rfl hne
        | some c => rfl
      · have nb : ¬ ∃ b, buyO w (LM w) (VM w) w.pr j = some b ∧ b.testBit l = true := fun z => by rw [hbt.mpr z] at hz; cases hz
        rw [if_neg]; unfold whyI; rw [if_neg nb, if_pos (obI.mp hx)]
        split <;> decide
  · rw [le_ti, o]
    rcases z.2.2 with e | e
    · rw [e, z0]; decide
    · rw [e, o]; decide
