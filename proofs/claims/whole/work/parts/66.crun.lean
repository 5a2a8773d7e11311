/-! ===== the component: the search, whole ===== -/
theorem goOn_spec {d n : Nat} {σ : St} {w : Wd} {pd : Nat → Nat} {t : Tb} {s : Se} (hn : FIX ≤ n) (hd : 4 ≤ d) (hS : CS σ n w pd t s) (hw : WW w) (hV : vW t.2) (hs : SeOk s) (hg : s.g + 1 ≤ 60) : Cn d n M_X8_goOn md_X8_goOn [.ref 7] σ (liI (fun v σ' => v = 0 ∧ chU w t s (w.N + 1) = none ∧ CS σ' n w pd t s ∨ v = 1 ∧ ∃ k, chU w t s (w.N + 1) = some k ∧ CS σ' n w pd t (goS w t s k))) := by
  have hN := hw.N
  have z0 : (0 : Int32).toInt = 0 := by decide
  refine S_X8_goOn hn (by omega) ⟨_, squareAt_spec hn (by omega) hS.1 hw hV (hs.1 s.g).ok (Or.inr (Or.inl rfl)) hS.2.2.2.2.2.1 hS.2.1, ?_⟩
  rintro v σ1 ⟨g1, g2, g3⟩ hf1
  have hS1 := hS.st hf1 (by decide) g2.z
  refine ⟨_, copy_spec (by omega) (ar_25 hn) (ar_30 hn), ?_⟩
  rintro σ2 ⟨p1, p2, p3⟩ hf2
  have hS2 : CS (sI σ2 7 9 (-1)) n w pd t s := (hS1.mv 30 (by omega) p2 p3).set (by omega)
  have o2 : ∀ l, l < w.N → (gI (sI σ2 7 9 (-1)) 30 l).toInt = ovN w t (s.r s.g) l := fun l hl => by
    rw [gI_sI_ne (by omega), p1 l (by omega)]; exact g3 l hl
  generalize hQ : (fun (v : Int32) (σ' : St) => v = 0 ∧ chU w t s (w.N + 1) = none ∧ CS σ' n w pd t s ∨ v = 1 ∧ ∃ k, chU w t s (w.N + 1) = some k ∧ CS σ' n w pd t (goS w t s k)) = Q
  have n1 : (-1 : Int32).toInt = -1 := by decide
  have last : ∀ l, l ≤ w.N → ∀ σ1 : St, CS σ1 n w pd t s → (∀ l, l < w.N → (gI σ1 30 l).toInt = ovN w t (s.r s.g) l) → Cho σ1 w t s (chU w t s w.N) → (∀ l', l' < 10 → gI σ1 31 l' = nI (if l' < l then heldP (s.r s.g l' + ovN w t (s.r s.g) l' * w.sp) else s.r s.g l')) → K_X8_goOn_106 d n σ Q σ1 (nI l) := by
    refine up_ind (N := w.N) ?_ ?_
    · intro σ1 m1 m2 m3 m4
      have hc : ∀ l, l < 10 → gI σ1 31 l = nI (tryC w t (s.r s.g) w.N l) := fun l hl => by
        rw [m4 l hl]
        unfold tryC
        by_cases e : w.N ≤ l
        · rw [if_neg (by omega), if_pos e]
        · rw [if_pos (by omega), if_neg e, if_pos rfl]
      refine B_X8_goOn_106 hn (by omega) ⟨fun _ => ⟨_, consider_spec hn (by omega) m1 hw hV hs (by omega) hc (fun h => absurd h (by omega)) m3, ?_⟩, fun z => absurd (by rw [m1.1.1.N]; exact nI_le (Nat.le_refl _) (by omega)) z⟩
      rintro σ3 ⟨q1, q2⟩ hf3
      rcases hc : chU w t s (w.N + 1) with _ | k
      · have e := q2.1 hc
        refine ⟨fun z => absurd e z, fun _ => ?_⟩
        rw [← hQ]; exact Or.inl ⟨rfl, hc, q1⟩
      · have e := q2.2 k hc
        have rr := sqN_rng hw t (tryC w t (s.r s.g) k)
        refine ⟨fun _ => ⟨_, goToChosen_spec hn (by omega) q1 hw hs hg e, fun σ4 r1 hf4 => ?_⟩, fun z => ?_⟩
        · rw [← hQ]; exact Or.inr ⟨rfl, k, hc, r1⟩
        · have := e.1
          rw [z, n1] at this; omega
    · intro l hl ih σ1 m1 m2 m3 m4
      have ho := m2 l hl
      have hor := ovN_rng hw t (s.r s.g) l
      refine B_X8_goOn_106 hn (by omega) ⟨fun z => absurd z (by rw [m1.1.1.N]; exact nI_ge hl (by omega)), fun _ => ⟨vp_in_nI (by omega) (by decide), ?_⟩⟩
      rw [nI_clamp (by omega)]
      refine ⟨_, change_spec hn (by omega) m1 hw hs (by omega) (by omega), ?_⟩
      rintro σ3 rfl hf3
      rw [nI_1]
      refine ih _ (m1.set (by omega)) (fun l' hl' => by rw [gI_sI_ne (by omega)]; exact m2 l' hl') (m3.mv (gI_sI_ne (by omega)) (fun _ => gI_sI_ne (by omega))) (fun l' hl' => ?_)
      rw [gI_sI]
      by_cases e : l' = l
      · rw [if_pos ⟨rfl, e⟩, if_pos (by omega), ho, e]
      · rw [if_neg (fun z => e z.2), m4 l' hl']
        have e2 : l' < l + 1 ↔ l' < l := by omega
        simp only [e2]
  have loop : ∀ k, k ≤ w.N → ∀ σ1 : St, CS σ1 n w pd t s → (∀ l, l < w.N → (gI σ1 30 l).toInt = ovN w t (s.r s.g) l) → Cho σ1 w t s (chU w t s k) → K_X8_goOn_33 d n σ Q σ1 (nI k) := by
    refine up_ind (N := w.N) ?_ ?_
    · intro σ1 m1 m2 m3
      refine B_X8_goOn_33 hn (by omega) ⟨fun _ => ⟨_, copy_spec (by omega) (ar_29 hn) (ar_31 hn), ?_⟩, fun z => absurd (by rw [m1.1.1.N]; exact nI_le (Nat.le_refl _) (by omega)) z⟩
      rintro σ3 ⟨q1, q2, q3⟩ hf3
      refine last 0 (by omega) σ3 (m1.mv 31 (by omega) q2 q3) (fun l hl => by rw [q2 _ _ (by decide)]; exact m2 l hl) (m3.mv (q2 _ _ (by decide)) (fun _ => q2 _ _ (by decide))) (fun l' hl' => ?_)
      rw [q1 l' hl', if_neg (by omega)]; exact m1.2.2.2.2.2.1 l' hl'
    · intro k hk ih σ1 m1 m2 m3
      have ho := m2 k hk
      refine B_X8_goOn_33 hn (by omega) ⟨fun z => absurd z (by rw [m1.1.1.N]; exact nI_ge hk (by omega)), fun _ => ⟨vp_in_nI (by omega) (by decide), ?_⟩⟩
      rw [nI_clamp (by omega), nI_1]
      refine ⟨fun hz => ?_, fun hz => ?_⟩
      · have e : chU w t s (k + 1) = chU w t s k := chU_no (fun h => absurd (by rw [← ho, hz]; rfl) (h.1 hk))
        exact ih σ1 m1 m2 (by rw [e]; exact m3)
      · have hne : ovN w t (s.r s.g) k ≠ 0 := fun e => hz (eq_ti.mpr (by rw [ho, e]; rfl))
        refine ⟨_, copy_spec (by omega) (ar_29 hn) (ar_31 hn), ?_⟩
        rintro σ3 ⟨q1, q2, q3⟩ hf3
        have m1' : CS σ3 n w pd t s := m1.mv 31 (by omega) q2 q3
        have m2' : ∀ l, l < w.N → (gI σ3 30 l).toInt = ovN w t (s.r s.g) l := fun l hl => by rw [q2 _ _ (by decide)]; exact m2 l hl
        have m3' : Cho σ3 w t s (chU w t s k) := m3.mv (q2 _ _ (by decide)) (fun _ => q2 _ _ (by decide))
        have c31 : ∀ l', l' < 10 → gI σ3 31 l' = nI (s.r s.g l') := fun l' hl' => by rw [q1 l' hl']; exact m1.2.2.2.2.2.1 l' hl'
        have go : ∀ a : Int32, a.toInt = (if 0 < ovN w t (s.r s.g) k then 1 else -1) → ∃ Q16 : St → Prop, Cn (d - 1) n M_X8_change md_X8_change [.ref 7, .int (nI k), .int a] σ3 (liV Q16) ∧ ∀ (σ18 : St), Q16 σ18 → Fr md_X8_change σ3 σ18 → ∃ Q22 : St → Prop, Cn (d - 1) n M_X8_consider md_X8_consider [.ref 7] σ18 (liV Q22) ∧ ∀ (σ24 : St), Q22 σ24 → Fr md_X8_consider σ18 σ24 → K_X8_goOn_33 d n σ Q σ24 (nI (k + 1)) := by
          intro a ha
          refine ⟨_, change_spec hn (by omega) m1' hw hs (by omega) (by rw [ha]; split <;> omega), ?_⟩
          rintro σ4 rfl hf4
          refine ⟨_, consider_spec (k := k) hn (by omega) (m1'.set (by omega)) hw hV hs (by omega) (fun l hl => ?_) (fun _ => hne) (m3'.mv (gI_sI_ne (by omega)) (fun _ => gI_sI_ne (by omega))), ?_⟩
          · rw [gI_sI]
            unfold tryC
            by_cases e : l = k
            · rw [if_pos ⟨rfl, e⟩, if_neg (by omega), if_neg (by omega), if_pos e, ha, e]
              congr 2
              split <;> omega
            · rw [if_neg (fun z => e z.2), c31 l hl, if_neg (show ¬ k = w.N by omega), if_neg e]
              split <;> rfl
          · rintro σ5 ⟨r1, r2⟩ hf5
            exact ih σ5 r1 (fun l hl => by rw [hf5.row (by decide), gI_sI_ne (by omega)]; exact m2' l hl) r2
        refine ⟨vp_in_nI (by omega) (by decide), fun hle => go _ ?_, fun hle => go _ ?_⟩
        · have := le_ti.mp hle
          rw [m2' k hk, z0] at this
          rw [if_neg (by omega)]; decide
        · have : ¬ _ ≤ _ := fun z => hle (le_ti.mpr z)
          rw [m2' k hk, z0] at this
          rw [if_pos (by omega)]; decide
  exact loop 0 (by omega) _ hS2 o2 ⟨fun _ => gI_sI_same _ _ _ _, fun z hz => by cases hz⟩
/-- the component with its market, all people fresh -/
def CQ (σ : St) (n : Nat) (w : Wd) (pd : Nat → Nat) (t : Tb) : Prop := CX σ n w pd t.1 t.2 ∧ (gI σ 26 0 = 0 ∧ gI σ 27 0 = 0) ∧ gI σ 6 3 = nI w.sp ∧ ∀ l, l < 10 → gI σ 24 l = nI (w.pr l)
theorem run_spec {d n : Nat} {σ : St} {w : Wd} {pd : Nat → Nat} {t : Tb} {m : Nat} (hn : FIX ≤ n) (hd : 5 ≤ d) (hQ0 : CQ σ n w pd t) (hw : WW w) (hV : vW t.2) (hm : m ≤ 60) : Cn d n M_X8_run md_X8_run [.ref 7, .int (nI m)] σ (liV (fun σ' => CS σ' n w pd t (fitS w t m))) := by
  obtain ⟨b1, b2, b3, b4⟩ := hQ0
  refine S_X8_run hn (by omega) ⟨_, copy_spec (by omega) (ar_24 hn) (ar_29 hn), ?_⟩
  rintro σ1 ⟨p1, p2, p3⟩ hf1
  refine ⟨show vp_in (nI 0) 8 from vp_in_nI (by decide) (by decide), ?_⟩
  refine ⟨_, copy_spec (by omega) (ar_29 hn) (Ar.gone hn (by decide)), ?_⟩
  rintro σ2 ⟨q1, q2, q3⟩ hf2
  refine ⟨_, copy_spec (by omega) (ar_29 hn) (ar_28 hn), ?_⟩
  rintro σ3 ⟨r1, r2, r3⟩ hf3
  have f : ∀ q k, q ≠ 28 → q ≠ 29 → q ≠ 75 → ¬ (q = 7 ∧ k = 4) → gI σ3 q k = gI σ q k := fun q k h1 h2 h3 h4 => by
    rw [r2 _ _ h1, q2 _ _ h3, p2 _ _ h2, gI_sI_ne (by omega)]
  have fR : gR σ3 = gR σ := by rw [r3, q3, p3]; rfl
  have hCX : CX σ3 n w pd t.1 t.2 := b1.fr (b1.1.fr (fun k' _ => f _ _ (by omega) (by omega) (by omega) (by omega)) (fun q' k' _ _ => f _ _ (by omega) (by omega) (by omega) (by omega))) (f _ _ (by omega) (by omega) (by omega) (by omega)) fR (fun q' k' hq => f _ _ (by omega) (by omega) (by omega) (by omega))
  have c29 : ∀ l, l < 10 → gI σ3 29 l = nI (w.pr l) := fun l hl => by rw [r2 _ _ (by decide), q2 _ _ (by decide), p1 l hl, gI_sI_ne (by omega)]; exact b4 l hl
  have c28 : ∀ l, l < 10 → gI σ3 28 l = nI (w.pr l) := fun l hl => by rw [r1 l hl, q2 _ _ (by decide), p1 l hl, gI_sI_ne (by omega)]; exact b4 l hl
  have c75 : ∀ l, l < 10 → gI σ3 75 l = nI (w.pr l) := fun l hl => by
    rw [r2 _ _ (by decide)]
    have := q1 l hl
    rw [show GONE0 + 0 = 75 from rfl] at this
    rw [this, p1 l hl, gI_sI_ne (by omega)]; exact b4 l hl
  have z3 : gI σ3 26 0 = 0 ∧ gI σ3 27 0 = 0 := by rw [f _ _ (by omega) (by omega) (by omega) (by omega), f _ _ (by omega) (by omega) (by omega) (by omega)]; exact b2
  refine ⟨_, squareAt_spec hn (by omega) hCX hw hV (pr_ok hw) (Or.inr (Or.inl rfl)) c29 z3, ?_⟩
  rintro v σ4 ⟨g1, g2, g3⟩ hf4
  generalize hQ : (fun (σ' : St) => CS σ' n w pd t (fitS w t m)) = Q
  have start : CS (sI σ4 7 3 v) n w pd t (0, fun _ => w.pr, w.pr, sqN w t w.pr) := by
    refine ⟨(hCX.st hf4 (by decide)).set (by omega), by rw [gI_sI_ne (by omega), gI_sI_ne (by omega)]; exact g2.z, ?_, ?_, fun k hk hk2 l hl => ?_, fun l hl => ?_, fun l hl => ?_, ?_⟩
    · rw [gI_sI_ne (by omega), hf4.cell (by decide), f _ _ (by omega) (by omega) (by omega) (by omega)]; exact b3
    · rw [gI_sI_ne (by omega), hf4.cell (by decide), r2 _ _ (by decide), q2 _ _ (by decide), p2 _ _ (by decide), gI_sI_same]; rfl
    · have : k = 0 := Nat.le_zero.mp hk
      rw [this, gI_sI_ne (by omega), hf4.row (by decide)]; exact c75 l hl
    · rw [gI_sI_ne (by omega), hf4.row (by decide)]; exact c29 l hl
    · rw [gI_sI_ne (by omega), hf4.row (by decide)]; exact c28 l hl
    · rw [gI_sI_same]; exact g1
  have loop : ∀ i (s : Se) (σ1 : St), s.g + i = m → CS σ1 n w pd t s → SeOk s → runS w t s i = fitS w t m → K_X8_run_60 d n σ Q σ1 (nI m) (nI s.g) := by
    intro i
    induction i with
    | zero =>
      intro s σ1 e m1 m2 m3
      refine B_X8_run_60 hn (by omega) ⟨fun _ => ?_, fun z => absurd (nI_le (by omega) (by omega)) z⟩
      rw [← hQ]; show CS σ1 n w pd t (fitS w t m); rw [← m3]; exact m1
    | succ i ih =>
      intro s σ1 e m1 m2 m3
      refine B_X8_run_60 hn (by omega) ⟨fun z => absurd z (nI_ge (by omega) (by omega)), fun _ => ⟨_, goOn_spec hn (by omega) m1 hw hV m2 (by omega), ?_⟩⟩
      rintro v σ2 (⟨rfl, h1, h2⟩ | ⟨rfl, k, h1, h2⟩) hf
      · refine ⟨fun z => absurd rfl z, fun _ => ?_⟩
        rw [← hQ]; show CS σ2 n w pd t (fitS w t m); rw [← m3]; unfold runS; rw [h1]; exact h2
      · refine ⟨fun _ => ?_, fun z => absurd z (by decide)⟩
        rw [nI_1]
        refine ih (goS w t s k) σ2 (by show s.g + 1 + i = m; omega) h2 (goS_ok m2) ?_
        rw [← m3]; conv => rhs; unfold runS
        rw [h1]
  exact loop m (0, fun _ => w.pr, w.pr, sqN w t w.pr) _ (by show 0 + m = m; omega) start ⟨fun _ => pr_cP hw, pr_cP hw⟩ rfl
