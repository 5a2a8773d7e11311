/-! ===== the model: mending ===== -/
theorem ovr_sp {w : Wd} {c h : Nat → Nat} {l : Nat} : (0 < ovr w c h l ↔ spN w h l < 0) ∧ (spN w h l < 0 → ovr w c h l = - spN w h l) := by
  unfold ovr spN
  split
  · next e => exact ⟨⟨fun z => by omega, fun z => by omega⟩, fun z => by omega⟩
  · exact ⟨⟨fun z => by omega, fun z => by omega⟩, fun z => by omega⟩
theorem MX.cp {σ : St} {w : Wd} {t : Tb} {c c' : Nat → Nat} (h : MX σ w t.1 t.2 c) (e : ∀ l, l < 10 → c l = c' l) : MX σ w t.1 t.2 c' := ⟨h.1, h.2.1, fun l hl => by rw [← e l hl]; exact h.2.2 l hl⟩
theorem mends_M {d n : Nat} {σ : St} {w : Wd} {t : Tb} (hn : FIX ≤ n) (hd : 4 ≤ d) (hM : MX σ w t.1 t.2 w.pr) (hw : WW w) (hV : vOk t.2) : Cn d n M_X12_mends md_X12_mends [.ref 11] σ (liV (fun σ' => ∃ c, MW σ' w t c (addsN w t false 81 false (buyB w t.1 t.2 (mndC w t))))) := by
  have hN := hw.N
  have hP := hw.P
  have hsp := hw.sp
  refine S_X12_mends hn (by omega) ?_
  generalize hR : addsN w t false 81 false (buyB w t.1 t.2 (mndC w t)) = R
  generalize hQ : (fun (σ' : St) => ∃ c, MW σ' w t c R) = Q
  have loop : ∀ i (h1 : Nat → Nat) (σ1 : St) (c : Nat → Nat), 80 < i + hv w h1 → hOk w h1 → MW σ1 w t c h1 → addsN w t false i false h1 = R → K_X12_mends_108 d n σ Q σ1 1 := by
    intro i
    induction i with
    | zero => intro h1 σ1 c e1 e2 e3 e4; have := hv_le hw h1; omega
    | succ i ih =>
      intro h1 σ1 c e1 e2 e3 e4
      refine B_X12_mends_108 hn (by omega) ⟨fun z => absurd z (by decide), fun _ => ⟨_, allAdd_M (b := false) hn (by omega) e3 hw e2, ?_⟩⟩
      rintro v σ2 ⟨f1, f2⟩ hf
      unfold addsN at e4
      cases er : (rnd w t false h1).2 with
      | false =>
        rw [er] at e4 f2
        rw [f2]
        refine B_X12_mends_108 hn (by omega) ⟨fun _ => ?_, fun z => absurd rfl z⟩
        rw [← hQ]; exact ⟨c, by rw [← e4]; exact f1⟩
      | true =>
        rw [if_pos er] at e4
        rw [er] at f2
        have hb := rnd_hv er
        rw [f2]
        exact ih (rnd w t false h1).1 σ2 c (by omega) (rndT_ok e2 _) f1 e4
  have copy : ∀ p, p ≤ w.P → ∀ (σ1 : St) (c : Nat → Nat), MX σ1 w t.1 t.2 c → (∀ q, q < w.P → gI σ1 64 q = nI (buyB w t.1 t.2 (mndC w t) q)) → (∀ q, q < p → gI σ1 71 q = nI (buyB w t.1 t.2 (mndC w t) q)) → K_X12_mends_80 d n σ Q σ1 (nI p) := by
    refine up_ind (N := w.P) ?_ ?_
    · intro σ1 c m1 m2 m3
      refine B_X12_mends_80 hn (by omega) ⟨fun _ => ?_, fun z => absurd (by rw [m1.1.P]; exact nI_le (Nat.le_refl _) (by omega)) z⟩
      exact loop 81 _ σ1 c (by omega) (buyB_ok w t _) ⟨m1, m3⟩ hR
    · intro p hp ih σ1 c m1 m2 m3
      have hv : vp_in (nI p) 8 := vp_in_nI (by omega) (by decide)
      refine B_X12_mends_80 hn (by omega) ⟨fun z => absurd z (by rw [m1.1.P]; exact nI_ge hp (by omega)), fun _ => ⟨hv, hv, ?_⟩⟩
      rw [nI_clamp (by omega), nI_1, m2 p hp]
      refine ih _ c (m1.wr 71 p _ (by omega)) (fun q hq => by rw [gI_sI_ne (by omega)]; exact m2 q hq) (fun q hq => ?_)
      rw [gI_sI]
      by_cases e : q = p
      · rw [if_pos ⟨rfl, e⟩, e]
      · rw [if_neg (fun z => e z.2)]; exact m3 q (by omega)
  have grow : ∀ i (c : Nat → Nat) (σ1 : St), potU c w.N ≤ i → cP c → MX σ1 w t.1 t.2 c → mendC w t i c = mndC w t → K_X12_mends_0 d n σ Q σ1 := by
    intro i
    induction i with
    | zero =>
      intro c σ1 e1 e2 e3 e4
      refine B_X12_mends_0 hn (by omega) ⟨_, squares_spec hn (by omega) e3 hw hV e2.ok, ?_⟩
      rintro v σ2 ⟨g1, g2, g3⟩ hf
      have m2 := e3.st hf (by decide)
      have hno := ful_none (t := t) hw (show potU c w.N = 0 by omega)
      have find : ∀ l, l ≤ w.N → K_X12_mends_9 d n σ Q σ2 (-1) (nI l) := by
        refine up_ind (N := w.N) ?_ ?_
        · refine B_X12_mends_9 hn (by omega) ⟨fun _ => ⟨fun z => absurd rfl z, fun _ => copy 0 (by omega) σ2 c m2 ?_ (fun q h => absurd h (by omega))⟩, fun z => absurd (by rw [m2.1.N]; exact nI_le (Nat.le_refl _) (by omega)) z⟩
          rw [← e4]; exact g2
        · intro l hl ih
          refine B_X12_mends_9 hn (by omega) ⟨fun z => absurd z (by rw [m2.1.N]; exact nI_ge hl (by omega)), fun _ => ⟨vp_in_nI (by omega) (by decide), ?_⟩⟩
          rw [nI_clamp (by omega), nI_1]
          refine ⟨fun _ => ih, fun z => ?_⟩
          have h0 := amx_none hno l hl
          have : ¬ (gI σ2 65 l).toInt ≤ (0 : Int32).toInt := fun e => z (le_ti.mpr e)
          rw [g3 l hl, show (0 : Int32).toInt = 0 by decide] at this
          exact absurd ((ovr_sp (w := w) (c := c) (h := buyB w t.1 t.2 c) (l := l)).1.mp (by omega)) (of_decide_eq_false h0)
      exact find 0 (by omega)
    | succ i ih0 =>
      intro c σ1 e1 e2 e3 e4
      refine B_X12_mends_0 hn (by omega) ⟨_, squares_spec hn (by omega) e3 hw hV e2.ok, ?_⟩
      rintro v σ2 ⟨g1, g2, g3⟩ hf
      have m2 := e3.st hf (by decide)
      generalize hb : buyB w t.1 t.2 c = B at g1 g2 g3
      have find : ∀ l, l ≤ w.N → K_X12_mends_9 d n σ Q σ2 (optI (amx (fun l => decide (spN w B l < 0)) (fun l => - spN w B l) l)) (nI l) := by
        refine up_ind (N := w.N) ?_ ?_
        · have ef : amx (fun l => decide (spN w B l < 0)) (fun l => - spN w B l) w.N = fulO w (buyB w t.1 t.2 c) := by rw [hb]; rfl
          refine B_X12_mends_9 hn (by omega) ⟨fun _ => ?_, fun z => absurd (by rw [m2.1.N]; exact nI_le (Nat.le_refl _) (by omega)) z⟩
          rw [ef]
          unfold mendC at e4
          cases ho : fulO w (buyB w t.1 t.2 c) with
          | none =>
            rw [ho] at e4
            refine ⟨fun z => absurd rfl z, fun _ => copy 0 (by omega) σ2 c m2 ?_ (fun q h => absurd h (by omega))⟩
            rw [← e4]; show ∀ q, q < w.P → gI σ2 64 q = nI (buyB w t.1 t.2 c q); rw [hb]; exact g2
          | some l =>
            rw [ho] at e4
            obtain ⟨l1, l2⟩ := ful_le hw ho
            have hv : vp_in (nI l) 10 := vp_in_nI (by omega) (by decide)
            refine ⟨fun _ => ⟨hv, hv, ?_⟩, fun z => absurd z (optI_ne (by omega))⟩
            show K_X12_mends_0 d n σ Q (sI σ2 63 (nI l).toNatClampNeg (gI σ2 63 (nI l).toNatClampNeg + gI σ2 11 4))
            rw [nI_clamp (by omega), m2.2.2 l (by omega), m2.1.sp]
            have ea : nI (c l) + nI w.sp = nI (c l + w.sp) := by
              rw [eq_ti, ti_add] <;> rw [nI_toInt (by omega), nI_toInt (by omega)] <;> (try rw [nI_toInt (by omega)]) <;> omega
            rw [ea]
            exact ih0 _ _ (ful_pot hw ho e1) (ful_cP hw ho e2) m2.now e4
        · intro l hl ih
          refine B_X12_mends_9 hn (by omega) ⟨fun z => absurd z (by rw [m2.1.N]; exact nI_ge hl (by omega)), fun _ => ⟨vp_in_nI (by omega) (by decide), ?_⟩⟩
          have z0 : (0 : Int32).toInt = 0 := by decide
          rw [nI_clamp (by omega), nI_1]
          refine ⟨fun hle => ?_, fun hle => ?_⟩
          · have := le_ti.mp hle
            rw [g3 l hl, z0] at this
            rw [amx_no (fun hx => absurd ((ovr_sp (w := w) (c := c) (h := B) (l := l)).1.mpr (of_decide_eq_true hx)) (by omega))] at ih
            exact ih
          · have h1 : ¬ (gI σ2 65 l).toInt ≤ (0 : Int32).toInt := fun e => hle (le_ti.mpr e)
            rw [g3 l hl, z0] at h1
            have h2 : spN w B l < 0 := (ovr_sp (w := w) (c := c) (h := B) (l := l)).1.mp (by omega)
            have h3 := (ovr_sp (w := w) (c := c) (h := B) (l := l)).2 h2
            cases ho : amx (fun l => decide (spN w B l < 0)) (fun l => - spN w B l) l with
            | none =>
              rw [amx_yes (decide_eq_true h2) (fun z hz => by rw [ho] at hz; cases hz)] at ih
              exact ⟨fun _ => ih, fun z => absurd rfl z⟩
            | some k =>
              have hk := amx_lt ho
              have hkn : spN w B k < 0 := of_decide_eq_true hk.2
              have h4 := (ovr_sp (w := w) (c := c) (h := B) (l := k)).2 hkn
              refine ⟨fun z => absurd z (optI_ne (by omega)), fun _ => ⟨vp_in_nI (by omega) (by decide), vp_in_nI (by omega) (by decide), ?_⟩⟩
              show (gI σ2 65 l ≤ gI σ2 65 (nI k).toNatClampNeg → K_X12_mends_9 d n σ Q σ2 (nI k) (nI (l + 1))) ∧ (¬ gI σ2 65 l ≤ gI σ2 65 (nI k).toNatClampNeg → K_X12_mends_9 d n σ Q σ2 (nI l) (nI (l + 1)))
              rw [nI_clamp (by omega)]
              refine ⟨fun hle2 => ?_, fun hle2 => ?_⟩
              · have := le_ti.mp hle2
                rw [g3 l hl, g3 k (by omega), h3, h4] at this
                rw [amx_no (fun _ => ⟨k, ho, by omega⟩), ho] at ih
                exact ih
              · have : ¬ (gI σ2 65 l).toInt ≤ (gI σ2 65 k).toInt := fun e => hle2 (le_ti.mpr e)
                rw [g3 l hl, g3 k (by omega), h3, h4] at this
                rw [amx_yes (decide_eq_true h2) (fun z hz => by rw [ho] at hz; cases hz; omega)] at ih
                exact ih
      exact find 0 (by omega)
  exact grow 2010 w.pr σ (potU_2010 hw _) (pr_cP hw) hM rfl
