/-! ===== the model: goesOn, fits ===== -/
theorem squares_MT {d n : Nat} {σ : St} {w : Wd} {c : Nat → Nat} (hn : FIX ≤ n) (hd : 3 ≤ d) (hM : MT σ w c) (hw : WW w) (hc : cOk c) : Cn d n M_X12_squares md_X12_squares [.ref 11] σ (liI (fun v σ' => MT σ' w c ∧ v.toInt = sqN w (tM w) c ∧ (∀ p, p < w.P → gI σ' 64 p = nI (buyB w (LM w) (VM w) c p)) ∧ ∀ l, l < w.N → (gI σ' 65 l).toInt = ovN w (tM w) c l)) :=
  Cn.wk (squares_spec hn hd (hM.x hw) hw (VM_ok w) hc) (by
    rintro v σ' ⟨x, rfl, h1, h2, h3⟩ hf
    exact ⟨x, rfl, hM.st hw hf (by decide), h1, h2, h3⟩)
theorem sqN_rng {w : Wd} (hw : WW w) (t : Tb) (c : Nat → Nat) : 0 ≤ sqN w t c ∧ sqN w t c ≤ 810 := by
  have h := sqU_rng hw c (buyB w t.1 t.2 c) w.N
  have hN := hw.N
  unfold sqN
  have e : sqU (ovN w t c) w.N = sqU (ovr w c (buyB w t.1 t.2 c)) w.N := rfl
  omega
/-- the model's rows while a step is written down -/
theorem goesOn_M {d n : Nat} {σ : St} {w : Wd} {s : Se} {c : Nat → Nat} (hn : FIX ≤ n) (hd : 4 ≤ d) (hM : MT σ w c) (hw : WW w) (hS : MS σ w s) (hs : SeOk s) (hg : s.g + 1 ≤ 60) : Cn d n M_X12_goesOn md_X12_goesOn [.ref 11] σ (liI (fun v σ' => (∃ c', MT σ' w c') ∧ (v = 0 ∧ chU w (tM w) s (w.N + 1) = none ∧ MS σ' w s ∨ v = 1 ∧ ∃ k, chU w (tM w) s (w.N + 1) = some k ∧ MS σ' w (goS w (tM w) s k)))) := by
  have hN := hw.N
  refine S_X12_goesOn hn (by omega) ?_
  generalize hQ : (fun (v : Int32) (σ' : St) => (∃ c', MT σ' w c') ∧ (v = 0 ∧ chU w (tM w) s (w.N + 1) = none ∧ MS σ' w s ∨ v = 1 ∧ ∃ k, chU w (tM w) s (w.N + 1) = some k ∧ MS σ' w (goS w (tM w) s k))) = Q
  -- the step is written down
  have write : ∀ k, chU w (tM w) s (w.N + 1) = some k → ∀ (x2 : Int32) (σ1 : St), MT σ1 w (tryC w (tM w) (s.r s.g) k) → MS σ1 w s → x2.toInt = sqN w (tM w) (tryC w (tM w) (s.r s.g) k) → (∀ l, l < w.N → (gI σ1 65 l).toInt = ovN w (tM w) (tryC w (tM w) (s.r s.g) k) l) → K_X12_goesOn_109 d n σ Q (sI σ1 11 49 (gI σ1 11 49 + 1)) x2 0 := by
    intro k hk x2 σ1 h1 h2 h3 h4
    generalize hct : tryC w (tM w) (s.r s.g) k = ct at h1 h3 h4
    obtain ⟨a1, a2, a3, a4, a5, a6, a7⟩ := h2
    have last : ∀ l, l ≤ 10 → ∀ σ2 : St, MT σ2 w ct → gI σ2 11 49 = nI (s.g + 1) → (gI σ2 11 50).toInt = s.q → (∀ k, k ≤ s.g + 1 → ∀ l, l < 10 → gI σ2 66 (10 * k + l) = nI (if k = s.g + 1 then ct l else s.r k l)) → (∀ l, l < w.N → (gI σ2 68 l).toInt = ovN w (tM w) ct l) → (∀ l, w.N ≤ l → l < 10 → gI σ2 68 l = 0) → (∀ l, l < 10 → gI σ2 70 l = nI (ct l)) → (∀ l', l' < l → gI σ2 67 l' = nI (ct l')) → (∀ l', l' < 10 → gI σ2 69 l' = nI (if l' < l ∧ sqN w (tM w) ct < s.q then ct l' else s.b l')) → K_X12_goesOn_179 d n σ Q σ2 x2 (nI l) := by
      refine up_ind (N := 10) ?_ ?_
      · intro σ2 m1 m2 m3 m4 m5 m6 m7 m8 m9
        refine B_X12_goesOn_179 hn (by omega) ⟨fun _ => ?_, fun h => absurd (by decide) h⟩
        rw [← hQ]
        refine ⟨⟨ct, m1.1.fr (fun q k hk => gI_sI_ne (by unfold keepM at hk; omega)), by rw [gI_sI_ne (by omega)]; exact m1.2.1, fun r hr => (m1.2.2.1 r hr).fr (fun k _ _ => ⟨gI_sI_ne (by omega), gI_sI_ne (by omega)⟩), fun k hk => by rw [gI_sI_ne (by omega)]; exact m1.2.2.2 k hk⟩, Or.inr ⟨rfl, k, hk, ?_⟩⟩
        have er : ∀ i l, (goS w (tM w) s k).r i l = if i = s.g + 1 then ct l else s.r i l := fun i l => by
          show (if i = s.g + 1 then tryC w (tM w) (s.r s.g) k else s.r i) l = _
          rw [hct]; split <;> rfl
        have eg : (goS w (tM w) s k).g = s.g + 1 := rfl
        have eb : ∀ l, (goS w (tM w) s k).b l = if sqN w (tM w) ct < s.q then ct l else s.b l := fun l => by
          show (if sqN w (tM w) (tryC w (tM w) (s.r s.g) k) < s.q then tryC w (tM w) (s.r s.g) k else s.b) l = _
          rw [hct]; split <;> rfl
        have eq : (goS w (tM w) s k).q = min s.q (sqN w (tM w) ct) := by
          show min s.q (sqN w (tM w) (tryC w (tM w) (s.r s.g) k)) = _
          rw [hct]
        have ec : ((goS w (tM w) s k).r (goS w (tM w) s k).g) = ct := funext fun l => by rw [er, eg, if_pos rfl]
        refine ⟨by rw [gI_sI_ne (by omega)]; exact m2, fun k' hk' l hl => ?_, fun l hl => ?_, fun l hl => ?_, fun l hl hl2 => ?_, fun l hl => ?_, ?_⟩
        · rw [gI_sI_ne (by omega), er]; exact m4 k' (by rw [eg] at hk'; exact hk') l hl
        · rw [gI_sI_ne (by omega), ec]; exact m8 l hl
        · rw [gI_sI_ne (by omega), ec]; exact m5 l hl
        · rw [gI_sI_ne (by omega)]; exact m6 l hl hl2
        · rw [gI_sI_ne (by omega), eb, m9 l hl]
          simp only [hl, true_and]
        · rw [gI_sI_same, eq, mnI_ti, m3, h3]
      · intro l hl ih σ2 m1 m2 m3 m4 m5 m6 m7 m8 m9
        have hv : vp_in (nI l) 10 := vp_in_nI (by omega) (by decide)
        have mt : ∀ (σ3 : St) (q : Nat) (v : Int32), MT σ3 w ct → (q = 67 ∨ q = 69) → MT (sI σ3 q l v) w ct := fun σ3 q v m1 hq => ⟨m1.1.fr (fun q' k hk => gI_sI_ne (by unfold keepM at hk; omega)), by rw [gI_sI_ne (by omega)]; exact m1.2.1, fun r hr => (m1.2.2.1 r hr).fr (fun k _ _ => ⟨gI_sI_ne (by omega), gI_sI_ne (by omega)⟩), fun k hk => by rw [gI_sI_ne (by omega)]; exact m1.2.2.2 k hk⟩
        refine B_X12_goesOn_179 hn (by omega) ⟨fun h => absurd h (by rw [show (10 : Int32) = nI 10 from rfl]; exact nI_ge hl (by decide)), fun _ => ⟨hv, hv, ?_⟩⟩
        rw [nI_clamp (by omega), gI_sI_ne (j := 11) (by omega), gI_sI_ne (j := 70) (by omega), m7 l hl, nI_1]
        refine ⟨fun hle => ?_, fun hle => ⟨hv, hv, ?_⟩⟩
        · have hnl : ¬ sqN w (tM w) ct < s.q := by have := le_ti.mp hle; rw [m3, h3] at this; omega
          refine ih _ (mt _ _ _ m1 (Or.inl rfl)) (by rw [gI_sI_ne (by omega)]; exact m2) (by rw [gI_sI_ne (by omega)]; exact m3) (fun k hk l hl => by rw [gI_sI_ne (by omega)]; exact m4 k hk l hl) (fun l hl => by rw [gI_sI_ne (by omega)]; exact m5 l hl) (fun l hl hl2 => by rw [gI_sI_ne (by omega)]; exact m6 l hl hl2) (fun l hl => by rw [gI_sI_ne (by omega)]; exact m7 l hl) (fun l' hl' => ?_) (fun l' hl' => ?_)
          · rw [gI_sI]
            by_cases e : l' = l
            · rw [if_pos ⟨rfl, e⟩, e]
            · rw [if_neg (fun z => e z.2)]; exact m8 l' (by omega)
          · rw [gI_sI_ne (by omega), m9 l' hl', if_neg (fun z => hnl z.2), if_neg (fun z => hnl z.2)]
        · have hnl : sqN w (tM w) ct < s.q := by
            have : ¬ (gI σ2 11 50).toInt ≤ x2.toInt := fun z => hle (le_ti.mpr z)
            rw [m3, h3] at this; omega
          refine ih _ (mt _ _ _ (mt _ _ _ m1 (Or.inl rfl)) (Or.inr rfl)) (by rw [gI_sI_ne (by omega), gI_sI_ne (by omega)]; exact m2) (by rw [gI_sI_ne (by omega), gI_sI_ne (by omega)]; exact m3) (fun k hk l hl => by rw [gI_sI_ne (by omega), gI_sI_ne (by omega)]; exact m4 k hk l hl) (fun l hl => by rw [gI_sI_ne (by omega), gI_sI_ne (by omega)]; exact m5 l hl) (fun l hl hl2 => by rw [gI_sI_ne (by omega), gI_sI_ne (by omega)]; exact m6 l hl hl2) (fun l hl => by rw [gI_sI_ne (by omega), gI_sI_ne (by omega)]; exact m7 l hl) (fun l' hl' => ?_) (fun l' hl' => ?_)
          · rw [gI_sI_ne (by omega), gI_sI]
            by_cases e : l' = l
            · rw [if_pos ⟨rfl, e⟩, e]
            · rw [if_neg (fun z => e z.2)]; exact m8 l' (by omega)
          · rw [gI_sI]
            by_cases e : l' = l
            · rw [if_pos ⟨rfl, e⟩, if_pos ⟨by omega, hnl⟩, e]
            · rw [if_neg (fun z => e z.2), gI_sI_ne (by omega), m9 l' hl']
              have e2 : (l' < l + 1) ↔ (l' < l) := by omega
              simp only [e2]
    have mt : ∀ (σ3 : St) (q k : Nat) (v : Int32), MT σ3 w ct → (q = 66 ∨ q = 68 ∨ q = 70 ∨ q = 11 ∧ k = 49) → MT (sI σ3 q k v) w ct := fun σ3 q k v m1 hq => ⟨m1.1.fr (fun q' k' hk => gI_sI_ne (by unfold keepM at hk; omega)), by rw [gI_sI_ne (by omega)]; exact m1.2.1, fun r hr => (m1.2.2.1 r hr).fr (fun k _ _ => ⟨gI_sI_ne (by omega), gI_sI_ne (by omega)⟩), fun k hk => by rw [gI_sI_ne (by omega)]; exact m1.2.2.2 k hk⟩
    have first : ∀ l, l ≤ 10 → ∀ σ2 : St, MT σ2 w ct → gI σ2 11 49 = nI (s.g + 1) → (gI σ2 11 50).toInt = s.q → (∀ k, k ≤ s.g → ∀ l, l < 10 → gI σ2 66 (10 * k + l) = nI (s.r k l)) → (∀ l', l' < l → gI σ2 66 (10 * (s.g + 1) + l') = nI (ct l')) → (∀ l', l' < l → l' < w.N → (gI σ2 68 l').toInt = ovN w (tM w) ct l') → (∀ l', w.N ≤ l' → l' < l → gI σ2 68 l' = 0) → (∀ l', l' < l → gI σ2 70 l' = nI (ct l')) → (∀ l', l' < w.N → (gI σ2 65 l').toInt = ovN w (tM w) ct l') → (∀ l', l' < 10 → gI σ2 69 l' = nI (s.b l')) → K_X12_goesOn_109 d n σ Q σ2 x2 (nI l) := by
      refine up_ind (N := 10) ?_ ?_
      · intro σ2 m1 m2 m3 m4 m5 m6 m7 m8 m9 m10
        refine B_X12_goesOn_109 hn (by omega) ⟨fun _ => ?_, fun h => absurd (by decide) h⟩
        refine last 0 (by decide) σ2 m1 m2 m3 (fun k hk l hl => ?_) (fun l hl => m6 l (by omega) hl) (fun l hl hl2 => m7 l hl hl2) (fun l hl => m8 l hl) (fun l' h => absurd h (by omega)) (fun l' hl' => ?_)
        · by_cases e : k = s.g + 1
          · rw [if_pos e, e]; exact m5 l hl
          · rw [if_neg e]; exact m4 k (by omega) l hl
        · rw [if_neg (fun z => absurd z.1 (by omega))]; exact m10 l' hl'
      · intro l hl ih σ2 m1 m2 m3 m4 m5 m6 m7 m8 m9 m10
        have hv : vp_in (nI l) 10 := vp_in_nI (by omega) (by decide)
        have e2 : 10 * nI (s.g + 1) + nI l = nI (10 * (s.g + 1) + l) := by
          rw [eq_ti, ti_add, ti_mul] <;> (try rw [ti_mul]) <;> rw [nI_toInt (by omega)] <;> (try rw [nI_toInt (by omega)]) <;> (try rw [nI_toInt (by omega)]) <;> (try rw [show (10 : Int32).toInt = 10 by decide]) <;> omega
        have hvr : vp_in (nI (10 * (s.g + 1) + l)) 610 := vp_in_nI (by omega) (by decide)
        refine B_X12_goesOn_109 hn (by omega) ⟨fun h => absurd h (by rw [show (10 : Int32) = nI 10 from rfl]; exact nI_ge hl (by decide)), fun _ => ?_⟩
        rw [nI_clamp (by omega), gI_sI_ne (σ := σ2) (j := 11) (by omega), m2, e2, nI_clamp (by omega), gI_sI_ne (σ := σ2) (j := 63) (by omega), m1.2.2.2 l hl]
        rw [gI_sI_ne (j := 11) (by omega), gI_sI_ne (j := 11) (by omega), gI_sI_ne (j := 65) (by omega), gI_sI_ne (j := 65) (by omega), m1.1.N, nI_1]
        refine ⟨hv, hv, hv, hvr, fun hle => ⟨hv, ?_⟩, fun hle => ⟨hv, hv, ?_⟩⟩
        · have hln : w.N ≤ l := by
            rcases Nat.lt_or_ge l w.N with z | z
            · exact absurd hle (nI_ge z (by omega))
            · exact z
          refine ih _ (mt _ _ _ _ (mt _ _ _ _ (mt _ _ _ _ m1 (by omega)) (by omega)) (by omega)) (by rw [gI_sI_ne (by omega), gI_sI_ne (by omega), gI_sI_ne (by omega)]; exact m2) (by rw [gI_sI_ne (by omega), gI_sI_ne (by omega), gI_sI_ne (by omega)]; exact m3) (fun k hk l' hl' => by rw [gI_sI_ne (by omega), gI_sI_ne (by omega), gI_sI_ne (by omega)]; exact m4 k hk l' hl') (fun l' hl' => ?_) (fun l' hl' hl2 => by rw [gI_sI_ne (by omega), gI_sI_ne (by omega), gI_sI_ne (by omega)]; exact m6 l' (by omega) hl2) (fun l' hl' hl2 => ?_) (fun l' hl' => ?_) (fun l' hl' => by rw [gI_sI_ne (by omega), gI_sI_ne (by omega), gI_sI_ne (by omega)]; exact m9 l' hl') (fun l' hl' => by rw [gI_sI_ne (by omega), gI_sI_ne (by omega), gI_sI_ne (by omega)]; exact m10 l' hl')
          · rw [gI_sI_ne (by omega), gI_sI]
            by_cases e : l' = l
            · rw [if_pos ⟨rfl, by rw [e]⟩, e]
            · rw [if_neg (fun z => e (by omega)), gI_sI_ne (by omega)]; exact m5 l' (by omega)
          · rw [gI_sI]
            by_cases e : l' = l
            · rw [if_pos ⟨rfl, e⟩]
            · rw [if_neg (fun z => e z.2), gI_sI_ne (by omega), gI_sI_ne (by omega)]; exact m7 l' hl' (by omega)
          · rw [gI_sI_ne (by omega), gI_sI_ne (by omega), gI_sI]
            by_cases e : l' = l
            · rw [if_pos ⟨rfl, e⟩, e]
            · rw [if_neg (fun z => e z.2)]; exact m8 l' (by omega)
        · have hln : l < w.N := by
            rcases Nat.lt_or_ge l w.N with z | z
            · exact z
            · exact absurd (nI_le z (by omega)) hle
          refine ih _ (mt _ _ _ _ (mt _ _ _ _ (mt _ _ _ _ m1 (by omega)) (by omega)) (by omega)) (by rw [gI_sI_ne (by omega), gI_sI_ne (by omega), gI_sI_ne (by omega)]; exact m2) (by rw [gI_sI_ne (by omega), gI_sI_ne (by omega), gI_sI_ne (by omega)]; exact m3) (fun k hk l' hl' => by rw [gI_sI_ne (by omega), gI_sI_ne (by omega), gI_sI_ne (by omega)]; exact m4 k hk l' hl') (fun l' hl' => ?_) (fun l' hl' hl2 => ?_) (fun l' hl' hl2 => by rw [gI_sI_ne (by omega), gI_sI_ne (by omega), gI_sI_ne (by omega)]; exact m7 l' hl' (by omega)) (fun l' hl' => ?_) (fun l' hl' => by rw [gI_sI_ne (by omega), gI_sI_ne (by omega), gI_sI_ne (by omega)]; exact m9 l' hl') (fun l' hl' => by rw [gI_sI_ne (by omega), gI_sI_ne (by omega), gI_sI_ne (by omega)]; exact m10 l' hl')
          · rw [gI_sI_ne (by omega), gI_sI]
            by_cases e : l' = l
            · rw [if_pos ⟨rfl, by rw [e]⟩, e]
            · rw [if_neg (fun z => e (by omega)), gI_sI_ne (by omega)]; exact m5 l' (by omega)
          · rw [gI_sI]
            by_cases e : l' = l
            · rw [if_pos ⟨rfl, e⟩, e]; exact m9 l hln
            · rw [if_neg (fun z => e z.2), gI_sI_ne (by omega), gI_sI_ne (by omega)]; exact m6 l' (by omega) hl2
          · rw [gI_sI_ne (by omega), gI_sI_ne (by omega), gI_sI]
            by_cases e : l' = l
            · rw [if_pos ⟨rfl, e⟩, e]
            · rw [if_neg (fun z => e z.2)]; exact m8 l' (by omega)
    rw [a1, nI_1]
    exact first 0 (by decide) _ (mt _ _ _ _ h1 (by omega)) (gI_sI_same _ _ _ _) (by rw [gI_sI_ne (by omega)]; exact a7) (fun k hk l hl => by rw [gI_sI_ne (by omega)]; exact a2 k hk l hl) (fun l h => absurd h (by omega)) (fun l h => absurd h (by omega)) (fun l _ h => absurd h (by omega)) (fun l h => absurd h (by omega)) (fun l hl => by rw [gI_sI_ne (by omega)]; exact h4 l hl) (fun l hl => by rw [gI_sI_ne (by omega)]; exact a6 l hl)
  have main : ∀ k, k ≤ w.N + 1 → ∀ (σ1 : St) (x1 x2 : Int32) (c1 : Nat → Nat), MT σ1 w c1 → MS σ1 w s → x1 = optI (chU w (tM w) s k) → (∀ z, chU w (tM w) s k = some z → x2.toInt = sqN w (tM w) (tryC w (tM w) (s.r s.g) z)) → K_X12_goesOn_6 d n σ Q σ1 x1 x2 (nI k) := by
    refine up_ind (N := w.N + 1) ?_ ?_
    · intro σ1 x1 x2 c1 m1 m2 m3 m4
      refine B_X12_goesOn_6 hn (by omega) ⟨fun _ => ⟨fun hx => ?_, fun hx => ?_⟩, fun h => absurd (by rw [m1.1.N]; exact nI_lt (by omega) (by omega)) h⟩
      · rcases hc : chU w (tM w) s (w.N + 1) with _ | z
        · rw [m3, hc] at hx; exact absurd rfl hx
        · have hz := chU_lt hc
          have hx1 : x1 = nI z := by rw [m3, hc]; rfl
          rw [hx1]
          refine ⟨_, tries_spec hn (by omega) m1 hw m2 hs (by omega), fun σ2 ⟨a, b⟩ hf => ⟨_, squares_MT hn (by omega) a hw (tryC_ok (hs.1 _)).ok, fun v σ3 ⟨e1, e2, e3, e4⟩ hf2 => ?_⟩⟩
          exact write z hc x2 σ3 e1 (b.st hf2 (by decide)) (m4 z hc) e4
      · rcases hc : chU w (tM w) s (w.N + 1) with _ | z
        · rw [← hQ]; exact ⟨⟨c1, m1⟩, Or.inl ⟨rfl, hc, m2⟩⟩
        · rw [m3, hc] at hx
          exact absurd hx (optI_ne (by have := chU_lt hc; omega))
    · intro k hk ih σ1 x1 x2 c1 m1 m2 m3 m4
      have tail : (k < w.N → ovN w (tM w) (s.r s.g) k ≠ 0) → ∃ Q16 : St → Prop, Cn (d - 1) n M_X12_tries md_X12_tries [.ref 11, .int (nI k)] σ1 (liV Q16) ∧ ∀ (σ18 : St), Q16 σ18 → Fr md_X12_tries σ1 σ18 → ∃ Q22 : Int32 → St → Prop, Cn (d - 1) n M_X12_wasGone md_X12_wasGone [.ref 11] σ18 (liI Q22) ∧ ∀ (v25 : Int32) (σ24 : St), Q22 v25 σ24 → Fr md_X12_wasGone σ18 σ24 → ((v25 = 0 → ∃ Q29 : Int32 → St → Prop, Cn (d - 1) n M_X12_squares md_X12_squares [.ref 11] σ24 (liI Q29) ∧ ∀ (v32 : Int32) (σ31 : St), Q29 v32 σ31 → Fr md_X12_squares σ24 σ31 → ((x1 = (-1) → K_X12_goesOn_6 d n σ Q σ31 (nI k) v32 (nI k + 1)) ∧ (¬ x1 = (-1) → ((v32 < x2 → K_X12_goesOn_6 d n σ Q σ31 (nI k) v32 (nI k + 1)) ∧ (¬ v32 < x2 → K_X12_goesOn_6 d n σ Q σ31 x1 x2 (nI k + 1)))))) ∧ (¬ v25 = 0 → K_X12_goesOn_6 d n σ Q σ24 x1 x2 (nI k + 1))) := by
        intro hov
        refine ⟨_, tries_spec hn (by omega) m1 hw m2 hs (by omega), fun σ2 ⟨a, b⟩ hf => ⟨_, wasGone_spec hn (by omega) a hw b hs (tryC_ok (hs.1 _)) (by omega), ?_⟩⟩
        rintro v σ3 ⟨rfl, hv⟩ hf2
        rw [nI_1]
        refine ⟨fun hv0 => ⟨_, squares_MT hn (by omega) a hw (tryC_ok (hs.1 _)).ok, fun v2 σ4 ⟨e1, e2, e3, e4⟩ hf3 => ?_⟩, fun hv0 => ?_⟩
        · have hcand : candS w (tM w) s k := ⟨hov, by
            rcases hv with ⟨h, _⟩ | ⟨_, h⟩
            · rw [hv0] at h; exact absurd h (by decide)
            · exact h⟩
          have yes : (∀ z, chU w (tM w) s k = some z → sqN w (tM w) (tryC w (tM w) (s.r s.g) k) < sqN w (tM w) (tryC w (tM w) (s.r s.g) z)) → K_X12_goesOn_6 d n σ Q σ4 (nI k) v2 (nI (k + 1)) := fun hh => by
            have e := chU_yes hcand hh
            refine ih σ4 _ _ _ e1 (b.st hf3 (by decide)) (by rw [e]; rfl) (fun z hz => ?_)
            rw [e] at hz; cases hz; exact e2
          refine ⟨fun hx => yes (fun z hz => ?_), fun hx => ⟨fun hlt => yes (fun z hz => ?_), fun hlt => ?_⟩⟩
          · rw [m3, hz] at hx
            exact absurd hx (optI_ne (by have := chU_lt hz; omega))
          · have := lt_ti.mp hlt
            rw [e2, m4 z hz] at this; exact this
          · have e : chU w (tM w) s (k + 1) = chU w (tM w) s k := chU_no (fun _ => by
              rcases hc : chU w (tM w) s k with _ | z
              · rw [m3, hc] at hx; exact absurd rfl hx
              · refine ⟨z, rfl, fun h => hlt (lt_ti.mpr ?_)⟩
                rw [e2, m4 z hc]; exact h)
            exact ih σ4 _ _ _ e1 (b.st hf3 (by decide)) (by rw [e]; exact m3) (by rw [e]; exact m4)
        · have e : chU w (tM w) s (k + 1) = chU w (tM w) s k := chU_no (fun h => by
            rcases hv with ⟨_, h2⟩ | ⟨h2, _⟩
            · exact absurd h2 h.2
            · exact absurd h2 hv0)
          exact ih _ _ _ _ a b (by rw [e]; exact m3) (by rw [e]; exact m4)
      refine B_X12_goesOn_6 hn (by omega) ⟨fun h => absurd h (by rw [m1.1.N]; exact nI_nlt (by omega) (by omega)), fun _ => ⟨fun h => ?_, fun h => ?_⟩⟩
      all_goals rw [m1.1.N] at h
      · refine tail (fun hlt => absurd h (nI_ge hlt (by omega)))
      · have hlt : k < w.N := by
          rcases Nat.lt_or_ge k w.N with z | z
          · exact z
          · exact absurd (nI_le z (by omega)) h
        refine ⟨vp_in_nI (by omega) (by decide), ?_⟩
        rw [nI_clamp (by omega)]
        have ho := m2.2.2.2.1 k hlt
        refine ⟨fun h0 => tail (fun _ h1 => h0 ?_), fun h0 => ?_⟩
        · rw [h1] at ho; exact eq_ti.mpr ho
        · have e : chU w (tM w) s (k + 1) = chU w (tM w) s k := chU_no (fun h => absurd (by rw [← ho, h0]; rfl) (h.1 hlt))
          rw [nI_1]
          exact ih _ _ _ _ m1 m2 (by rw [e]; exact m3) (by rw [e]; exact m4)
  exact main 0 (by omega) σ _ _ c hM hS rfl (fun z hz => by cases hz)
