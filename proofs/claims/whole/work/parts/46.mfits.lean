/-! ===== the model's search, whole ===== -/
theorem MT.mv {σ σ' : St} {w : Wd} {c : Nat → Nat} (h : MT σ w c) (h1 : ∀ q k, keepM q k → gI σ' q k = gI σ q k) (h2 : ∀ k, gI σ' 61 k = gI σ 61 k) (h3 : ∀ k, gI σ' 62 k = gI σ 62 k) (h4 : ∀ k, gI σ' 63 k = gI σ 63 k) (h5 : gI σ' 11 38 = gI σ 11 38) : MT σ' w c :=
  ⟨h.1.fr h1, by rw [h5]; exact h.2.1, fun r hr => (h.2.2.1 r hr).fr (fun k _ _ => ⟨h2 _, h3 _⟩), fun k hk => by rw [h4]; exact h.2.2.2 k hk⟩
/-- a write beside what is kept -/
theorem MT.sI {σ : St} {w : Wd} {c : Nat → Nat} (h : MT σ w c) (q k : Nat) (v : Int32) (hq : 64 ≤ q ∧ q ≤ 82 ∨ q = 11 ∧ (k = 40 ∨ k = 41 ∨ k = 49 ∨ k = 50)) : MT (sI σ q k v) w c :=
  h.mv (fun q' k' hk => gI_sI_ne (by unfold keepM at hk; omega)) (fun k' => gI_sI_ne (by omega)) (fun k' => gI_sI_ne (by omega)) (fun k' => gI_sI_ne (by omega)) (gI_sI_ne (by omega))
theorem runS_ok {w : Wd} {t : Tb} : ∀ {i : Nat} {s : Se}, SeOk s → SeOk (runS w t s i)
  | 0, s, h => h
  | i + 1, s, h => by
    unfold runS
    split
    · exact h
    · exact runS_ok (goS_ok h)
theorem pr_cP {w : Wd} (hw : WW w) : cP w.pr := fun l => hw.pr l
theorem fitS_ok {w : Wd} (hw : WW w) (t : Tb) (n : Nat) : SeOk (fitS w t n) := runS_ok ⟨fun _ => pr_cP hw, pr_cP hw⟩
theorem runS_q {w : Wd} (hw : WW w) {t : Tb} : ∀ {i : Nat} {s : Se}, 0 ≤ s.q ∧ s.q ≤ 810 → 0 ≤ (runS w t s i).q ∧ (runS w t s i).q ≤ 810
  | 0, s, h => h
  | i + 1, s, h => by
    unfold runS
    split
    · exact h
    · next k _ =>
      have := sqN_rng hw t (tryC w t (s.r s.g) k)
      refine runS_q hw ?_
      show 0 ≤ min s.q (sqN w t (tryC w t (s.r s.g) k)) ∧ min s.q (sqN w t (tryC w t (s.r s.g) k)) ≤ 810
      omega
theorem runS_g {w : Wd} {t : Tb} : ∀ {i : Nat} {s : Se}, (runS w t s i).g ≤ s.g + i
  | 0, s => Nat.le_refl _
  | i + 1, s => by
    unfold runS
    split
    · omega
    · next k _ =>
      have := runS_g (w := w) (t := t) (i := i) (s := goS w t s k)
      have e : (goS w t s k).g = s.g + 1 := rfl
      omega
theorem fits_M {d n : Nat} {σ : St} {w : Wd} {m : Nat} (hn : FIX ≤ n) (hd : 9 ≤ d) (hM : MG σ w) (hw : WW w) (hm : m ≤ 60) : Cn d n M_X12_fits md_X12_fits [.ref 11, .int (nI m)] σ (liV (fun σ' => (∃ c', MT σ' w c') ∧ MS σ' w (fitS w (tM w) m))) := by
  have hN := hw.N
  refine S_X12_fits hn (by omega) ⟨_, told_MT hn (by omega) hM hw, fun σ1 h1 hf1 => ⟨_, squares_MT hn (by omega) (h1.sI 11 49 0 (by omega)) hw (pr_ok hw), fun v σ2 ⟨h2, h3, h4, h5⟩ hf2 => ?_⟩⟩
  generalize hQ : (fun σ' : St => (∃ c', MT σ' w c') ∧ MS σ' w (fitS w (tM w) m)) = Q
  have loop : ∀ i (s : Se) (σ1 : St) (c : Nat → Nat), s.g + i = m → MT σ1 w c → MS σ1 w s → SeOk s → runS w (tM w) s i = fitS w (tM w) m → K_X12_fits_93 d n σ Q σ1 (nI m) 1 := by
    intro i
    induction i with
    | zero =>
      intro s σ1 c e m1 m2 m3 m4
      refine B_X12_fits_93 hn (by omega) ⟨fun h => absurd h (by decide), fun _ => ⟨fun _ => ?_, fun h => absurd (by rw [m2.1]; exact nI_le (by omega) (by omega)) h⟩⟩
      rw [← hQ]; exact ⟨⟨c, m1⟩, by rw [← m4]; exact m2⟩
    | succ i ih =>
      intro s σ1 c e m1 m2 m3 m4
      refine B_X12_fits_93 hn (by omega) ⟨fun h => absurd h (by decide), fun _ => ⟨fun h => absurd h (by rw [m2.1]; exact nI_ge (by omega) (by omega)), fun _ => ⟨_, goesOn_M hn (by omega) m1 hw m2 m3 (by omega), ?_⟩⟩⟩
      rintro v σ3 ⟨⟨c', a1⟩, ⟨rfl, a2, a3⟩ | ⟨rfl, k, a2, a3⟩⟩ hf
      · refine B_X12_fits_93 hn (by omega) ⟨fun _ => ?_, fun h => absurd rfl h⟩
        rw [← hQ]; refine ⟨⟨c', a1⟩, ?_⟩
        rw [← m4]; unfold runS; rw [a2]; exact a3
      · refine ih (goS w (tM w) s k) σ3 c' ?_ a1 a3 (goS_ok m3) ?_
        · show s.g + 1 + i = m; omega
        · rw [← m4]; conv => rhs; unfold runS
          rw [a2]
  have fill : ∀ l, l ≤ 10 → ∀ σ1 : St, MT σ1 w w.pr → gI σ1 11 49 = 0 → (gI σ1 11 50).toInt = sqN w (tM w) w.pr → (∀ l, l < w.N → (gI σ1 65 l).toInt = ovN w (tM w) w.pr l) → (∀ l', l' < l → gI σ1 66 l' = nI (w.pr l') ∧ gI σ1 67 l' = nI (w.pr l') ∧ gI σ1 69 l' = nI (w.pr l') ∧ (l' < w.N → (gI σ1 68 l').toInt = ovN w (tM w) w.pr l') ∧ (w.N ≤ l' → gI σ1 68 l' = 0)) → K_X12_fits_19 d n σ Q σ1 (nI m) (nI l) := by
    refine up_ind (N := 10) ?_ ?_
    · intro σ1 m1 m2 m3 m4 m5
      refine B_X12_fits_19 hn (by omega) ⟨fun _ => ?_, fun h => absurd (by decide) h⟩
      refine loop m (0, fun _ => w.pr, w.pr, sqN w (tM w) w.pr) σ1 w.pr (by show 0 + m = m; omega) m1 ⟨m2, ?_, fun l hl => (m5 l hl).2.1, fun l hl => (m5 l (by omega)).2.2.2.1 hl, fun l hl h2 => (m5 l h2).2.2.2.2 hl, fun l hl => (m5 l hl).2.2.1, m3⟩ ⟨fun _ => pr_cP hw, pr_cP hw⟩ rfl
      intro k hk l hl
      have hk0 : k = 0 := Nat.le_zero.mp hk
      rw [hk0, show 10 * 0 + l = l by omega]; exact (m5 l hl).1
    · intro l hl ih σ1 m1 m2 m3 m4 m5
      have hv : vp_in (nI l) 10 := vp_in_nI (by omega) (by decide)
      have hv6 : vp_in (nI l) 610 := vp_in_nI (by omega) (by decide)
      refine B_X12_fits_19 hn (by omega) ⟨fun h => absurd h (by rw [show (10 : Int32) = nI 10 from rfl]; exact nI_ge hl (by decide)), fun _ => ⟨hv, hv, hv, hv, hv, hv6, ?_⟩⟩
      rw [nI_clamp (by omega), gI_sI_ne (σ := σ1) (j := 63) (by omega), m1.2.2.2 l hl, gI_sI_ne (j := 63) (by omega), gI_sI_ne (j := 63) (by omega), m1.2.2.2 l hl]
      rw [gI_sI_ne (j := 11) (by omega), gI_sI_ne (j := 11) (by omega), gI_sI_ne (j := 11) (by omega), gI_sI_ne (j := 65) (by omega), gI_sI_ne (j := 65) (by omega), gI_sI_ne (j := 65) (by omega), m1.1.N, nI_1]
      have go : ∀ v : Int32, (l < w.N → v.toInt = ovN w (tM w) w.pr l) → (w.N ≤ l → v = 0) → K_X12_fits_19 d n σ Q (sI (sI (sI (sI σ1 67 l (nI (w.pr l))) 69 l (nI (w.pr l))) 66 l (nI (w.pr l))) 68 l v) (nI m) (nI (l + 1)) := by
        intro v v1 v2
        refine ih _ ((((m1.sI 67 l _ (by omega)).sI 69 l _ (by omega)).sI 66 l _ (by omega)).sI 68 l _ (by omega)) ?_ ?_ ?_ ?_
        · rw [gI_sI_ne (by omega), gI_sI_ne (by omega), gI_sI_ne (by omega), gI_sI_ne (by omega)]; exact m2
        · rw [gI_sI_ne (by omega), gI_sI_ne (by omega), gI_sI_ne (by omega), gI_sI_ne (by omega)]; exact m3
        · intro l' hl'
          rw [gI_sI_ne (by omega), gI_sI_ne (by omega), gI_sI_ne (by omega), gI_sI_ne (by omega)]; exact m4 l' hl'
        · intro l' hl'
          by_cases e : l' = l
          · subst e
            refine ⟨?_, ?_, ?_, fun z => ?_, fun z => ?_⟩
            · rw [gI_sI_ne (by omega), gI_sI_same]
            · rw [gI_sI_ne (by omega), gI_sI_ne (by omega), gI_sI_ne (by omega), gI_sI_same]
            · rw [gI_sI_ne (by omega), gI_sI_ne (by omega), gI_sI_same]
            · rw [gI_sI_same]; exact v1 z
            · rw [gI_sI_same]; exact v2 z
          · have x := m5 l' (by omega)
            rw [gI_sI_ne (j := 66) (by omega), gI_sI_ne (j := 66) (by omega), gI_sI_ne (j := 66) (by omega), gI_sI_ne (j := 66) (by omega)]
            rw [gI_sI_ne (j := 67) (by omega), gI_sI_ne (j := 67) (by omega), gI_sI_ne (j := 67) (by omega), gI_sI_ne (j := 67) (by omega)]
            rw [gI_sI_ne (j := 68) (by omega), gI_sI_ne (j := 68) (by omega), gI_sI_ne (j := 68) (by omega), gI_sI_ne (j := 68) (by omega)]
            rw [gI_sI_ne (j := 69) (by omega), gI_sI_ne (j := 69) (by omega), gI_sI_ne (j := 69) (by omega), gI_sI_ne (j := 69) (by omega)]
            exact x
      refine ⟨fun h => ⟨hv, go 0 (fun z => absurd h (nI_ge z (by omega))) (fun _ => rfl)⟩, fun h => ⟨hv, hv, go _ (fun z => m4 l z) (fun z => absurd (nI_le z (by omega)) h)⟩⟩
  refine fill 0 (by omega) _ (h2.sI 11 50 _ (by omega)) ?_ ?_ (fun l hl => ?_) (fun l h => absurd h (by omega))
  · rw [gI_sI_ne (by omega), hf2.cell (by decide), gI_sI_same]
  · rw [gI_sI_same]; exact h3
  · rw [gI_sI_ne (by omega)]; exact h5 l hl
