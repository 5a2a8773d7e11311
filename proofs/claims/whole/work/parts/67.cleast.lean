/-! ===== the component: the least square, the edge ===== -/
theorem leastSquare_spec {d n : Nat} {σ : St} {w : Wd} {pd : Nat → Nat} {t : Tb} {b : Nat} (hn : FIX ≤ n) (hd : 3 ≤ d) (hX : CX σ n w pd t.1 t.2) (h0 : gI σ 26 0 = 0 ∧ gI σ 27 0 = 0) (hw : WW w) (hV : vW t.2) (hN1 : 1 ≤ w.N) (hN3 : w.N ≤ 3) (hb1 : 1 ≤ b) (hb2 : b ≤ 250) : Cn d n M_X8_leastSquare md_X8_leastSquare [.ref 7, .int (nI b)] σ (liI (fun v σ' => v.toInt = mustL w t (mustM b) b (mustM b ^ w.N) ∧ (gI σ' 26 0 = 0 ∧ gI σ' 27 0 = 0))) := by
  have hdv : 250 / b ≤ 250 := Nat.div_le_self _ _
  have hmx : mxI 1 (nI b) = nI b := by
    rw [eq_ti, mxI_ti, nI_toInt (by omega), show (1 : Int32).toInt = 1 by decide]; omega
  have hmany : mnI 20 (250 / nI b + 1) = nI (mustM b) := by
    rw [show (250 : Int32) = nI 250 from rfl, nI_div (by omega) (by omega), nI_1, eq_ti, mnI_ti, nI_toInt (by omega), show (20 : Int32).toInt = 20 by decide]
    unfold mustM
    rw [nI_toInt (by omega)]; omega
  have hm20 : mustM b ≤ 20 := by unfold mustM; generalize 250 / b = q; omega
  have hm1 : 1 ≤ mustM b := by unfold mustM; generalize 250 / b = q; omega
  refine S_X8_leastSquare hn (by omega) ?_
  rw [hmx, hmany]
  refine ⟨fun e => by have := (nI_eq (b := 0) (by omega : b < 2 ^ 31) (by decide)).mp e; omega, ?_⟩
  generalize hmb : mustM b = m at *
  generalize hQ : (fun (v : Int32) (σ' : St) => v.toInt = mustL w t m b (m ^ w.N) ∧ (gI σ' 26 0 = 0 ∧ gI σ' 27 0 = 0)) = Q
  have hp8 : m ^ w.N ≤ 8000 := pow_le8000 hm20 (by omega)
  have outer : ∀ r, r ≤ m ^ w.N → ∀ (σ2 : St) (x4 : Int32), CX σ2 n w pd t.1 t.2 → (gI σ2 26 0 = 0 ∧ gI σ2 27 0 = 0) → x4.toInt = mustL w t m b r → K_X8_leastSquare_50 d n σ Q σ2 (nI b) (nI m) (nI (m ^ w.N)) x4 (nI r) := by
    refine up_ind (N := m ^ w.N) ?_ ?_
    · intro σ2 x4 q0 q1 q2
      refine B_X8_leastSquare_50 hn (by omega) ⟨fun _ => ?_, fun h => absurd (nI_le (Nat.le_refl _) (by omega)) h⟩
      rw [← hQ]; exact ⟨q2, q1⟩
    · intro r hr ih σ2 x4 q0 q1 q2
      refine B_X8_leastSquare_50 hn (by omega) ⟨fun h => absurd h (nI_ge hr (by omega)), fun _ => ?_⟩
      have inner : ∀ l, l ≤ w.N → ∀ σ3 : St, CX σ3 n w pd t.1 t.2 → (gI σ3 26 0 = 0 ∧ gI σ3 27 0 = 0) → (∀ l', l' < l → gI σ3 31 l' = nI (mustC m b r l')) → K_X8_leastSquare_63 d n σ Q σ3 (nI b) (nI m) (nI (m ^ w.N)) x4 (nI r) (nI (r / m ^ l)) (nI l) := by
        refine up_ind (N := w.N) ?_ ?_
        · intro σ3 p1 p2 p3
          have hex : ∀ l, ∃ k, gI σ3 31 l = nI k := fun l => nI_any _
          let c : Nat → Nat := fun l => if l < w.N then mustC m b r l else (hex l).choose
          have hc : ∀ l, l < 10 → gI σ3 31 l = nI (c l) := fun l hl => by
            show _ = nI (if l < w.N then mustC m b r l else (hex l).choose)
            split
            · next h => exact p3 l h
            · exact (hex l).choose_spec
          have hcc : ∀ l, l < w.N → c l = mustC m b r l := fun l hl => if_pos hl
          have esq : sqN w t c = sqN w t (mustC m b r) := sqN_ext hcc _
          refine B_X8_leastSquare_63 hn (by omega) ⟨fun _ => ⟨_, squareAt_spec0 hn (by omega) p1 hw hV (fun l hl => by rw [hcc l hl]; have := mustC_le (r := r) (l := l) hb1 hb2 hmb.symm; omega) (Or.inr (Or.inr rfl)) hc p2, fun v σ4 ⟨e1, e2, e3⟩ hf => ?_⟩, fun h => absurd (by rw [p1.1.N]; exact nI_le (Nat.le_refl _) (by omega)) h⟩
          have e1' : v.toInt = sqN w t (mustC m b r) := by rw [← esq]; exact e1
          have rr := sqN_rng hw t (mustC m b r)
          have p4 := p1.st hf (by decide)
          rw [nI_1]
          have n1 : (-1 : Int32).toInt = -1 := by decide
          refine ⟨fun hx => ih σ4 _ p4 e2.z ?_, fun hx => ⟨fun hle => ih σ4 _ p4 e2.z ?_, fun hle => ih σ4 _ p4 e2.z ?_⟩⟩
          · by_cases hr0 : r = 0
            · unfold mustL; rw [if_pos hr0, e1', hr0]
            · have := mustL_rng hw t m b r (by omega)
              rw [hx, n1] at q2; omega
          · by_cases hr0 : r = 0
            · rw [hr0] at q2; exact absurd (eq_ti.mpr (by rw [q2, n1]; rfl)) hx
            · unfold mustL; rw [if_neg hr0]
              have := le_ti.mp hle
              omega
          · by_cases hr0 : r = 0
            · rw [hr0] at q2; exact absurd (eq_ti.mpr (by rw [q2, n1]; rfl)) hx
            · unfold mustL; rw [if_neg hr0]
              have : ¬ x4.toInt ≤ v.toInt := fun z => hle (le_ti.mpr z)
              omega
        · intro l hl ih2 σ3 p1 p2 p3
          have hz : ¬ nI m = 0 := fun e => by
            have := (nI_eq (b := 0) (by omega : m < 2 ^ 31) (by decide)).mp e
            omega
          have hrl : r / m ^ l ≤ r := Nat.div_le_self _ _
          refine B_X8_leastSquare_63 hn (by omega) ⟨fun h => absurd h (by rw [p1.1.N]; exact nI_ge hl (by omega)), fun _ => ⟨hz, vp_in_nI (by omega) (by decide), hz, ?_⟩⟩
          have hlt : r / m ^ l % m < m := Nat.mod_lt _ (by omega)
          have hle250 := mustC_le (r := r) (l := l) hb1 hb2 hmb.symm
          rw [nI_mod (by omega) (by omega), nI_div (by omega) (by omega), nI_mul (by unfold mustC at hle250; omega), nI_clamp (by omega), nI_1, Nat.div_div_eq_div_mul, ← Nat.pow_succ]
          refine ih2 _ (p1.set (by omega)) (by rw [gI_sI_ne (by omega), gI_sI_ne (by omega)]; exact p2) (fun l' hl' => ?_)
          rw [gI_sI]
          by_cases e : l' = l
          · rw [if_pos ⟨rfl, e⟩, e]; rfl
          · rw [if_neg (fun z => e z.2)]; exact p3 l' (by omega)
      have := inner 0 (by omega) σ2 q0 q1 (fun l' h => absurd h (by omega))
      rw [Nat.pow_zero, Nat.div_one] at this
      exact this
  have pw : ∀ l, l ≤ w.N → K_X8_leastSquare_22 d n σ Q σ (nI b) (nI m) (nI (m ^ l)) (nI l) := by
    refine up_ind (N := w.N) ?_ ?_
    · exact B_X8_leastSquare_22 hn (by omega) ⟨fun _ => outer 0 (Nat.zero_le _) σ _ hX h0 (by unfold mustL; decide), fun h => absurd (by rw [hX.1.N]; exact nI_le (Nat.le_refl _) (by omega)) h⟩
    · intro l hl ih
      have h8 : m ^ (l + 1) ≤ 8000 := pow_le8000 hm20 (by omega)
      rw [Nat.pow_succ] at h8
      refine B_X8_leastSquare_22 hn (by omega) ⟨fun h => absurd h (by rw [hX.1.N]; exact nI_ge hl (by omega)), fun _ => ?_⟩
      rw [nI_1, nI_mul (by omega), ← Nat.pow_succ]; exact ih
  exact pw 0 (by omega)
theorem buyO_at {w : Wd} {L L' : Nat → Nat → Bool} {V V' : Nat → Nat → Int} {c : Nat → Nat} {j : Nat} (h1 : L j = L' j) (h2 : V j = V' j) : buyO w L V c j = buyO w L' V' c j := by unfold buyO; rw [h1, h2]
theorem buyB_at {w : Wd} {L L' : Nat → Nat → Bool} {V V' : Nat → Nat → Int} {c : Nat → Nat} {j : Nat} (h1 : L j = L' j) (h2 : V j = V' j) : buyB w L V c j = buyB w L' V' c j := by unfold buyB; rw [buyO_at h1 h2]
theorem edgeOf_spec {d n : Nat} {σ : St} {w : Wd} {pd : Nat → Nat} {t : Tb} {j l : Nat} (hn : FIX ≤ n) (hd : 3 ≤ d) (b1 : CJ σ n w pd t.1 t.2 j) (b2 : gI σ 26 0 = 0 ∧ gI σ 27 0 = 0) (b4 : ∀ l, l < 10 → gI σ 24 l = nI (w.pr l)) (hw : WW w) (hV : vW t.2) (hj : j < w.P) (hl : l < w.N) (hL : t.1 j = LM w j) (hV2 : t.2 j = VM w j) : Cn d n M_X8_edgeOf md_X8_edgeOf [.ref 7, .ref (pd j), .int (nI l)] σ (liI (fun v σ' => ((∀ x, x ≤ 250 → edgeT w j l x) ∧ v = -1 ∨ ∃ x, x ≤ 250 ∧ v = nI x ∧ ¬ edgeT w j l x ∧ ∀ y, y < x → edgeT w j l y) ∧ (gI σ' 26 0 = 0 ∧ gI σ' 27 0 = 0))) := by
  have hN := hw.N
  have hpw := pow10 hN
  have hp := b1.2.1
  refine S_X8_edgeOf hn (by omega) hp ⟨_, copy_spec (by omega) (ar_24 hn) (ar_31 hn), ?_⟩
  rintro σ1 ⟨p1, p2, p3⟩ hf1
  generalize hQ : (fun (v : Int32) (σ' : St) => ((∀ x, x ≤ 250 → edgeT w j l x) ∧ v = -1 ∨ ∃ x, x ≤ 250 ∧ v = nI x ∧ ¬ edgeT w j l x ∧ ∀ y, y < x → edgeT w j l y) ∧ (gI σ' 26 0 = 0 ∧ gI σ' 27 0 = 0)) = Q
  have loop : ∀ x, x ≤ 251 → ∀ σ2 : St, CJ σ2 n w pd t.1 t.2 j → (gI σ2 26 0 = 0 ∧ gI σ2 27 0 = 0) → (∀ k, k < 10 → k ≠ l → gI σ2 31 k = nI (w.pr k)) → (∀ y, y < x → edgeT w j l y) → K_X8_edgeOf_16 d n σ Q σ2 (pd j) (nI l) (nI x) := by
    refine up_ind (N := 251) ?_ ?_
    · intro σ2 m1 m2 m3 m4
      refine B_X8_edgeOf_16 hn (by omega) hp ⟨fun _ => ?_, fun z => absurd (by decide) z⟩
      rw [← hQ]; exact ⟨Or.inl ⟨fun x hx => m4 x (by omega), rfl⟩, m2⟩
    · intro x hx ih σ2 m1 m2 m3 m4
      refine B_X8_edgeOf_16 hn (by omega) hp ⟨fun z => ?_, fun _ => ⟨vp_in_nI (by omega) (by decide), ?_⟩⟩
      · have := lt_ti.mp z
        rw [nI_toInt (by omega), show (250 : Int32).toInt = 250 by decide] at this; omega
      · rw [nI_clamp (by omega)]
        have hc : ∀ k, k < 10 → gI (sI σ2 31 l (nI x)) 31 k = nI (setC w.pr l x k) := fun k hk => by
          rw [gI_sI]
          unfold setC
          by_cases e : k = l
          · rw [if_pos ⟨rfl, e⟩, if_pos e]
          · rw [if_neg (fun z => e z.2), if_neg e]; exact m3 k hk e
        have hcok : ∀ k, k < w.N → setC w.pr l x k ≤ 1000000 := fun k _ => by
          unfold setC; split
          · omega
          · have := hw.pr k; omega
        refine ⟨_, mark_spec hn (ar_31 hn) (by decide) (by decide) hc (by rw [gI_sI_ne (by omega), gI_sI_ne (by omega)]; exact m2), fun σ3 mk hf3 => ?_⟩
        have m1' : CJ σ3 n w pd t.1 t.2 j := (m1.fr (σ' := sI σ2 31 l (nI x)) rfl (fun q k hq => gI_sI_ne (by omega))).st hf3 (by decide)
        refine ⟨_, pickC0 hn (by omega) m1' hw hV mk hcok hj, ?_⟩
        rintro v σ4 ⟨⟨e1, e2⟩, -, -⟩ hf4
        have m1'' := m1'.st hf4 (by decide)
        have mk2 : Mrk σ4 (setC w.pr l x) := mk.st hf4 (by decide)
        have hBl : buyB w t.1 t.2 (setC w.pr l x) j < 2 ^ w.N := buyB_ok w t _ j
        have hT : (buyB w t.1 t.2 (setC w.pr l x) j).testBit l = true ↔ edgeT w j l x := by
          unfold edgeT buyB
          rw [buyO_at (L' := LM w) (V' := VM w) hL hV2]
          cases buyO w (LM w) (VM w) (setC w.pr l x) j with
          | none => simp
          | some z => simp
        rw [e2, cont_nI (by omega) (by omega), nI_1]
        refine ⟨e1, fun hz => ?_, fun hz => ?_⟩
        · have hb : (buyB w t.1 t.2 (setC w.pr l x) j).testBit l = true := by
            rcases Bool.eq_false_or_eq_true ((buyB w t.1 t.2 (setC w.pr l x) j).testBit l) with e | e
            · exact e
            · rw [e] at hz; exact absurd rfl hz
          refine ih σ4 m1'' mk2.z (fun k hk hk2 => ?_) (fun y hy => ?_)
          · rw [hf4.row (by decide), hf3.row (by decide), gI_sI_ne (by omega)]; exact m3 k hk hk2
          · by_cases e : y = x
            · rw [e]; exact hT.mp hb
            · exact m4 y (by omega)
        · have hb : ¬ (buyB w t.1 t.2 (setC w.pr l x) j).testBit l = true := fun e => by rw [if_pos e] at hz; exact absurd hz (by decide)
          rw [← hQ]
          exact ⟨Or.inr ⟨x, by omega, rfl, fun z => hb (hT.mpr z), m4⟩, mk2.z⟩
  refine loop 0 (by omega) σ1 (b1.fr (by rw [p3]) (fun q k hq => p2 _ _ (by omega))) (by rw [p2 _ _ (by decide), p2 _ _ (by decide)]; exact b2) (fun k hk _ => by rw [p1 k hk]; exact b4 k hk) (fun y h => absurd h (by omega))
