/-! ===== the component: share, gain, judge, count ===== -/
theorem leastHeap_C {d n : Nat} {σ : St} {w : Wd} {pd : Nat → Nat} {t : Tb} {j s : Nat} (hn : FIX ≤ n) (hd : 1 ≤ d) (hJ : CJ σ n w pd t.1 t.2 j) (hN0 : gI σ 1 0 = nI w.N) (hw : WW w) (hV : vW t.2) (hP0 : 0 < w.P) (hs : s < 1000000) : Cn d n M_X3_leastHeap md_X3_leastHeap [.ref 9, .ref (pd j), .int (nI s), .int (nI w.P)] σ (liI (fun v σ' => σ' = σ ∧ v.toInt = min 1000000 (lhU w t j s w.P))) := by
  have hN := hw.N
  have hP := hw.P
  have hpw := pow10 hN
  obtain ⟨b1, b2, b3, b4⟩ := hJ
  obtain ⟨m, β, hR⟩ := b4.rnk
  have hz : ¬ nI w.P = 0 := fun e => by have := (nI_eq (b := 0) (by omega : w.P < 2 ^ 31) (by decide)).mp e; omega
  refine S_X3_leastHeap hn hd b2 ?_
  generalize hQ : (fun (v : Int32) (σ' : St) => σ' = σ ∧ v.toInt = min 1000000 (lhU w t j s w.P)) = Q
  have outer : ∀ p, p ≤ w.P → ∀ x : Int32, x.toInt = min 1000000 (lhU w t j s p) → K_X3_leastHeap_7 d n σ Q σ (pd j) (nI s) (nI w.P) x (nI p) := by
    refine up_ind (N := w.P) ?_ ?_
    · intro x hx
      exact B_X3_leastHeap_7 hn hd b2 ⟨fun _ => by rw [← hQ]; exact ⟨rfl, hx⟩, fun z => absurd (nI_le (Nat.le_refl _) (by omega)) z⟩
    · intro p hp ih x hx
      refine B_X3_leastHeap_7 hn hd b2 ⟨fun z => absurd z (nI_ge hp (by omega)), fun _ => ?_⟩
      have inn : ∀ l, l ≤ w.N → K_X3_leastHeap_22 d n σ Q σ (pd j) (nI s) (nI w.P) x (nI p) (nI (s / w.P ^ l)) (nI (setU (fun l => decide (s / w.P ^ l % w.P = p)) l)) (nI l) := by
        refine up_ind (N := w.N) ?_ ?_
        · refine B_X3_leastHeap_22 hn hd b2 ⟨fun _ => ⟨_, rankWithin_spec b2 hR (hV j) (by omega), ?_⟩, fun z => absurd (by rw [hN0]; exact nI_le (Nat.le_refl _) (by omega)) z⟩
          rintro v σ1 ⟨rfl, hrk⟩ hf
          rw [nI_1]
          have eh : heapW w t j (hpS w s p) = wO (t.2 j) (bestW (t.1 j) (t.2 j) (setU (fun l => decide (s / w.P ^ l % w.P = p)) w.N) (2 ^ w.N)) := rfl
          obtain ⟨e1, e2⟩ := rkO_worth hR (hV j) (by omega) hrk
          cases ho : bestW (t.1 j) (t.2 j) (setU (fun l => decide (s / w.P ^ l % w.P = p)) w.N) (2 ^ w.N) with
          | none =>
            rw [ho] at hrk eh
            have hrk' : v = -1 := hrk
            refine ⟨fun z => absurd hrk' z, fun _ => ih _ ?_⟩
            have eh' : heapW w t j (hpS w s p) = -1000000 := eh
            rw [mnI_ti, hx, show (-1000000 : Int32).toInt = -1000000 by decide]
            show _ = min 1000000 (min (lhU w t j s p) (heapW w t j (hpS w s p)))
            rw [eh']; omega
          | some b =>
            rw [ho] at hrk eh e2
            obtain ⟨r, hr1, hr2, hr3⟩ := hrk
            have hm := hR.2.1
            have e2' : (fn_X5_worthAt σ1 (pd j) v).toInt = t.2 j b := e2
            have eh' : heapW w t j (hpS w s p) = t.2 j b := eh
            refine ⟨fun _ => ⟨e1, ih _ ?_⟩, fun z => ?_⟩
            · rw [mnI_ti, hx, e2']
              show _ = min 1000000 (min (lhU w t j s p) (heapW w t j (hpS w s p)))
              rw [eh']; omega
            · rw [z] at hr2
              exact absurd hr2.symm (optI_ne (x := r) (by omega))
        · intro l hl ih2
          have h1 : s / w.P ^ l ≤ s := Nat.div_le_self _ _
          have h2 : s / w.P ^ l % w.P < w.P := Nat.mod_lt _ hP0
          unfold setU at ih2
          rw [Nat.pow_succ, ← Nat.div_div_eq_div_mul] at ih2
          refine B_X3_leastHeap_22 hn hd b2 ⟨fun z => absurd z (by rw [hN0]; exact nI_ge hl (by omega)), fun _ => ?_⟩
          rw [nI_mod (by omega) (by omega), nI_div (by omega) (by omega), nI_1]
          refine ⟨hz, fun e => ⟨hz, ?_⟩, fun e => ⟨hz, ?_⟩⟩
          · have : ¬ s / w.P ^ l % w.P = p := fun z => e (by rw [z])
            rw [decide_eq_false this, if_neg (by decide), Nat.or_zero] at ih2; exact ih2
          · have : s / w.P ^ l % w.P = p := (nI_eq (by omega) (by omega)).mp e
            rw [decide_eq_true this, if_pos rfl] at ih2
            rw [shl1 (by omega), nI_or]; exact ih2
      have := inn 0 (by omega)
      rw [Nat.pow_zero, Nat.div_one] at this
      exact this
  exact outer 0 (by omega) _ (by unfold lhU; decide)
theorem lhU_rng {w : Wd} {t : Tb} {j s : Nat} (hV : vW t.2) : ∀ p, 0 < p → -1000000 ≤ lhU w t j s p ∧ lhU w t j s p ≤ 1000000
  | 0, h => absurd h (by omega)
  | p + 1, _ => by
    have h1 : -1000000 ≤ heapW w t j (hpS w s p) ∧ heapW w t j (hpS w s p) ≤ 1000000 := wO_rng (hV j) _
    show -1000000 ≤ min (lhU w t j s p) (heapW w t j (hpS w s p)) ∧ min (lhU w t j s p) (heapW w t j (hpS w s p)) ≤ 1000000
    by_cases e : p = 0
    · subst e
      have : lhU w t j s 0 = 2000000 := rfl
      omega
    · have := lhU_rng (w := w) (j := j) (s := s) hV p (by omega)
      omega
theorem shareOf_C {d n : Nat} {σ : St} {w : Wd} {pd : Nat → Nat} {t : Tb} {j : Nat} (hn : FIX ≤ n) (hd : 2 ≤ d) (hJ : CJ σ n w pd t.1 t.2 j) (hN0 : gI σ 1 0 = nI w.N) (hP3 : gI σ 3 2 = nI w.P) (hw : WW w) (hV : vW t.2) (hP0 : 0 < w.P) (hPm : w.P ≤ 3) (hNm : w.N ≤ 6) : Cn d n M_X3_shareOf md_X3_shareOf [.ref 9, .ref (pd j)] σ (liI (fun v σ' => σ' = σ ∧ v.toInt = mhU w t j (w.P ^ w.N))) := by
  have hN := hw.N
  have hP := hw.P
  have b2 := hJ.2.1
  have h729 : w.P ^ w.N ≤ 729 := pow_le729 hPm hNm
  refine S_X3_shareOf hn (by omega) b2 ?_
  rw [hP3]
  generalize hQ : (fun (v : Int32) (σ' : St) => σ' = σ ∧ v.toInt = mhU w t j (w.P ^ w.N)) = Q
  have hpos : 0 < w.P ^ w.N := Nat.pow_pos hP0
  have loop : ∀ s, s ≤ w.P ^ w.N → ∀ x : Int32, x.toInt = max (-1000000) (mhU w t j s) → K_X3_shareOf_42 d n σ Q σ (pd j) (nI w.P) (nI (w.P ^ w.N)) x (nI s) := by
    refine up_ind (N := w.P ^ w.N) ?_ ?_
    · intro x hx
      refine B_X3_shareOf_42 hn (by omega) b2 ⟨fun _ => ?_, fun z => absurd (nI_le (Nat.le_refl _) (by omega)) z⟩
      rw [← hQ]; refine ⟨rfl, ?_⟩
      rw [hx]
      obtain ⟨k, hk⟩ := Nat.exists_eq_succ_of_ne_zero (by omega : w.P ^ w.N ≠ 0)
      rw [hk]
      have := lhU_rng (w := w) (j := j) (s := k) hV w.P hP0
      show max (-1000000) (max (mhU w t j k) (lhU w t j k w.P)) = max (mhU w t j k) (lhU w t j k w.P)
      omega
    · intro s hs ih x hx
      refine B_X3_shareOf_42 hn (by omega) b2 ⟨fun z => absurd z (nI_ge hs (by omega)), fun _ => ⟨_, leastHeap_C hn (by omega) hJ hN0 hw hV hP0 (by omega), ?_⟩⟩
      rintro v σ1 ⟨rfl, hv⟩ hf
      rw [nI_1]
      refine ih _ ?_
      have := lhU_rng (w := w) (j := j) (s := s) hV w.P hP0
      rw [mxI_ti, hx, hv]
      show _ = max (-1000000) (max (mhU w t j s) (lhU w t j s w.P))
      omega
  have pw : ∀ l, l ≤ w.N → K_X3_shareOf_13 d n σ Q σ (pd j) (nI w.P) (nI (w.P ^ l)) (nI l) := by
    refine up_ind (N := w.N) ?_ ?_
    · exact B_X3_shareOf_13 hn (by omega) b2 ⟨fun _ => loop 0 (by omega) _ (by show (-1000000 : Int32).toInt = max (-1000000) (-2000000); decide), fun h => absurd (by rw [hN0]; exact nI_le (Nat.le_refl _) (by omega)) h⟩
    · intro l hl ih
      have h8 : w.P ^ (l + 1) ≤ 729 := pow_le729 hPm (by omega)
      rw [Nat.pow_succ] at h8
      refine B_X3_shareOf_13 hn (by omega) b2 ⟨fun h => absurd h (by rw [hN0]; exact nI_ge hl (by omega)), fun _ => ?_⟩
      rw [nI_1, nI_mul (by omega), ← Nat.pow_succ]; exact ih
  exact pw 0 (by omega)
theorem share_C {d n : Nat} {σ : St} {w : Wd} {a : Int32} (hn : FIX ≤ n) (hd : 8 ≤ d) (hR : RC σ n w) (hw : WW w) : Cn d n M_X11_share md_X11_share [.ref 0, .int a] σ (liI (fun v σ' => v = shareV w a ∧ RC σ' n w)) := by
  refine Cn.wk (Q := liI (fun v σ' => v = shareV w a ∧ SX σ' n w pdJ id (hdI w) ∧ MK σ' w)) ?_ (by
    rintro v σ' ⟨x, e, h1, h2, h3⟩ hf
    exact ⟨x, e, h1, h2, h3, hR.2.2.st hf (by decide)⟩)
  have hP := hw.P
  have hN := hw.N
  have t3 : (3 : Int32).toInt = 3 := by decide
  have t6 : (6 : Int32).toInt = 6 := by decide
  have no : ¬ (inP a w.P ∧ w.P ≤ 3 ∧ w.N ≤ 6) → (fun (v : Int32) (σ' : St) => v = shareV w a ∧ SX σ' n w pdJ id (hdI w) ∧ MK σ' w) (-2000000) σ := fun h => by
    unfold shareV; rw [if_neg h]; exact ⟨rfl, hR.1, hR.2.1⟩
  refine S_X11_share hn (by omega) ?_
  rw [hR.1.2.1, hR.1.1.N]
  refine ⟨fun h => no (fun z => ze.mp h ((hR.1.per hw).mpr z.1)), fun h => ⟨fun h2 => no (fun z => by have := lt_ti.mp h2; rw [t3, nI_toInt (by omega)] at this; omega), fun h2 => ⟨fun h3 => ?_, fun h3 => no (fun z => h3 (le_ti.mpr (by rw [t6, nI_toInt (by omega)]; omega)))⟩⟩⟩
  have g1 := (hR.1.per hw).mp h
  have g2 : w.P ≤ 3 := by
    have : ¬ _ < _ := fun z => h2 (lt_ti.mpr z)
    rw [t3, nI_toInt (by omega)] at this; omega
  have g3 : w.N ≤ 6 := by
    have := le_ti.mp h3
    rw [t6, nI_toInt (by omega)] at this; omega
  obtain ⟨j, hj, rfl⟩ := inP_ex (by omega) g1
  refine ⟨_, freshened_spec hn (by omega) hR.1 hw hj, ?_⟩
  rintro p σ1 ⟨rfl, s1, j1, l1⟩ hf1
  have k1 := hR.2.1.low l1
  refine ⟨j1.2.1, _, shareOf_C hn (by omega) j1 s1.1.N s1.2.1 hw (tR_w w id) (by omega) g2 g3, ?_⟩
  rintro v σ2 ⟨rfl, e⟩ hf2
  refine ⟨?_, s1, k1⟩
  unfold shareV; rw [if_pos ⟨g1, g2, g3⟩, tn_nI (by omega)]; exact ofI e
theorem count_C {d n : Nat} {σ : St} {w : Wd} {a : Int32} (hn : FIX ≤ n) (hd : 2 ≤ d) (hR : RC σ n w) (hw : WW w) : Cn d n M_X11_count md_X11_count [.ref 0, .int a] σ (liI (fun v σ' => v = countV w a ∧ RC σ' n w)) := by
  have hN := hw.N
  have hP := hw.P
  have add : ∀ {x y : Nat}, nI x + nI y = nI (x + y) := fun {x y} => by
    show Int32.ofNat x + Int32.ofNat y = Int32.ofNat (x + y)
    rw [Int32.ofNat_add]
  have tot : ∀ (q : Nat) (f : Nat → Nat), Ar n q 20 10 → (∀ l, l < 10 → gI σ q l = nI (f l)) → (∀ l, w.N ≤ l → f l = 0) → Cn (d - 1) n M_X11_total md_X11_total [.ref q] σ (liI (fun v σ' => σ' = σ ∧ v = nI (sumN f w.N))) := fun q f ha hf hz => by
    refine S_X11_total ha ?_
    have e10 : sumN f 10 = sumN f w.N := by
      have : ∀ k, sumN f (w.N + k) = sumN f w.N := fun k => by
        induction k with
        | zero => rfl
        | succ k ih =>
          show sumN f (w.N + k) + f (w.N + k) = sumN f w.N
          rw [hz (w.N + k) (by omega), ih]; rfl
      rw [← this (10 - w.N), show w.N + (10 - w.N) = 10 by omega]
    generalize hQ : (fun (v : Int32) (σ' : St) => σ' = σ ∧ v = nI (sumN f w.N)) = Q
    have loop : ∀ l, l ≤ 10 → K_X11_total_4 (d - 1) n σ Q σ q 10 (nI (sumN f l)) (nI l) := by
      refine up_ind (N := 10) ?_ ?_
      · exact B_X11_total_4 ha ⟨fun _ => by rw [← hQ]; exact ⟨rfl, by rw [e10]⟩, fun z => absurd (nI_le (Nat.le_refl 10) (by decide)) z⟩
      · intro l hl ih
        refine B_X11_total_4 ha ⟨fun z => absurd z (nI_ge hl (by decide)), fun _ => ⟨vp_in_nI hl (by decide), ?_⟩⟩
        rw [nI_clamp (by omega), hf l hl, add, nI_1]; exact ih
    exact loop 0 (by omega)
  refine S_X11_count hn (by omega) ⟨fun h => ⟨?_, hR⟩, fun h => ⟨?_, hR⟩, fun h => ⟨?_, hR⟩, fun h => ⟨?_, hR⟩, fun h => ⟨?_, hR⟩, fun h => ⟨?_, hR⟩, fun h => ⟨_, tot 12 w.pl (ar_12 hn) (fun l hl => (hR.1.1.les l hl).1) (fun l hl => (hw.zz l hl).1), ?_⟩, fun h => ⟨_, tot 24 w.pr (ar_24 hn) hR.2.1.2.2 (fun l hl => (hw.zz l hl).2), ?_⟩, fun h => ?_, fun h => ?_, fun h => ⟨?_, hR⟩⟩
  · unfold countV; rw [if_pos h]; exact hR.1.1.N
  · unfold countV; rw [h]; exact hR.1.2.1
  · unfold countV; rw [h]; exact hR.1.1.2.2.1
  · unfold countV; rw [h]; exact hR.1.1.mo
  · unfold countV; rw [h]; exact hR.2.1.2.1
  · unfold countV; rw [h]; exact hR.2.2.1.1
  · rintro v σ1 ⟨rfl, rfl⟩ hf
    refine ⟨?_, hR⟩
    unfold countV; rw [h]; rfl
  · rintro v σ1 ⟨rfl, rfl⟩ hf
    refine ⟨?_, hR⟩
    unfold countV; rw [h]; rfl
  · have mon : Cn (d - 1) n M_X1_allMoney md_X1_allMoney [.ref 3] σ (liI (fun v σ' => σ' = σ ∧ v = nI (sumN w.pu w.P))) := by
      refine S_X1_allMoney hn ?_
      generalize hQ : (fun (v : Int32) (σ' : St) => σ' = σ ∧ v = nI (sumN w.pu w.P)) = Q
      have loop : ∀ l, l ≤ w.P → K_X1_allMoney_4 (d - 1) n σ Q σ (nI (sumN w.pu l)) (nI l) := by
        refine up_ind (N := w.P) ?_ ?_
        · exact B_X1_allMoney_4 hn ⟨fun _ => by rw [← hQ]; exact ⟨rfl, rfl⟩, fun z => absurd (by rw [hR.1.2.1]; exact nI_le (Nat.le_refl _) (by omega)) z⟩
        · intro l hl ih
          obtain ⟨b1, b2, b3⟩ := hR.1.2.2.1 l hl
          refine B_X1_allMoney_4 hn ⟨fun z => absurd z (by rw [hR.1.2.1]; exact nI_ge hl (by omega)), fun _ => ⟨vp_in_nI (by omega) (by decide), pdJ l, by rw [nI_clamp (by omega)]; exact b1, b2, ?_⟩⟩
          rw [b3.1, add, nI_1]; exact ih
      exact loop 0 (by omega)
    refine ⟨_, mon, ?_⟩
    rintro v σ1 ⟨rfl, rfl⟩ hf
    refine ⟨?_, hR⟩
    unfold countV; rw [h]; rfl
  · have eV : countV w a = bI w.lie := by unfold countV; rw [h]; rfl
    rw [hR.2.2.2.2.1]
    cases hl : w.lie with
    | true => exact ⟨fun z => absurd z (by decide), fun _ => ⟨by rw [eV, hl]; rfl, hR⟩⟩
    | false => exact ⟨fun _ => ⟨by rw [eV, hl]; rfl, hR⟩, fun z => absurd rfl z⟩
  · unfold countV
    rw [if_neg (by omega), if_neg (by omega), if_neg (by omega), if_neg (by omega), if_neg (by omega), if_neg (by omega), if_neg (by omega), if_neg (by omega), if_neg (by omega), if_neg (by omega)]
theorem judge_C {d n : Nat} {σ : St} {w : Wd} (hn : FIX ≤ n) (hd : 9 ≤ d) (hR : RC σ n w) (hw : WW w) : Cn d n M_X11_judge md_X11_judge [.ref 0] σ (liI (fun v σ' => v = judgeV w ∧ RC σ' n w)) := by
  refine Cn.wk (Q := liI (fun v σ' => v = judgeV w ∧ SX σ' n w pdJ id (hdI w) ∧ MK σ' w)) ?_ (by
    rintro v σ' ⟨x, e, h1, h2, h3⟩ hf
    exact ⟨x, e, h1, h2, h3, hR.2.2.st hf (by decide)⟩)
  have hP := hw.P
  have hN := hw.N
  have hpw := pow10 hN
  refine S_X11_judge hn (by omega) ?_
  generalize hQ : (fun (v : Int32) (σ' : St) => v = judgeV w ∧ SX σ' n w pdJ id (hdI w) ∧ MK σ' w) = Q
  have z0 : (0 : Int32).toInt = 0 := by decide
  have l1 : ∀ p, p ≤ w.P → ∀ σ1 : St, SX σ1 n w pdJ id (hdI w) → MK σ1 w → (∀ i, i < p → ¬ bar w i i (w.hd i) ≠ 0) → K_X11_judge_2 d n σ Q σ1 (nI p) := by
    refine up_ind (N := w.P) ?_ ?_
    · intro σ1 m1 m2 m3
      have e1 : fstO (fun p => bar w p p (w.hd p) ≠ 0) w.P = none := fstO_none m3
      refine B_X11_judge_2 hn (by omega) ⟨fun _ => ⟨_, ways_spec (k := 5) hn (by omega) m1 m2 hw (by decide) (fun _ _ => rfl), ?_⟩, fun z => absurd (by rw [m1.2.1]; exact nI_le (Nat.le_refl _) (by omega)) z⟩
      rintro σ2 ⟨s2, k2, w2, -⟩ hf2
      have ew : wayT w (tR w id) 5 = w.hd := rfl
      rw [ew] at w2
      have l2 : ∀ l, l ≤ w.N → (∀ i, i < l → ¬ spN w w.hd i < 0) → K_X11_judge_74 d n σ Q σ2 (nI l) := by
        refine up_ind (N := w.N) ?_ ?_
        · intro m4
          refine B_X11_judge_74 hn (by omega) ⟨fun _ => ?_, fun z => absurd (by rw [s2.1.N]; exact nI_le (Nat.le_refl _) (by omega)) z⟩
          rw [← hQ]
          refine ⟨?_, s2, k2⟩
          unfold judgeV; rw [e1, fstO_none m4]
        · intro l hl ih m4
          have hs := w2.2.2 l hl
          refine B_X11_judge_74 hn (by omega) ⟨fun z => absurd z (by rw [s2.1.N]; exact nI_ge hl (by omega)), fun _ => ⟨vp_in_nI (by omega) (by decide), ?_⟩⟩
          rw [nI_clamp (by omega), nI_1]
          refine ⟨fun hle => ih (fun i hi => ?_), fun hle => ?_⟩
          · have := le_ti.mp hle
            rw [hs, z0] at this
            by_cases e : i = l
            · rw [e]; omega
            · exact m4 i (by omega)
          · have : ¬ _ ≤ _ := fun z => hle (le_ti.mpr z)
            rw [hs, z0] at this
            rw [← hQ]
            refine ⟨?_, s2, k2⟩
            unfold judgeV
            rw [e1, fstO_some hl (show spN w w.hd l < 0 by omega) m4]
            show 1000 + nI l = nI (1000 + l)
            rw [eq_ti, ti_add] <;> rw [nI_toInt (by omega), show (1000 : Int32).toInt = 1000 by decide] <;> (try rw [nI_toInt (by omega)]) <;> omega
      exact l2 0 (by omega) (fun i hi => absurd hi (by omega))
    · intro p hp ih σ1 m1 m2 m3
      have hb := hw.hd p
      have hble := bar_le w p p (w.hd p)
      obtain ⟨b1, b2, b3⟩ := m1.2.2.1 p hp
      refine B_X11_judge_2 hn (by omega) ⟨fun z => absurd z (by rw [m1.2.1]; exact nI_ge hp (by omega)), fun _ => ⟨vp_in_nI (by omega) (by decide), pdJ p, by rw [nI_clamp (by omega)]; exact b1, b2, ?_⟩⟩
      have eh : gI σ1 (pdJ p) 2 = nI (w.hd p) := b3.2.2.1
      rw [eh]
      refine ⟨_, ask_spec (r := p) (j := p) hn (by omega) hw (show w.hd p < 1024 by omega) b2 m1.1 b3.1 b3.2.1 b3.2.2.2.1, ?_⟩
      rintro σ2 ⟨-, e2⟩ hf
      have s2 := m1.st hf (by decide)
      have k2 := m2.st hf (by decide)
      rw [e2, nI_1]
      refine ⟨fun hz => ih σ2 s2 k2 (fun i hi => ?_), fun hz => ?_⟩
      · have := (nI_z (by omega)).mp hz
        by_cases e : i = p
        · rw [e]; omega
        · exact m3 i (by omega)
      · rw [← hQ]
        refine ⟨?_, s2, k2⟩
        unfold judgeV
        rw [fstO_some hp (show bar w p p (w.hd p) ≠ 0 from fun z => hz (by rw [z]; rfl)) m3]
        show 10 * nI p + nI _ = nI (10 * p + bar w p p (w.hd p))
        exact idx10 (by omega) (by omega)
  exact l1 0 (by omega) σ hR.1 hR.2.1 (fun i hi => absurd hi (by omega))
theorem standFor_C {d n : Nat} {σ : St} {p1 : Nat} (h83 : IsP n 83) (hp1 : IsP n p1) (hne : p1 ≠ 83) : Cn d n M_X5_standFor (md_X5_standFor 83) [.ref 83, .ref p1] σ (liV (fun σ' => gI σ' 83 0 = gI σ p1 0 ∧ gI σ' 83 1 = gI σ p1 1 ∧ gI σ' 83 5 = 0 ∧ (∀ q k, ¬ (q = 83 ∧ (k = 0 ∨ k = 1 ∨ k = 5)) → gI σ' q k = gI σ q k) ∧ gR σ' = gR σ)) := by
  refine S_X5_standFor h83 hp1 ⟨?_, ?_, ?_, fun q k hq => ?_, rfl⟩
  · simp (disch := omega) only [gI_sI_ne, gI_sI_same]
  · simp (disch := omega) only [gI_sI_ne, gI_sI_same]
  · simp (disch := omega) only [gI_sI_ne, gI_sI_same]
  · rw [gI_sI_ne (by omega), gI_sI_ne (by omega), gI_sI_ne (by omega)]
theorem tR_F (w : Wd) (p : Nat) : tR w (fun q => if q = p then 8 else q) = tF w p := by
  unfold tR tF
  congr 1
  · funext q
    by_cases e : q = p
    · simp only [if_pos e]; rw [e]
    · simp only [if_neg e]
  · funext q
    by_cases e : q = p
    · simp only [if_pos e]; rw [e]
    · simp only [if_neg e]
theorem gain_C {d n : Nat} {σ : St} {w : Wd} {a1 a2 : Int32} (hn : FIX ≤ n) (hd : 9 ≤ d) (hR : RC σ n w) (hw : WW w) : Cn d n M_X11_gain md_X11_gain [.ref 0, .int a1, .int a2] σ (liI (fun v σ' => v = gainV w a1 a2 ∧ RC σ' n w)) := by
  refine Cn.wk (Q := liI (fun v σ' => v = gainV w a1 a2 ∧ SX σ' n w pdJ id (hdI w) ∧ MK σ' w)) ?_ (by
    rintro v σ' ⟨x, e, h1, h2, h3⟩ hf
    exact ⟨x, e, h1, h2, h3, hR.2.2.st hf (by decide)⟩)
  have hP := hw.P
  have hpw := pow10 hw.N
  have o1 : (1 : Int32).toInt = 1 := by decide
  have o5 : (5 : Int32).toInt = 5 := by decide
  have no : ¬ ((1 ≤ a1.toInt ∧ a1.toInt ≤ 4) ∧ inP a2 w.P ∧ w.lie = true) → (fun (v : Int32) (σ' : St) => v = gainV w a1 a2 ∧ SX σ' n w pdJ id (hdI w) ∧ MK σ' w) (-3000000) σ := fun h => by
    unfold gainV; rw [if_neg h]; exact ⟨rfl, hR.1, hR.2.1⟩
  refine S_X11_gain hn (by omega) ⟨fun h => no (fun z => by have := lt_ti.mp h; rw [o1] at this; have := z.1.1; omega), fun h => ⟨fun h2 => no (fun z => by have := le_ti.mp h2; rw [o5] at this; have := z.1.2; omega), fun h2 => ⟨fun h3 => no (fun z => ze.mp h3 ((hR.1.per hw).mpr z.2.1)), fun h3 => ⟨fun h4 => ?_, fun h4 => no (fun z => by rw [hR.2.2.2.2.1, z.2.2] at h4; exact absurd h4 (by decide))⟩⟩⟩⟩
  have q1 : ¬ _ < _ := fun z => h (lt_ti.mpr z)
  have q2 : ¬ _ ≤ _ := fun z => h2 (le_ti.mpr z)
  rw [o1] at q1
  rw [o5] at q2
  have g1 : 1 ≤ a1.toInt ∧ a1.toInt ≤ 4 := by omega
  have g2 := (hR.1.per hw).mp h3
  have g3 : w.lie = true := by
    rcases Bool.eq_false_or_eq_true w.lie with e | e
    · exact e
    · rw [hR.2.2.2.2.1, e] at h4; exact absurd rfl h4
  have eV : gainV w a1 a2 = Int32.ofInt (VM w (tn a2) (wayT w (tF w (tn a2)) (tn a1) (tn a2)) - VM w (tn a2) (wayH w a1 (tn a2))) := by unfold gainV; rw [if_pos ⟨g1, g2, g3⟩]
  rw [eV]
  obtain ⟨k, hk, rfl⟩ := ex_nI (K := 5) (by decide) (by omega : 0 ≤ a1.toInt) (by omega)
  obtain ⟨p, hp, rfl⟩ := inP_ex (by omega) g2
  unfold wayH
  rw [tn_nI (by omega), tn_nI (by omega), nI_clamp (by omega)]
  have hv : vp_in (nI p) 8 := vp_in_nI (by omega) (by decide)
  refine ⟨_, ways_spec hn (by omega) hR.1 hR.2.1 hw (by omega) (fun _ _ => rfl), ?_⟩
  rintro σ1 ⟨s1, k1, w1, -⟩ hf1
  rw [tR_id] at w1
  have tl1 : TL σ1 n w := hR.2.2.st hf1 (by decide)
  obtain ⟨b1, b2, b3, b4⟩ := w1.1.2.2 p hp
  refine ⟨hv, hv, pdJ p, b1, b2, _, standFor_C tl1.2.1.1 b2 (by unfold pdJ; omega), ?_⟩
  rintro σ2 ⟨c1, c2, c3, c4, c5⟩ hf2
  generalize hτ : sR σ2 p (some 83) = τ
  have gτ : ∀ q k, gI τ q k = gI σ2 q k := fun q k => by subst hτ; rfl
  have rτ : ∀ j, gR τ j = if j = p then some 83 else gR σ1 j := fun j => by subst hτ; rw [gR_sR, c5]
  have sτ : SX τ n w (fun q => if q = p then 83 else pdJ q) (fun q => if q = p then 8 else q) (fun q => if q = p then gI σ1 83 2 else hdI w q) := by
    refine ⟨s1.1.fr (fun k _ => by rw [gτ, c4 _ _ (by omega)]) (fun q k x y => by rw [gτ, c4 _ _ (by omega)]), by rw [gτ, c4 _ _ (by omega)]; exact s1.2.1, fun j hj => ?_, fun i j hi hj hij => ?_⟩
    · by_cases e : j = p
      · simp only [if_pos e]
        refine ⟨by rw [rτ, if_pos e], tl1.2.1.1, ?_, ?_, ?_, tl1.2.1.2.fr (by rw [gτ, c4 _ _ (by omega)]) (fun k => by rw [gτ, c4 _ _ (by omega)]), fun hf => ?_⟩
        · rw [gτ, c1, e]; exact (s1.2.2.1 p hp).2.2.1
        · rw [gτ, c2, e]; exact (s1.2.2.1 p hp).2.2.2.1
        · rw [gτ, c4 _ _ (by omega)]
        · rw [gτ, c3] at hf; exact absurd rfl hf
      · simp only [if_neg e]
        obtain ⟨d1, d2, d3⟩ := s1.2.2.1 j hj
        exact ⟨by rw [rτ, if_neg e]; exact d1, d2, d3.fr (fun q k x y => by rw [gτ, c4 _ _ (by unfold pdJ at x y; omega)])⟩
    · by_cases e : i = p
      · have e2 : j ≠ p := fun z => hij (by rw [e, z])
        simp only [if_pos e, if_neg e2]; unfold pdJ; omega
      · by_cases e2 : j = p
        · simp only [if_neg e, if_pos e2]; unfold pdJ; omega
        · simp only [if_neg e, if_neg e2]; unfold pdJ; omega
  have kτ : MK τ w := k1.mv (by rw [gτ, gτ, c4 _ _ (by omega), c4 _ _ (by omega)]; exact k1.1) (by rw [gτ, c4 _ _ (by omega)]) (fun k => by rw [gτ, c4 _ _ (by omega)])
  refine ⟨hv, _, ways_spec (k := k) hn (by omega) sτ kτ hw (by omega) (fun e => by have := g1.2; rw [nI_toInt (by omega)] at this; omega), ?_⟩
  rintro σ3 ⟨s3, k3, w3, u3⟩ hf3
  rw [tR_F] at w3
  have hb1 := wayT_ok hw (tM w) k p
  have hb2 := wayT_ok hw (tF w p) k p
  rw [gI_sR, w3.2.1 p hp, w1.2.1 p hp, nI_clamp (by omega), nI_clamp (by omega)]
  refine ⟨hv, hv, vp_in_nI (by omega) (by decide), vp_in_nI (by omega) (by decide), ofI ?_, ?_, ?_⟩
  · have own : ∀ q k, pdJ p ≤ q → q < pdJ p + 5 → gI σ3 q k = gI σ1 q k := fun q k x y => by
      rw [u3 q k (by unfold pdJ at x; omega) (fun j hj => ?_), gτ, c4 _ _ (by unfold pdJ at x; omega)]
      by_cases e : j = p
      · simp only [if_pos e]; unfold pdJ at x; omega
      · simp only [if_neg e]; unfold pdJ at x y ⊢; omega
    have x1 : (gI σ3 (pdJ p + 2) (wayT w (tF w p) k p)).toInt = VM w p (wayT w (tF w p) k p) := by rw [own _ _ (by omega) (by omega)]; exact b4.wor hb2
    have x2 : (gI σ3 (pdJ p + 2) (wayT w (tM w) k p)).toInt = VM w p (wayT w (tM w) k p) := by rw [own _ _ (by omega) (by omega)]; exact b4.wor hb1
    have r1 := VM_w w p (wayT w (tF w p) k p)
    have r2 := VM_w w p (wayT w (tM w) k p)
    rw [ti_sub] <;> rw [x1, x2] <;> omega
  · have own : ∀ q k, pdJ p ≤ q → q < pdJ p + 5 → gI σ3 q k = gI σ1 q k := fun q k x y => by
      rw [u3 q k (by unfold pdJ at x; omega) (fun j hj => ?_), gτ, c4 _ _ (by unfold pdJ at x; omega)]
      by_cases e : j = p
      · simp only [if_pos e]; unfold pdJ at x; omega
      · simp only [if_neg e]; unfold pdJ at x y ⊢; omega
    refine ⟨s3.1, s3.2.1, fun j hj => ?_, fun i j _ _ hij => by unfold pdJ; omega⟩
    by_cases e : j = p
    · obtain ⟨d1, d2, d3⟩ := s1.2.2.1 p hp
      rw [e]
      exact ⟨by rw [gR_sR, if_pos rfl], d2, d3.fr (fun q k x y => own q k x y)⟩
    · have := s3.2.2.1 j hj
      simp only [if_neg e] at this
      obtain ⟨d1, d2, d3⟩ := this
      exact ⟨by rw [gR_sR, if_neg e]; exact d1, d2, d3⟩
  · exact k3
