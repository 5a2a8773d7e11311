/-! ===== the component: few ===== -/
def CT (σ : St) (n : Nat) (w : Wd) (pd : Nat → Nat) (t : Tb) (h : Nat → Nat) : Prop := CX σ n w pd t.1 t.2 ∧ ∀ p, p < w.P → gI σ 40 p = nI (h p)
theorem CT.up {σ : St} {n : Nat} {w : Wd} {pd : Nat → Nat} {t : Tb} {h : Nat → Nat} {p x : Nat} (hT : CT σ n w pd t h) : CT (sI σ 40 p (nI x)) n w pd t (puh h p x) := ⟨hT.1.set (by omega), fun q hq => by
  rw [gI_sI]
  by_cases e : q = p
  · rw [if_pos ⟨rfl, e⟩, e, puh_same]
  · rw [if_neg (fun z => e z.2), puh_ne e]; exact hT.2 q hq⟩
theorem spareOf_C {d n : Nat} {σ : St} {w : Wd} {pd : Nat → Nat} {t : Tb} {h : Nat → Nat} {l : Nat} (hn : FIX ≤ n) (hd : 1 ≤ d) (hT : CT σ n w pd t h) (hw : WW w) (hh : hOk w h) (hl : l < w.N) : Cn d n M_X2_spareOf md_X2_spareOf [.ref 10, .int (nI l)] σ (liI (fun v σ' => σ' = σ ∧ v.toInt = spN w h l)) := by
  have hN := hw.N
  have hP := hw.P
  have hpl := hw.pl l
  have hpw := pow10 hN
  refine S_X2_spareOf hn hd ⟨vp_in_nI (by omega) (by decide), ?_⟩
  rw [nI_clamp (by omega), (hT.1.1.les l (by omega)).1]
  have loop : ∀ p, p ≤ w.P → ∀ x : Int32, x.toInt = (w.pl l : Int) - cntU h l p → K_X2_spareOf_12 d n σ (fun v σ' => σ' = σ ∧ v.toInt = spN w h l) σ (nI l) x (nI p) := by
    refine up_ind (N := w.P) ?_ ?_
    · intro x hx
      exact B_X2_spareOf_12 hn hd ⟨fun _ => ⟨rfl, hx⟩, fun z => absurd (by rw [hT.1.2.1]; exact nI_le (Nat.le_refl _) (by omega)) z⟩
    · intro p hp ih x hx
      have hc := cntU_le h l p
      have hb := hh p
      refine B_X2_spareOf_12 hn hd ⟨fun z => absurd z (by rw [hT.1.2.1]; exact nI_ge hp (by omega)), fun _ => ⟨vp_in_nI (by omega) (by decide), ?_⟩⟩
      rw [nI_clamp (by omega), hT.2 p hp, cont_zf (by omega) (by omega), nI_1]
      refine ⟨fun e => ih _ ?_, fun e => ih _ ?_⟩
      · unfold cntU; rw [if_neg (by rw [e]; decide), hx]; omega
      · unfold cntU; rw [if_pos (by simpa using e)]
        rw [ti_add] <;> rw [hx, show (-1 : Int32).toInt = -1 by decide] <;> omega
  exact loop 0 (by omega) _ (by rw [nI_toInt (by omega)]; unfold cntU; omega)
theorem openL_C {d n : Nat} {σ : St} {w : Wd} {pd : Nat → Nat} {t : Tb} {h : Nat → Nat} (hn : FIX ≤ n) (hd : 2 ≤ d) (hT : CT σ n w pd t h) (hw : WW w) (hh : hOk w h) : Cn d n M_X2_openLessons md_X2_openLessons [.ref 10] σ (liI (fun v σ' => σ' = σ ∧ v = nI (setU (fun l => decide (0 < spN w h l)) w.N))) := by
  have hN := hw.N
  refine S_X2_openLessons hn (by omega) ?_
  generalize hQ : (fun (v : Int32) (σ' : St) => σ' = σ ∧ v = nI (setU (fun l => decide (0 < spN w h l)) w.N)) = Q
  have z0 : (0 : Int32).toInt = 0 := by decide
  have loop : ∀ l, l ≤ w.N → K_X2_openLessons_4 d n σ Q σ (nI (setU (fun l => decide (0 < spN w h l)) l)) (nI l) := by
    refine up_ind (N := w.N) ?_ ?_
    · exact B_X2_openLessons_4 hn (by omega) ⟨fun _ => by rw [← hQ]; exact ⟨rfl, rfl⟩, fun z => absurd (by rw [hT.1.1.N]; exact nI_le (Nat.le_refl _) (by omega)) z⟩
    · intro l hl ih
      unfold setU at ih
      refine B_X2_openLessons_4 hn (by omega) ⟨fun z => absurd z (by rw [hT.1.1.N]; exact nI_ge hl (by omega)), fun _ => ⟨_, spareOf_C hn (by omega) hT hw hh hl, ?_⟩⟩
      rintro v σ1 ⟨rfl, hs⟩ hf
      rw [nI_1]
      refine ⟨fun hle => ?_, fun hle => ?_⟩
      · have := le_ti.mp hle
        rw [hs, z0] at this
        rw [decide_eq_false (fun z => by omega), if_neg (by decide), Nat.or_zero] at ih
        exact ih
      · have : ¬ _ ≤ _ := fun z => hle (le_ti.mpr z)
        rw [hs, z0] at this
        rw [decide_eq_true (show 0 < spN w h l by omega), if_pos rfl] at ih
        rw [shl1 (by omega), nI_or]; exact ih
  exact loop 0 (by omega)
theorem clr_opn {w : Wd} {h : Nat → Nat} {l : Nat} : clr (setU (fun l => decide (0 < spN w h l)) w.N) (2 ^ l) = opnS w h l := by
  unfold opnS
  apply Nat.eq_of_testBit_eq
  intro i
  rw [clr_tb, setU_tb, setU_tb, Nat.testBit_two_pow]
  by_cases e : i = l
  · subst e; simp
  · rw [decide_eq_false (show ¬ l = i from fun z => e z.symm)]
    have : (decide (i ≠ l ∧ 0 < spN w h i)) = decide (0 < spN w h i) := decide_eq_decide.mpr ⟨fun z => z.2, fun z => ⟨e, z⟩⟩
    rw [this]; simp
/-- after a person's turn, the rest of a way to move stays as it was -/
theorem fewN_keep {w : Wd} {t : Tb} {kp : Nat → Nat} {but s : Nat} : ∀ {k p : Nat}, p < k → fewN w t kp but s k p = fewN w t kp but s (p + 1) p
  | 0, p, h => absurd h (by omega)
  | k + 1, p, h => by
    by_cases e : p = k
    · rw [e]
    · by_cases hb : s.testBit k = true
      · rw [fewN_y hb, puh_ne e]; exact fewN_keep (by omega)
      · rw [fewN_n hb]; exact fewN_keep (by omega)
theorem works_C {d n : Nat} {σ : St} {w : Wd} {pd : Nat → Nat} {t : Tb} {h : Nat → Nat} {l s : Nat} (hn : FIX ≤ n) (hd : 3 ≤ d) (hW : CW σ n w pd t h) (hw : WW w) (hV : vW t.2) (hh : hOk w h) (hl : l < w.N) (hs : s < 2 ^ w.P) : Cn d n M_X2_works md_X2_works [.ref 10, .int (nI s), .int (nI l)] σ (liI (fun v σ' => v = 1 ∧ wellP w t (fewN w t (kpN h l) l s w.P) ∧ CT σ' n w pd t (fewN w t (kpN h l) l s w.P) ∨ v = 0 ∧ ¬ wellP w t (fewN w t (kpN h l) l s w.P))) := by
  have hN := hw.N
  have hP := hw.P
  have hpw := pow10 hN
  have hs256 : s < 256 := by
    have : 2 ^ w.P ≤ 2 ^ 8 := Nat.pow_le_pow_right (by decide) hP
    omega
  have hk := kpN_ok hh l
  generalize hH : fewN w t (kpN h l) l s w.P = H
  have hHok : hOk w H := by rw [← hH]; exact fewN_ok hk _
  refine S_X2_works hn (by omega) ?_
  generalize hQ : (fun (v : Int32) (σ' : St) => v = 1 ∧ wellP w t H ∧ CT σ' n w pd t H ∨ v = 0 ∧ ¬ wellP w t H) = Q
  have z0 : (0 : Int32).toInt = 0 := by decide
  have l3 : ∀ o, o ≤ w.N → ∀ σ1 : St, CT σ1 n w pd t H → (∀ p, p < w.P → t.1 p (H p) = true) → (∀ i, i < o → 0 ≤ spN w H i) → K_X2_works_142 d n σ Q σ1 (nI o) := by
    refine up_ind (N := w.N) ?_ ?_
    · intro σ1 m1 m2 m3
      refine B_X2_works_142 hn (by omega) ⟨fun _ => by rw [← hQ]; exact Or.inl ⟨rfl, ⟨m2, m3⟩, m1⟩, fun z => absurd (by rw [m1.1.1.N]; exact nI_le (Nat.le_refl _) (by omega)) z⟩
    · intro o ho ih σ1 m1 m2 m3
      refine B_X2_works_142 hn (by omega) ⟨fun z => absurd z (by rw [m1.1.1.N]; exact nI_ge ho (by omega)), fun _ => ⟨_, spareOf_C hn (by omega) m1 hw hHok ho, ?_⟩⟩
      rintro v σ2 ⟨rfl, hv⟩ hf
      rw [nI_1]
      refine ⟨fun hle => ih _ m1 m2 (fun i hi => ?_), fun hle => ?_⟩
      · have := le_ti.mp hle
        by_cases e : i = o
        · rw [e]; omega
        · exact m3 i (by omega)
      · have : ¬ _ ≤ _ := fun z => hle (le_ti.mpr z)
        rw [← hQ]
        exact Or.inr ⟨rfl, fun z => by have := z.2 o ho; omega⟩
  have l2 : ∀ p, p ≤ w.P → ∀ σ1 : St, CT σ1 n w pd t (fewN w t (kpN h l) l s p) → (∀ i, i < p → t.1 i (H i) = true) → K_X2_works_54 d n σ Q σ1 (nI s) (nI l) (nI p) := by
    refine up_ind (N := w.P) ?_ ?_
    · intro σ1 m1 m2
      rw [hH] at m1
      exact B_X2_works_54 hn (by omega) ⟨fun _ => l3 0 (by omega) σ1 m1 m2 (fun i hi => absurd hi (by omega)), fun z => absurd (by rw [m1.1.2.1]; exact nI_le (Nat.le_refl _) (by omega)) z⟩
    · intro p hp ih σ1 m1 m2
      obtain ⟨b1, b2, b3, b4⟩ := m1.1.2.2 p hp
      have hv : vp_in (nI p) 8 := vp_in_nI (by omega) (by decide)
      have eH : H p = fewN w t (kpN h l) l s (p + 1) p := by rw [← hH]; exact fewN_keep hp
      have fin : ∀ σ2 : St, CT σ2 n w pd t (fewN w t (kpN h l) l s (p + 1)) → t.1 p (H p) = true → K_X2_works_54 d n σ Q σ2 (nI s) (nI l) (nI (p + 1)) := fun σ2 q1 q2 => ih σ2 q1 (fun i hi => by
        by_cases e : i = p
        · rw [e]; exact q2
        · exact m2 i (by omega))
      have bad : ∀ σ2 : St, t.1 p (H p) = false → Q 0 σ2 := fun σ2 q => by
        rw [← hQ]; exact Or.inr ⟨rfl, fun z => by have := z.1 p hp; rw [q] at this; cases this⟩
      refine B_X2_works_54 hn (by omega) ⟨fun z => absurd z (by rw [m1.1.2.1]; exact nI_ge hp (by omega)), fun _ => ⟨fun hz => ?_, fun hz => ?_⟩⟩
      · have hb : ¬ s.testBit p = true := by rw [(cont_zf (by omega) (by omega)).mp hz]; decide
        have eF := fewN_n (w := w) (t := t) (kp := kpN h l) (but := l) hb
        have hlt : fewN w t (kpN h l) l s p p < 2 ^ w.N := fewN_ok hk p p
        rw [eF] at eH
        rw [nI_clamp (by omega), m1.2 p hp, nI_clamp (by omega), nI_1]
        refine ⟨hv, pd p, b1, b2, hv, vp_in_nI (by omega) (by decide), ?_⟩
        rw [Ne, b4.law hlt, ← eH]
        refine ⟨fun e => fin σ1 (by rw [eF]; exact m1) (by simpa using e), fun e => bad σ1 e⟩
      · have hb : s.testBit p = true := by
          cases e : s.testBit p with
          | true => rfl
          | false => exact absurd ((cont_zf (by omega) (by omega)).mpr e) hz
        have eF := fewN_y (w := w) (t := t) (kp := kpN h l) (but := l) hb
        refine ⟨hv, pd p, by rw [nI_clamp (by omega)]; exact b1, b2, _, openL_C hn (by omega) m1 hw (fewN_ok hk p), ?_⟩
        rintro v σ2 ⟨rfl, rfl⟩ hf2
        obtain ⟨m, β, hRk⟩ := b4.rnk
        rw [shl1 (by omega), nI_clr, clr_opn]
        refine ⟨_, rankWithin_spec b2 hRk (hV p) (by omega), ?_⟩
        rintro v σ3 ⟨rfl, hrk⟩ hf3
        obtain ⟨e1, e2⟩ := rkO_bundle hRk (hV p) (by omega) hrk
        have hlt : (takO w t (fewN w t (kpN h l) l s p) l p).getD 0 < 2 ^ w.N := takO_lt
        have eT : fn_X5_bundleAt σ3 (pd p) v = nI ((takO w t (fewN w t (kpN h l) l s p) l p).getD 0) := e2
        rw [nI_clamp (by omega), eT, gI_sI_same, nI_clamp (by omega), nI_1]
        have h83 : 83 ≤ pd p := b2.1
        refine ⟨e1, hv, hv, pd p, b1, b2, hv, vp_in_nI (by omega) (by decide), ?_⟩
        rw [gI_sI_ne (by omega), Ne, b4.law hlt]
        have eH2 : H p = (takO w t (fewN w t (kpN h l) l s p) l p).getD 0 := by rw [eH, eF, puh_same]
        rw [← eH2]
        refine ⟨fun e => fin _ (by rw [eF, eH2]; exact m1.up) (by simpa using e), fun e => bad _ e⟩
  have l1 : ∀ p, p ≤ w.P → ∀ σ1 : St, CX σ1 n w pd t.1 t.2 → Hld σ1 w h → (∀ q, q < p → gI σ1 40 q = nI (few0 (kpN h l) s q)) → K_X2_works_2 d n σ Q σ1 (nI s) (nI l) (nI p) := by
    refine up_ind (N := w.P) ?_ ?_
    · intro σ1 m1 m2 m3
      exact B_X2_works_2 hn (by omega) ⟨fun _ => l2 0 (by omega) σ1 ⟨m1, m3⟩ (fun i hi => absurd hi (by omega)), fun z => absurd (by rw [m1.2.1]; exact nI_le (Nat.le_refl _) (by omega)) z⟩
    · intro p hp ih σ1 m1 m2 m3
      have hv : vp_in (nI p) 8 := vp_in_nI (by omega) (by decide)
      have go : ∀ x : Nat, few0 (kpN h l) s p = x → K_X2_works_2 d n σ Q (sI σ1 40 p (nI x)) (nI s) (nI l) (nI (p + 1)) := fun x hx => by
        refine ih _ (m1.set (by omega)) (fun q hq => by rw [gI_sI_ne (by omega)]; exact m2 q hq) (fun q hq => ?_)
        rw [gI_sI]
        by_cases e : q = p
        · rw [if_pos ⟨rfl, e⟩, e, hx]
        · rw [if_neg (fun z => e z.2)]; exact m3 q (by omega)
      refine B_X2_works_2 hn (by omega) ⟨fun z => absurd z (by rw [m1.2.1]; exact nI_ge hp (by omega)), fun _ => ?_⟩
      rw [cont_zf (by omega) (by omega), nI_clamp (by omega), m2 p hp, shl1 (by omega), nI_clr, nI_1]
      refine ⟨fun hz => ⟨hv, hv, go _ (by unfold few0; rw [if_neg (by rw [hz]; decide)]; rfl)⟩, fun hz => ⟨hv, go 0 (by unfold few0; rw [if_pos (by simpa using hz)])⟩⟩
  exact l1 0 (by omega) σ hW.1 hW.2.1 (fun q h => absurd h (by omega))
theorem popc_lt {s P : Nat} (hs : s < 2 ^ P) : popc s ≤ P := by
  have hz : ∀ i, P ≤ i → s.testBit i = false := fun i hi => Nat.testBit_lt_two_pow (Nat.lt_of_lt_of_le hs (Nat.pow_le_pow_right (by decide) hi))
  have h : ∀ k, popU s k ≤ P ∧ popU s k ≤ k := fun k => by
    induction k with
    | zero => exact ⟨Nat.zero_le _, Nat.le_refl _⟩
    | succ k ih =>
      have e : popU s (k + 1) = popU s k + if s.testBit k = true then 1 else 0 := rfl
      rw [e]
      by_cases hk : P ≤ k
      · rw [hz k hk]; simp; omega
      · split <;> omega
  exact (h 10).1
theorem find_C {d n : Nat} {σ : St} {w : Wd} {pd : Nat → Nat} {t : Tb} {h : Nat → Nat} {l : Nat} (hn : FIX ≤ n) (hd : 4 ≤ d) (hW : CW σ n w pd t h) (hw : WW w) (hV : vW t.2) (hh : hOk w h) (hl : l < w.N) : Cn d n M_X2_find md_X2_find [.ref 10, .int (nI l)] σ (liI (fun v σ' => v = 0 ∧ fewO w t (kpN h l) l = none ∨ v = 1 ∧ ∃ s, fewO w t (kpN h l) l = some s ∧ gI σ' 10 3 = nI s ∧ ∀ p, p < w.P → gI σ' 40 p = nI (fewN w t (kpN h l) l s w.P p))) := by
  have hP := hw.P
  have hp2 : 2 ^ w.P ≤ 256 := by
    have : 2 ^ w.P ≤ 2 ^ 8 := Nat.pow_le_pow_right (by decide) hP
    omega
  refine S_X2_find hn (by omega) ?_
  generalize hQ : (fun (v : Int32) (σ' : St) => v = 0 ∧ fewO w t (kpN h l) l = none ∨ v = 1 ∧ ∃ s, fewO w t (kpN h l) l = some s ∧ gI σ' 10 3 = nI s ∧ ∀ p, p < w.P → gI σ' 40 p = nI (fewN w t (kpN h l) l s w.P p)) = Q
  have shP : ∀ σ1 : St, CW σ1 n w pd t h → (1 : Int32) <<< (gI σ1 3 2 &&& 31) = nI (2 ^ w.P) := fun σ1 m => by rw [m.1.2.1]; exact shl1 (by omega)
  have outer : ∀ m, m ≤ w.P + 1 → ∀ σ1 : St, CW σ1 n w pd t h → (∀ s, s < 2 ^ w.P → popc s < m → ¬ wellP w t (fewN w t (kpN h l) l s w.P)) → K_X2_find_2 d n σ Q σ1 (nI l) (nI m) := by
    refine up_ind (N := w.P + 1) ?_ ?_
    · intro σ1 m1 m2
      refine B_X2_find_2 hn (by omega) ⟨fun _ => ?_, fun z => absurd (by rw [m1.1.2.1]; exact nI_lt (by omega) (by omega)) z⟩
      rw [← hQ]
      refine Or.inl ⟨rfl, amx_all (fun s hs => @decide_eq_false _ (Classical.propDecidable _) (m2 s hs ?_))⟩
      have := popc_lt hs
      omega
    · intro m hm ih σ1 m1 m2
      refine B_X2_find_2 hn (by omega) ⟨fun z => absurd z (by rw [m1.1.2.1]; exact nI_nlt (by omega) (by omega)), fun _ => ?_⟩
      have inn : ∀ s, s ≤ 2 ^ w.P → ∀ σ2 : St, CW σ2 n w pd t h → (∀ i, i < s → popc i = m → ¬ wellP w t (fewN w t (kpN h l) l i w.P)) → K_X2_find_15 d n σ Q σ2 (nI l) (nI m) (nI s) := by
        refine up_ind (N := 2 ^ w.P) ?_ ?_
        · intro σ2 q1 q2
          refine B_X2_find_15 hn (by omega) ⟨fun _ => ?_, fun z => absurd (by rw [shP _ q1]; exact nI_le (Nat.le_refl _) (by omega)) z⟩
          rw [nI_1]
          refine ih σ2 q1 (fun s hs hp => ?_)
          by_cases e : popc s = m
          · exact q2 s hs e
          · exact m2 s hs (by omega)
        · intro s hs ih2 σ2 q1 q2
          have pl : popc s ≤ 10 := popU_le s 10
          refine B_X2_find_15 hn (by omega) ⟨fun z => absurd z (by rw [shP _ q1]; exact nI_ge hs (by omega)), fun _ => ?_⟩
          rw [bitc (by omega), nI_1]
          refine ⟨fun e => ih2 σ2 q1 (fun i hi hp => ?_), fun e => ⟨_, works_C hn (by omega) q1 hw hV hh hl hs, ?_⟩⟩
          · by_cases ei : i = s
            · exact absurd (by rw [← hp, ei]) e
            · exact q2 i (by omega) hp
          · have em : popc s = m := (nI_eq (by omega) (by omega)).mp e
            rintro v σ3 (⟨rfl, r1, r2⟩ | ⟨rfl, r1⟩) hf
            · refine ⟨fun z => absurd z (by decide), fun _ => ?_⟩
              rw [← hQ]
              refine Or.inr ⟨rfl, s, amx_eq hs (@decide_eq_true _ (Classical.propDecidable _) r1) (fun i hi ho => ?_), gI_sI_same _ _ _ _, fun p hp => by rw [gI_sI_ne (by omega)]; exact r2.2 p hp⟩
              have hwi := @of_decide_eq_true _ (Classical.propDecidable _) ho
              have h1 : ¬ popc i < m := fun z => m2 i hi z hwi
              refine ⟨by omega, fun hlt => ?_⟩
              have h2 : popc i ≠ m := fun z => q2 i hlt z hwi
              omega
            · refine ⟨fun _ => ih2 σ3 (q1.st hf (by decide)) (fun i hi hp => ?_), fun z => absurd rfl z⟩
              by_cases ei : i = s
              · rw [ei]; exact r1
              · exact q2 i (by omega) hp
      exact inn 0 (Nat.zero_le _) σ1 m1 (fun i hi => absurd hi (by omega))
  exact outer 0 (by omega) σ hW (fun s _ h => absurd h (by omega))
theorem few_C {d n : Nat} {σ : St} {w : Wd} {a1 a2 a3 : Int32} (hn : FIX ≤ n) (hd : 9 ≤ d) (hR : RC σ n w) (hw : WW w) : Cn d n M_X11_few md_X11_few [.ref 0, .int a1, .int a2, .int a3] σ (liI (fun v σ' => v = fewV w a1 a2 a3 ∧ RC σ' n w)) := by
  refine Cn.wk (Q := liI (fun v σ' => v = fewV w a1 a2 a3 ∧ SX σ' n w pdJ id (hdI w) ∧ MK σ' w)) ?_ (by
    rintro v σ' ⟨x, e, h1, h2, h3⟩ hf
    exact ⟨x, e, h1, h2, h3, hR.2.2.st hf (by decide)⟩)
  have hN := hw.N
  have hP := hw.P
  have t10 : (10 : Int32).toInt = 10 := by decide
  generalize hQ : (fun (v : Int32) (σ' : St) => v = fewV w a1 a2 a3 ∧ SX σ' n w pdJ id (hdI w) ∧ MK σ' w) = Q
  have no : ¬ fewG w a1 a2 a3 → Q (-1) σ := fun h => by rw [← hQ]; unfold fewV; rw [if_neg h]; exact ⟨rfl, hR.1, hR.2.1⟩
  have e10 : inP (a3 - 10) w.P ↔ 10 ≤ a3.toInt ∧ a3.toInt ≤ 9 + (w.P : Int) := by
    have h1 := Int32.toInt_lt a3
    have h2 := Int32.le_toInt a3
    constructor
    · intro h
      obtain ⟨l, hl, el⟩ := inP_ex (by omega) h
      have : a3 = nI l + 10 := by rw [← el]; simp
      rw [this, ti_add] <;> rw [nI_toInt (by omega), t10] <;> omega
    · intro h
      have : (a3 - 10).toInt = a3.toInt - 10 := by rw [ti_sub] <;> rw [t10] <;> omega
      exact ⟨by omega, by omega⟩
  have got : (a3 = 0 ∨ inP (a3 - 10) w.P) → (((fn_X11_isWay a1) = 0 → Q (-1) σ) ∧ (¬ (fn_X11_isWay a1) = 0 → (((fn_X6_isLesson σ a2) = 0 → Q (-1) σ) ∧ (¬ (fn_X6_isLesson σ a2) = 0 → (((1 : Int32) ≠ 0 → ∃ Q5 : St → Prop, Cn (d - 1) n M_X10_run md_X10_run [.ref 8, .int a1] σ (liV Q5) ∧ ∀ (σ7 : St), Q5 σ7 → Fr md_X10_run σ σ7 → ∃ Q11 : Int32 → St → Prop, Cn (d - 1) n M_X2_find md_X2_find [.ref 10, .int a2] σ7 (liI Q11) ∧ ∀ (v14 : Int32) (σ13 : St), Q11 v14 σ13 → Fr md_X2_find σ7 σ13 → ((v14 ≠ 0 → ((a3 ≠ 0 → vp_in (a3 - 10) 8 ∧ Q (gI σ13 40 (a3 - 10).toNatClampNeg) σ13) ∧ (a3 = 0 → Q (gI σ13 10 3) σ13))) ∧ (v14 = 0 → Q (-1) σ13))) ∧ ((1 : Int32) = 0 → Q (-1) σ)))))) := by
    intro hk
    refine ⟨fun h => no (fun z => ze.mp h (wayC.mpr z.1)), fun h => ⟨fun h2 => no (fun z => ze.mp h2 ((hR.1.les hw).mpr z.2.1)), fun h2 => ⟨fun _ => ?_, fun z => absurd z (by decide)⟩⟩⟩
    have g1 := wayC.mp h
    have g2 := (hR.1.les hw).mp h2
    have hg : fewG w a1 a2 a3 := ⟨g1, g2, by
      rcases hk with k | k
      · exact Or.inl k
      · exact Or.inr (e10.mp k)⟩
    have eV : fewV w a1 a2 a3 = fewA w (tM w) (kpN (wayH w a1) (tn a2)) (tn a2) a3 := by unfold fewV; rw [if_pos hg]
    rw [← hQ, eV]
    obtain ⟨k, hk2, rfl⟩ := inP_ex (by decide) g1
    obtain ⟨l, hl, rfl⟩ := inP_ex (by omega) g2
    unfold wayH
    rw [tn_nI (by omega), tn_nI (by omega)]
    refine ⟨_, ways_spec hn (by omega) hR.1 hR.2.1 hw hk2 (fun _ _ => rfl), ?_⟩
    rintro σ1 ⟨s1, k1, w1, -⟩ hf1
    rw [tR_id] at w1
    have hok := wayT_ok hw (tM w) k
    generalize wayT w (tM w) k = hh at w1 hok
    refine ⟨_, find_C hn (by omega) w1 hw (VM_w w) hok hl, ?_⟩
    rintro v σ2 hv hf2
    have s2 := s1.st hf2 (by decide)
    have k2 := k1.st hf2 (by decide)
    unfold fewA
    rcases hv with ⟨rfl, hO⟩ | ⟨rfl, s, hO, q1, q2⟩
    · rw [hO]
      exact ⟨fun z => absurd rfl z, fun _ => ⟨rfl, s2, k2⟩⟩
    · rw [hO]
      refine ⟨fun _ => ⟨fun n0 => ?_, fun n0 => ⟨?_, s2, k2⟩⟩, fun z => absurd z (by decide)⟩
      · have hp : inP (a3 - 10) w.P := by
          rcases hk with z | z
          · exact absurd z n0
          · exact z
        obtain ⟨p, hp2, ep⟩ := inP_ex (by omega) hp
        rw [ep]
        refine ⟨vp_in_nI (by omega) (by decide), ?_, s2, k2⟩
        show _ = if a3 = 0 then nI s else nI (fewN w (tM w) (kpN hh l) l s w.P (tn (nI p)))
        rw [if_neg n0, tn_nI (by omega), nI_clamp (by omega)]; exact q2 p hp2
      · show _ = if a3 = 0 then nI s else _
        rw [if_pos n0]; exact q1
  refine S_X11_few hn (by omega) ⟨fun h => got (Or.inl h), fun h => ⟨fun h3 => ?_, fun h3 => got (Or.inr ((hR.1.per hw).mp h3))⟩⟩
  have ng : ¬ fewG w a1 a2 a3 := fun z => by
    rcases z.2.2 with y | y
    · exact h y
    · exact ze.mp h3 ((hR.1.per hw).mpr (e10.mpr y))
  exact ⟨fun _ => no ng, fun _ => ⟨fun _ => no ng, fun _ => ⟨fun z => absurd rfl z, fun _ => no ng⟩⟩⟩
