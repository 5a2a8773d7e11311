/-! ===== the component: has, left, sum, envy, envies, rank ===== -/
theorem has_C {d n : Nat} {σ : St} {w : Wd} {a1 a2 : Int32} (hn : FIX ≤ n) (hd : 9 ≤ d) (hR : RC σ n w) (hw : WW w) : Cn d n M_X11_has md_X11_has [.ref 0, .int a1, .int a2] σ (liI (fun v σ' => v = hasV w a1 a2 ∧ RC σ' n w)) := by
  refine Cn.wk (Q := liI (fun v σ' => v = hasV w a1 a2 ∧ SX σ' n w pdJ id (hdI w) ∧ MK σ' w)) ?_ (by
    rintro v σ' ⟨x, e, h1, h2, h3⟩ hf
    exact ⟨x, e, h1, h2, h3, hR.2.2.st hf (by decide)⟩)
  have hP := hw.P
  have no : ¬ (inP a1 6 ∧ inP a2 w.P) → (fun (v : Int32) (σ' : St) => v = hasV w a1 a2 ∧ SX σ' n w pdJ id (hdI w) ∧ MK σ' w) (-1) σ := fun h => by
    unfold hasV; rw [if_neg h]; exact ⟨rfl, hR.1, hR.2.1⟩
  refine S_X11_has hn (by omega) ⟨fun h => no (fun z => ze.mp h (wayC.mpr z.1)), fun h => ⟨fun h2 => ?_, fun h2 => no (fun z => ze.mp h2 ((hR.1.per hw).mpr z.2))⟩⟩
  have g1 := wayC.mp h
  have g2 := (hR.1.per hw).mp h2
  obtain ⟨k, hk, rfl⟩ := inP_ex (by decide) g1
  obtain ⟨p, hp, rfl⟩ := inP_ex (by omega) g2
  refine ⟨_, ways_spec hn (by omega) hR.1 hR.2.1 hw hk (fun _ _ => rfl), ?_⟩
  rintro σ1 ⟨s1, k1, w1, -⟩ hf1
  refine ⟨vp_in_nI (by omega) (by decide), ?_, s1, k1⟩
  unfold hasV wayH; rw [if_pos ⟨g1, g2⟩, tn_nI (by omega), tn_nI (by omega), nI_clamp (by omega)]; exact w1.2.1 p hp
theorem left_C {d n : Nat} {σ : St} {w : Wd} {a1 a2 : Int32} (hn : FIX ≤ n) (hd : 9 ≤ d) (hR : RC σ n w) (hw : WW w) : Cn d n M_X11_left md_X11_left [.ref 0, .int a1, .int a2] σ (liI (fun v σ' => v = leftV w a1 a2 ∧ RC σ' n w)) := by
  refine Cn.wk (Q := liI (fun v σ' => v = leftV w a1 a2 ∧ SX σ' n w pdJ id (hdI w) ∧ MK σ' w)) ?_ (by
    rintro v σ' ⟨x, e, h1, h2, h3⟩ hf
    exact ⟨x, e, h1, h2, h3, hR.2.2.st hf (by decide)⟩)
  have hN := hw.N
  have no : ¬ (inP a1 6 ∧ inP a2 w.N) → (fun (v : Int32) (σ' : St) => v = leftV w a1 a2 ∧ SX σ' n w pdJ id (hdI w) ∧ MK σ' w) (-100) σ := fun h => by
    unfold leftV; rw [if_neg h]; exact ⟨rfl, hR.1, hR.2.1⟩
  refine S_X11_left hn (by omega) ⟨fun h => no (fun z => ze.mp h (wayC.mpr z.1)), fun h => ⟨fun h2 => ?_, fun h2 => no (fun z => ze.mp h2 ((hR.1.les hw).mpr z.2))⟩⟩
  have g1 := wayC.mp h
  have g2 := (hR.1.les hw).mp h2
  obtain ⟨k, hk, rfl⟩ := inP_ex (by decide) g1
  obtain ⟨l, hl, rfl⟩ := inP_ex (by omega) g2
  refine ⟨_, ways_spec hn (by omega) hR.1 hR.2.1 hw hk (fun _ _ => rfl), ?_⟩
  rintro σ1 ⟨s1, k1, w1, -⟩ hf1
  refine ⟨vp_in_nI (by omega) (by decide), ?_, s1, k1⟩
  unfold leftV wayH; rw [if_pos ⟨g1, g2⟩, tn_nI (by omega), tn_nI (by omega), nI_clamp (by omega)]; exact ofI (w1.2.2 l hl)
theorem sum_C {d n : Nat} {σ : St} {w : Wd} {a : Int32} (hn : FIX ≤ n) (hd : 9 ≤ d) (hR : RC σ n w) (hw : WW w) : Cn d n M_X11_sum md_X11_sum [.ref 0, .int a] σ (liI (fun v σ' => v = sumV w a ∧ RC σ' n w)) := by
  refine Cn.wk (Q := liI (fun v σ' => v = sumV w a ∧ SX σ' n w pdJ id (hdI w) ∧ MK σ' w)) ?_ (by
    rintro v σ' ⟨x, e, h1, h2, h3⟩ hf
    exact ⟨x, e, h1, h2, h3, hR.2.2.st hf (by decide)⟩)
  have hP := hw.P
  have hpw := pow10 hw.N
  refine S_X11_sum hn (by omega) ⟨fun h => ?_, fun h => ⟨?_, hR.1, hR.2.1⟩⟩
  · have g1 := wayC.mp h
    obtain ⟨k, hk, rfl⟩ := inP_ex (by decide) g1
    refine ⟨_, ways_spec hn (by omega) hR.1 hR.2.1 hw hk (fun _ _ => rfl), ?_⟩
    rintro σ1 ⟨s1, k1, w1, -⟩ hf1
    rw [tR_id] at w1
    have hok := wayT_ok hw (tM w) k
    generalize hwy : wayT w (tM w) k = hh at w1 hok
    have eV : sumV w (nI k) = Int32.ofInt (sumZ (fun p => VM w p (hh p)) w.P) := by
      unfold sumV wayH; rw [if_pos g1, tn_nI (by omega), hwy]
    rw [eV]
    have rng : ∀ p : Nat, -(1000000 * (p : Int)) ≤ sumZ (fun p => VM w p (hh p)) p ∧ sumZ (fun p => VM w p (hh p)) p ≤ 1000000 * p := sumZ_rng (by decide) (fun p => VM_w w p _)
    generalize hQ : (fun (v : Int32) (σ' : St) => v = Int32.ofInt (sumZ (fun p => VM w p (hh p)) w.P) ∧ SX σ' n w pdJ id (hdI w) ∧ MK σ' w) = Q
    have loop : ∀ p, p ≤ w.P → ∀ x : Int32, x.toInt = sumZ (fun p => VM w p (hh p)) p → K_X11_sum_23 d n σ Q σ1 x (nI p) := by
      refine up_ind (N := w.P) ?_ ?_
      · intro x hx
        exact B_X11_sum_23 hn (by omega) ⟨fun _ => by rw [← hQ]; exact ⟨ofI hx, s1, k1⟩, fun z => absurd (by rw [s1.2.1]; exact nI_le (Nat.le_refl _) (by omega)) z⟩
      · intro p hp ih x hx
        have hb := hok p
        obtain ⟨b1, b2, b3, b4⟩ := w1.1.2.2 p hp
        have r1 := rng p
        have r2 := VM_w w p (hh p)
        refine B_X11_sum_23 hn (by omega) ⟨fun z => absurd z (by rw [s1.2.1]; exact nI_ge hp (by omega)), fun _ => ?_⟩
        rw [nI_clamp (by omega), w1.2.1 p hp, nI_clamp (by omega), nI_1]
        refine ⟨vp_in_nI (by omega) (by decide), pdJ p, b1, b2, vp_in_nI (by omega) (by decide), vp_in_nI (by omega) (by decide), ih _ ?_⟩
        have a2 : (gI σ1 (pdJ p + 2) (hh p)).toInt = VM w p (hh p) := b4.wor hb
        unfold sumZ
        rw [ti_add] <;> rw [hx, a2] <;> omega
    exact loop 0 (by omega) 0 (by unfold sumZ; decide)
  · unfold sumV; rw [if_neg (fun z => ze.mp h (wayC.mpr z))]
theorem betC {σ : St} {p N b : Nat} {L : Nat → Bool} {V : Nat → Int} {x : Int32} {y : Int} (h : TbC σ p N L V) (hN : N ≤ 10) (hb : b < 2 ^ N) (hx : x.toInt = y) : pre_X3_isBetter σ p (nI b) x ∧ fn_X3_isBetter σ p (nI b) x = bI (L b && decide (y < V b)) := by
  have hpw := pow10 hN
  have hv : vp_in (nI b) 1024 := vp_in_nI (by omega) (by decide)
  refine ⟨⟨hv, fun _ => trivial, fun _ => ⟨hv, fun _ => trivial, fun _ => trivial⟩⟩, ?_⟩
  unfold fn_X3_isBetter
  rw [nI_clamp (by omega)]
  have hw := h.wor hb
  by_cases e : gI σ (p + 3) b = 0
  · rw [if_pos e, (h.law hb).mp e]; rfl
  · rw [if_neg e]
    have el : L b = true := by
      cases e2 : L b with
      | true => rfl
      | false => exact absurd ((h.law hb).mpr e2) e
    rw [el, Bool.true_and]
    by_cases e2 : gI σ (p + 2) b ≤ x
    · have := le_ti.mp e2
      rw [hw, hx] at this
      rw [if_pos e2, decide_eq_false (by omega)]; rfl
    · have : ¬ _ ≤ _ := fun z => e2 (le_ti.mpr z)
      rw [hw, hx] at this
      rw [if_neg e2, decide_eq_true (by omega)]; rfl
theorem envyOf_C {d n : Nat} {σ : St} {w : Wd} {pd : Nat → Nat} {t : Tb} {h : Nat → Nat} {p q : Nat} (hn : FIX ≤ n) (hd : 2 ≤ d) (hW : CW σ n w pd t h) (hw : WW w) (hh : hOk w h) (hp : p < w.P) (hq : q < w.P) : Cn d n M_X3_envyOf md_X3_envyOf [.ref 9, .int (nI p), .int (nI q)] σ (liI (fun v σ' => σ' = σ ∧ v = nI (envN w t h p q))) := by
  have hP := hw.P
  have hN := hw.N
  have hpw := pow10 hN
  have h1 := hh p
  have h2 := hh q
  obtain ⟨b1, b2, b3, b4⟩ := hW.1.2.2 p hp
  have hx := b4.wor h1
  obtain ⟨c1, c2⟩ := betC b4 hN h2 hx
  refine S_X3_envyOf hn (by omega) ?_
  rw [nI_clamp (by omega), nI_clamp (by omega), hW.2.1 p hp, hW.2.1 q hq, nI_clamp (by omega)]
  refine ⟨vp_in_nI (by omega) (by decide), pd p, b1, b2, vp_in_nI (by omega) (by decide), vp_in_nI (by omega) (by decide), vp_in_nI (by omega) (by decide), c1, ?_⟩
  rw [c2, bI_z, bI_nz]
  refine ⟨fun hb => ?_, fun hb => ⟨rfl, by unfold envN btr; rw [if_pos hb]; rfl⟩⟩
  have hb' : ¬ btr t p (h q) (h p) = false := by unfold btr; rw [hb]; decide
  generalize hQ : (fun (v : Int32) (σ' : St) => σ' = σ ∧ v = nI (envN w t h p q)) = Q
  have loop : ∀ l, l ≤ w.N → (∀ l', l' < l → ¬ ((h q).testBit l' = true ∧ btr t p (clr (h q) (2 ^ l')) (h p) = false)) → K_X3_envyOf_53 d n σ Q σ (pd p) (gI σ (pd p + 2) (h p)) (nI (h q)) (nI l) := by
    refine up_ind (N := w.N) ?_ ?_
    · intro hno
      refine B_X3_envyOf_53 hn (by omega) b2 ⟨fun _ => ?_, fun z => absurd (by rw [hW.1.1.N]; exact nI_le (Nat.le_refl _) (by omega)) z⟩
      rw [← hQ]
      refine ⟨rfl, ?_⟩
      unfold envN; rw [if_neg hb', if_neg (fun ⟨l, hl, z⟩ => hno l hl z)]; rfl
    · intro l hl ih hno
      have hc := clr_le (h q) (2 ^ l)
      obtain ⟨a1, a2⟩ := betC b4 hN (show clr (h q) (2 ^ l) < 2 ^ w.N by omega) hx
      refine B_X3_envyOf_53 hn (by omega) b2 ⟨fun z => absurd z (by rw [hW.1.1.N]; exact nI_ge hl (by omega)), fun _ => ?_⟩
      rw [cont_zf (by omega) (by omega), shl1 (by omega), nI_clr, a2, bI_nz, bI_z, nI_1]
      refine ⟨fun hz => ih (fun l' hl' => ?_), fun hz => ⟨a1, fun hx2 => ih (fun l' hl' => ?_), fun hx2 => ?_⟩⟩
      · by_cases e : l' = l
        · rw [e, hz]; exact fun z => absurd z.1 (by decide)
        · exact hno l' (by omega)
      · by_cases e : l' = l
        · rw [e]; exact fun z => by have := z.2; unfold btr at this; rw [this] at hx2; cases hx2
        · exact hno l' (by omega)
      · rw [← hQ]
        refine ⟨rfl, ?_⟩
        unfold envN; rw [if_neg hb', if_pos ⟨l, hl, by simpa using hz, by unfold btr; exact hx2⟩]; rfl
  exact loop 0 (by omega) (fun l' h => absurd h (by omega))
theorem envy_C {d n : Nat} {σ : St} {w : Wd} {a1 a2 a3 : Int32} (hn : FIX ≤ n) (hd : 9 ≤ d) (hR : RC σ n w) (hw : WW w) : Cn d n M_X11_envy md_X11_envy [.ref 0, .int a1, .int a2, .int a3] σ (liI (fun v σ' => v = envyV w a1 a2 a3 ∧ RC σ' n w)) := by
  refine Cn.wk (Q := liI (fun v σ' => v = envyV w a1 a2 a3 ∧ SX σ' n w pdJ id (hdI w) ∧ MK σ' w)) ?_ (by
    rintro v σ' ⟨x, e, h1, h2, h3⟩ hf
    exact ⟨x, e, h1, h2, h3, hR.2.2.st hf (by decide)⟩)
  have hP := hw.P
  have no : ¬ (inP a1 6 ∧ inP a2 w.P ∧ inP a3 w.P ∧ a2 ≠ a3) → (fun (v : Int32) (σ' : St) => v = envyV w a1 a2 a3 ∧ SX σ' n w pdJ id (hdI w) ∧ MK σ' w) (-1) σ := fun h => by
    unfold envyV; rw [if_neg h]; exact ⟨rfl, hR.1, hR.2.1⟩
  refine S_X11_envy hn (by omega) ⟨fun h => no (fun z => ze.mp h (wayC.mpr z.1)), fun h => ⟨fun h2 => no (fun z => ze.mp h2 ((hR.1.per hw).mpr z.2.1)), fun h2 => ⟨fun h3 => no (fun z => ze.mp h3 ((hR.1.per hw).mpr z.2.2.1)), fun h3 => ⟨fun h4 => ?_, fun h4 => no (fun z => z.2.2.2 h4)⟩⟩⟩⟩
  have g1 := wayC.mp h
  have g2 := (hR.1.per hw).mp h2
  have g3 := (hR.1.per hw).mp h3
  have eV : envyV w a1 a2 a3 = nI (envN w (tM w) (wayH w a1) (tn a2) (tn a3)) := by unfold envyV; rw [if_pos ⟨g1, g2, g3, h4⟩]
  rw [eV]
  obtain ⟨k, hk, rfl⟩ := inP_ex (by decide) g1
  obtain ⟨p, hp, rfl⟩ := inP_ex (by omega) g2
  obtain ⟨q, hq, rfl⟩ := inP_ex (by omega) g3
  refine ⟨_, ways_spec hn (by omega) hR.1 hR.2.1 hw hk (fun _ _ => rfl), ?_⟩
  rintro σ1 ⟨s1, k1, w1, -⟩ hf1
  refine ⟨_, envyOf_C hn (by omega) w1 hw (wayT_ok hw _ _) hp hq, ?_⟩
  rintro v σ2 ⟨rfl, e⟩ hf2
  refine ⟨?_, s1, k1⟩
  unfold wayH; rw [tn_nI (by omega), tn_nI (by omega), tn_nI (by omega)]; exact e
theorem envies_C {d n : Nat} {σ : St} {w : Wd} {a1 a2 : Int32} (hn : FIX ≤ n) (hd : 9 ≤ d) (hR : RC σ n w) (hw : WW w) : Cn d n M_X11_envies md_X11_envies [.ref 0, .int a1, .int a2] σ (liI (fun v σ' => v = enviesV w a1 a2 ∧ RC σ' n w)) := by
  refine Cn.wk (Q := liI (fun v σ' => v = enviesV w a1 a2 ∧ SX σ' n w pdJ id (hdI w) ∧ MK σ' w)) ?_ (by
    rintro v σ' ⟨x, e, h1, h2, h3⟩ hf
    exact ⟨x, e, h1, h2, h3, hR.2.2.st hf (by decide)⟩)
  have hP := hw.P
  have o1 : (1 : Int32).toInt = 1 := by decide
  have o2 : (2 : Int32).toInt = 2 := by decide
  have no : ¬ (inP a1 6 ∧ (1 ≤ a2.toInt ∧ a2.toInt ≤ 2)) → (fun (v : Int32) (σ' : St) => v = enviesV w a1 a2 ∧ SX σ' n w pdJ id (hdI w) ∧ MK σ' w) (-1) σ := fun h => by
    unfold enviesV; rw [if_neg h]; exact ⟨rfl, hR.1, hR.2.1⟩
  refine S_X11_envies hn (by omega) ⟨fun h => no (fun z => ze.mp h (wayC.mpr z.1)), fun h => ⟨fun h2 => no (fun z => by have := lt_ti.mp h2; rw [o1] at this; have := z.2.1; omega), fun h2 => ⟨fun h3 => ?_, fun h3 => no (fun z => h3 (le_ti.mpr (by rw [o2]; exact z.2.2)))⟩⟩⟩
  have g1 := wayC.mp h
  have g2 : 1 ≤ a2.toInt ∧ a2.toInt ≤ 2 := by
    have q1 : ¬ _ < _ := fun z => h2 (lt_ti.mpr z)
    have q2 := le_ti.mp h3
    rw [o1] at q1
    rw [o2] at q2
    omega
  have eV : enviesV w a1 a2 = nI (sumN (fun p => cntS (fun q => decide (p ≠ q ∧ tn a2 ≤ envN w (tM w) (wayH w a1) p q)) w.P) w.P) := by unfold enviesV; rw [if_pos ⟨g1, g2⟩]
  rw [eV]
  obtain ⟨k, hk, rfl⟩ := inP_ex (by decide) g1
  obtain ⟨m, hm, rfl⟩ := ex_nI (K := 3) (by decide) (by omega : 0 ≤ a2.toInt) (by omega)
  unfold wayH; rw [tn_nI (by omega), tn_nI (by omega)]
  refine ⟨_, ways_spec hn (by omega) hR.1 hR.2.1 hw hk (fun _ _ => rfl), ?_⟩
  rintro σ1 ⟨s1, k1, w1, -⟩ hf1
  rw [tR_id] at w1
  have hok := wayT_ok hw (tM w) k
  generalize wayT w (tM w) k = hh at w1 hok
  generalize hQ : (fun (v : Int32) (σ' : St) => v = nI (sumN (fun p => cntS (fun q => decide (p ≠ q ∧ m ≤ envN w (tM w) hh p q)) w.P) w.P) ∧ SX σ' n w pdJ id (hdI w) ∧ MK σ' w) = Q
  have loop : ∀ p, p ≤ w.P → K_X11_envies_32 d n σ Q σ1 (nI m) (nI (sumN (fun p => cntS (fun q => decide (p ≠ q ∧ m ≤ envN w (tM w) hh p q)) w.P) p)) (nI p) := by
    refine up_ind (N := w.P) ?_ ?_
    · exact B_X11_envies_32 hn (by omega) ⟨fun _ => by rw [← hQ]; exact ⟨rfl, s1, k1⟩, fun z => absurd (by rw [s1.2.1]; exact nI_le (Nat.le_refl _) (by omega)) z⟩
    · intro p hp ih
      refine B_X11_envies_32 hn (by omega) ⟨fun z => absurd z (by rw [s1.2.1]; exact nI_ge hp (by omega)), fun _ => ?_⟩
      generalize hS : sumN (fun p => cntS (fun q => decide (p ≠ q ∧ m ≤ envN w (tM w) hh p q)) w.P) p = S
      have inn : ∀ q, q ≤ w.P → K_X11_envies_47 d n σ Q σ1 (nI m) (nI (S + cntS (fun q => decide (p ≠ q ∧ m ≤ envN w (tM w) hh p q)) q)) (nI p) (nI q) := by
        refine up_ind (N := w.P) ?_ ?_
        · refine B_X11_envies_47 hn (by omega) ⟨fun _ => ?_, fun z => absurd (by rw [s1.2.1]; exact nI_le (Nat.le_refl _) (by omega)) z⟩
          unfold sumN at ih
          rw [hS] at ih
          rw [nI_1]; exact ih
        · intro q hq ih2
          unfold cntS at ih2
          refine B_X11_envies_47 hn (by omega) ⟨fun z => absurd z (by rw [s1.2.1]; exact nI_ge hq (by omega)), fun _ => ⟨fun e => ?_, fun e => ⟨_, envyOf_C hn (by omega) w1 hw hok hp hq, ?_⟩⟩⟩
          · have epq : p = q := (nI_eq (by omega) (by omega)).mp e
            rw [decide_eq_false (fun z => z.1 epq)] at ih2
            rw [nI_1]; exact ih2
          · rintro v σ2 ⟨rfl, rfl⟩ hf2
            have hne : p ≠ q := fun z => e (by rw [z])
            have hle := envN_le w (tM w) hh p q
            rw [nI_1, nI_1]
            refine ⟨fun hlt => ?_, fun hlt => ?_⟩
            · have := lt_ti.mp hlt
              rw [nI_toInt (by omega), nI_toInt (by omega)] at this
              rw [decide_eq_false (fun z => by have := z.2; omega)] at ih2
              exact ih2
            · have : ¬ _ < _ := fun z => hlt (lt_ti.mpr z)
              rw [nI_toInt (by omega), nI_toInt (by omega)] at this
              rw [decide_eq_true (show p ≠ q ∧ m ≤ envN w (tM w) hh p q from ⟨hne, by omega⟩), if_pos rfl] at ih2
              exact ih2
      exact inn 0 (by omega)
  exact loop 0 (by omega)
theorem rank_C {d n : Nat} {σ : St} {w : Wd} {a1 a2 : Int32} (hn : FIX ≤ n) (hd : 9 ≤ d) (hR : RC σ n w) (hw : WW w) : Cn d n M_X11_rank md_X11_rank [.ref 0, .int a1, .int a2] σ (liI (fun v σ' => v = rankV w a1 a2 ∧ RC σ' n w)) := by
  refine Cn.wk (Q := liI (fun v σ' => v = rankV w a1 a2 ∧ SX σ' n w pdJ id (hdI w) ∧ MK σ' w)) ?_ (by
    rintro v σ' ⟨x, e, h1, h2, h3⟩ hf
    exact ⟨x, e, h1, h2, h3, hR.2.2.st hf (by decide)⟩)
  have hP := hw.P
  have hpw := pow10 hw.N
  have no : ¬ (inP a1 6 ∧ inP a2 w.P) → (fun (v : Int32) (σ' : St) => v = rankV w a1 a2 ∧ SX σ' n w pdJ id (hdI w) ∧ MK σ' w) (-1) σ := fun h => by
    unfold rankV; rw [if_neg h]; exact ⟨rfl, hR.1, hR.2.1⟩
  refine S_X11_rank hn (by omega) ⟨fun h => no (fun z => ze.mp h (wayC.mpr z.1)), fun h => ⟨fun h2 => ?_, fun h2 => no (fun z => ze.mp h2 ((hR.1.per hw).mpr z.2))⟩⟩
  have g1 := wayC.mp h
  have g2 := (hR.1.per hw).mp h2
  obtain ⟨k, hk, rfl⟩ := inP_ex (by decide) g1
  obtain ⟨p, hp, rfl⟩ := inP_ex (by omega) g2
  refine ⟨_, ways_spec hn (by omega) hR.1 hR.2.1 hw hk (fun _ _ => rfl), ?_⟩
  rintro σ1 ⟨s1, k1, w1, -⟩ hf1
  rw [tR_id] at w1
  have hb := wayT_ok hw (tM w) k p
  obtain ⟨b1, b2, b3, b4⟩ := w1.1.2.2 p hp
  obtain ⟨m, β, hRk⟩ := b4.rnk
  rw [nI_clamp (by omega), w1.2.1 p hp, nI_clamp (by omega)]
  refine ⟨vp_in_nI (by omega) (by decide), pdJ p, b1, b2, vp_in_nI (by omega) (by decide), vp_in_nI (by omega) (by decide), _, betterThan_spec (by omega) b2 hRk (VM_w w p) (by omega), ?_⟩
  rintro v σ2 ⟨rfl, c, -, rfl, -, ec⟩ hf2
  refine ⟨?_, s1, k1⟩
  have hwo : (gI σ2 (pdJ p + 2) (wayT w (tM w) k p)).toInt = VM w p (wayT w (tM w) k p) := b4.wor hb
  unfold rankV wayH; rw [if_pos ⟨g1, g2⟩, tn_nI (by omega), tn_nI (by omega), ec, hwo]; rfl
