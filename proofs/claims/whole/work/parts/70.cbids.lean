/-! ===== the component: bids, one after another, by hand ===== -/
/-- the bids that stand -/
def bidC (w : Wd) (t : Tb) (a : Nat → Bool) (k : Nat) : Int := if a k = false ∧ k / 10 < w.P ∧ k % 10 < w.N then bidW t k else 0
def Bds (σ : St) (w : Wd) (t : Tb) (a : Nat → Bool) : Prop := ∀ k, k < 80 → (gI σ 38 k).toInt = bidC w t a k
theorem fillBids_spec {d n : Nat} {σ : St} {w : Wd} {pd : Nat → Nat} {t : Tb} {h : Nat → Nat} (hn : FIX ≤ n) (hd : 2 ≤ d) (hW : CW σ n w pd t h) (hw : WW w) (hV : vW t.2) : Cn d n M_X10_fillBids md_X10_fillBids [.ref 8] σ (liV (fun σ' => CW σ' n w pd t h ∧ Bds σ' w t (fun _ => false))) := by
  have hN := hw.N
  have hP := hw.P
  have hpw := pow10 hN
  refine S_X10_fillBids hn (by omega) ⟨_, fill_spec (ar_38 hn) (by decide), ?_⟩
  rintro σ1 ⟨p1, p2, p3⟩ hf1
  generalize hQ : (fun (σ' : St) => CW σ' n w pd t h ∧ Bds σ' w t (fun _ => false)) = Q
  have w1 : CW σ1 n w pd t h := ⟨hW.1.mv 38 (by omega) p2 p3, fun p hp => by rw [p2 _ _ (by decide)]; exact hW.2.1 p hp, fun l hl => by rw [p2 _ _ (by decide)]; exact hW.2.2 l hl⟩
  have loop : ∀ p, p ≤ w.P → ∀ σ2 : St, CW σ2 n w pd t h → (∀ k, k < 80 → (gI σ2 38 k).toInt = if k < 10 * p then bidC w t (fun _ => false) k else 0) → K_X10_fillBids_10 d n σ Q σ2 (nI p) := by
    refine up_ind (N := w.P) ?_ ?_
    · intro σ2 m1 m2
      refine B_X10_fillBids_10 hn (by omega) ⟨fun _ => ?_, fun z => absurd (by rw [m1.1.2.1]; exact nI_le (Nat.le_refl _) (by omega)) z⟩
      rw [← hQ]
      refine ⟨m1, fun k hk => ?_⟩
      rw [m2 k hk]
      split
      · rfl
      · unfold bidC; rw [if_neg (fun z => by have := z.2.1; omega)]
    · intro p hp ih σ2 m1 m2
      obtain ⟨b1, b2, b3, b4⟩ := m1.1.2.2 p hp
      refine B_X10_fillBids_10 hn (by omega) ⟨fun z => absurd z (by rw [m1.1.2.1]; exact nI_ge hp (by omega)), fun _ => ⟨vp_in_nI (by omega) (by decide), pd p, by rw [nI_clamp (by omega)]; exact b1, b2, ?_⟩⟩
      have inn : ∀ l, l ≤ w.N → ∀ σ3 : St, CW σ3 n w pd t h → (∀ k, k < 80 → (gI σ3 38 k).toInt = if k < 10 * p + l then bidC w t (fun _ => false) k else 0) → K_X10_fillBids_36 d n σ Q σ3 (nI p) (pd p) (nI l) := by
        refine up_ind (N := w.N) ?_ ?_
        · intro σ3 q1 q2
          refine B_X10_fillBids_36 hn (by omega) b2 ⟨fun _ => ?_, fun z => absurd (by rw [q1.1.1.N]; exact nI_le (Nat.le_refl _) (by omega)) z⟩
          rw [nI_1]
          refine ih σ3 q1 (fun k hk => ?_)
          rw [q2 k hk]
          by_cases e : k < 10 * p + w.N
          · rw [if_pos e, if_pos (by omega)]
          · rw [if_neg e]
            split
            · unfold bidC; rw [if_neg (fun z => by have := z.2.2; omega)]
            · rfl
        · intro l hl ih2 σ3 q1 q2
          have hb3 := (q1.1.2.2 p hp).2.2.2
          have h2l : 2 ^ l < 2 ^ w.N := Nat.pow_lt_pow_right (by decide) hl
          have e10 : nI p * 10 + nI l = nI (10 * p + l) := by
            rw [eq_ti, ti_add, ti_mul] <;> (try rw [ti_mul]) <;> rw [nI_toInt (by omega)] <;> (try rw [nI_toInt (by omega)]) <;> (try rw [nI_toInt (by omega)]) <;> (try rw [show (10 : Int32).toInt = 10 by decide]) <;> omega
          refine B_X10_fillBids_36 hn (by omega) b2 ⟨fun z => absurd z (by rw [q1.1.1.N]; exact nI_ge hl (by omega)), fun _ => ?_⟩
          rw [shl1 (by omega), e10, nI_clamp (by omega), nI_clamp (by omega), nI_1]
          refine ⟨vp_in_nI (by omega) (by decide), vp_in_nI (by omega) (by decide), ih2 _ ⟨q1.1.set (by omega), fun q hq => by rw [gI_sI_ne (by omega)]; exact q1.2.1 q hq, fun l' hl' => by rw [gI_sI_ne (by omega)]; exact q1.2.2 l' hl'⟩ (fun k hk => ?_)⟩
          rw [gI_sI]
          by_cases e : k = 10 * p + l
          · have v1 := hV p (2 ^ l)
            have v2 := hV p 0
            have x1 := hb3.wor h2l
            have x2 := hb3.wor (b := 0) (Nat.two_pow_pos _)
            rw [if_pos ⟨rfl, e⟩, if_pos (by omega)]
            have eb : bidC w t (fun _ => false) k = t.2 p (2 ^ l) - t.2 p 0 := by
              unfold bidC bidW
              rw [if_pos ⟨rfl, by omega, by omega⟩, show k / 10 = p by omega, show k % 10 = l by omega]
            rw [eb]
            rw [ti_sub] <;> rw [x1, x2] <;> omega
          · rw [if_neg (fun z => e z.2), q2 k hk]
            have e3 : k < 10 * p + (l + 1) ↔ k < 10 * p + l := by omega
            simp only [e3]
      exact inn 0 (by omega) σ2 m1 m2
  exact loop 0 (by omega) σ1 w1 (fun k hk => by rw [p1 k hk, if_neg (by omega)]; decide)
theorem bidC_some {w : Wd} {t : Tb} {a : Nat → Bool} {x : Nat} (hx : x < 80) (h0 : 0 < bidC w t a x) (h1 : ∀ k, k < 80 → bidC w t a k ≤ bidC w t a x ∧ (k < x → bidC w t a k < bidC w t a x)) : bidO w t a = some x := by
  have okE : ∀ k, bidOk w t a k = true ↔ a k = false ∧ (k / 10 < w.P ∧ k % 10 < w.N) ∧ 0 < bidW t k := fun k => by
    unfold bidOk; simp only [Bool.and_eq_true, decide_eq_true_eq, Bool.not_eq_true']
  have ex : a x = false ∧ x / 10 < w.P ∧ x % 10 < w.N := by
    unfold bidC at h0
    by_cases e : a x = false ∧ x / 10 < w.P ∧ x % 10 < w.N
    · exact e
    · rw [if_neg e] at h0; omega
  have bx : bidC w t a x = bidW t x := by unfold bidC; rw [if_pos ex]
  refine amx_eq hx ((okE x).mpr ⟨ex.1, ex.2, by rw [← bx]; exact h0⟩) (fun i hi ho => ?_)
  have oi := (okE i).mp ho
  have bi : bidC w t a i = bidW t i := by unfold bidC; rw [if_pos ⟨oi.1, oi.2.1⟩]
  have := h1 i hi
  rw [bi, bx] at this; exact this
theorem bidC_none {w : Wd} {t : Tb} {a : Nat → Bool} {x : Nat} (h0 : ¬ 0 < bidC w t a x) (h1 : ∀ k, k < 80 → bidC w t a k ≤ bidC w t a x) : bidO w t a = none := amx_all (fun i hi => by
  cases e : bidOk w t a i with
  | false => rfl
  | true =>
    unfold bidOk at e; simp only [Bool.and_eq_true, decide_eq_true_eq, Bool.not_eq_true'] at e
    have bi : bidC w t a i = bidW t i := by unfold bidC; rw [if_pos ⟨e.1, e.2.1⟩]
    have := h1 i hi
    have := e.2.2
    omega)
theorem byBids_spec {d n : Nat} {σ : St} {w : Wd} {pd : Nat → Nat} {t : Tb} (hn : FIX ≤ n) (hd : 3 ≤ d) (hW : CW σ n w pd t (fun _ => 0)) (hw : WW w) (hV : vW t.2) : Cn d n M_X10_byBids md_X10_byBids [.ref 8] σ (liV (fun σ' => CW σ' n w pd t (bidN w t 80 (fun _ => false) (fun _ => 0)))) := by
  have hN := hw.N
  have hP := hw.P
  have hpw := pow10 hN
  refine S_X10_byBids hn (by omega) ⟨_, fillBids_spec hn (by omega) hW hw hV, ?_⟩
  rintro σ1 ⟨w1, bd1⟩ hf1
  generalize hR : bidN w t 80 (fun _ => false) (fun _ => 0) = R
  generalize hQ : (fun (σ' : St) => CW σ' n w pd t R) = Q
  have z0 : (0 : Int32).toInt = 0 := by decide
  have main : ∀ i (a : Nat → Bool) (h : Nat → Nat) (σ1 : St), i ≤ 80 → hOk w h → CW σ1 n w pd t h → Bds σ1 w t a → (∀ p l, l < 10 → (h p).testBit l = true → a (10 * p + l) = true) → bidN w t i a h = R → K_X10_byBids_6 d n σ Q σ1 (nI (80 - i)) := by
    intro i
    induction i with
    | zero =>
      intro a h σ1 e0 e1 e2 e3 e5 e4
      refine B_X10_byBids_6 hn (by omega) ⟨fun _ => ?_, fun z => absurd (by decide) z⟩
      rw [← hQ]; show CW σ1 n w pd t R; rw [← e4]; exact e2
    | succ i ih =>
      intro a h σ1 e0 e1 e2 e3 e5 e4
      refine B_X10_byBids_6 hn (by omega) ⟨fun z => ?_, fun _ => ?_⟩
      · have := le_ti.mp z
        rw [nI_toInt (by omega), show (80 : Int32).toInt = 80 by decide] at this; omega
      · have inn : ∀ k, k ≤ 80 → 1 ≤ k → ∀ x, x < k → (∀ j, j < k → bidC w t a j ≤ bidC w t a x ∧ (j < x → bidC w t a j < bidC w t a x)) → K_X10_byBids_16 d n σ Q σ1 (nI (80 - (i + 1))) (nI x) (nI k) := by
          refine up_ind (N := 80) ?_ ?_
          · intro _ x hx hmax
            have hv : vp_in (nI x) 80 := vp_in_nI (by omega) (by decide)
            refine B_X10_byBids_16 hn (by omega) ⟨fun _ => ⟨hv, ?_⟩, fun z => absurd (by decide) z⟩
            rw [nI_clamp (by omega)]
            refine ⟨fun hlt => ⟨hv, ?_⟩, fun hlt => ?_⟩
            · have h0 := lt_ti.mp hlt
              rw [e3 x hx, z0] at h0
              have ho := bidC_some hx h0 hmax
              obtain ⟨k1, k2, k3, k4, k5⟩ := bidO_lt ho
              unfold bidN at e4
              rw [ho] at e4
              replace e4 : bidN w t i (fun q => decide (q = x) || a q) (bidT w t h x) = R := e4
              rw [show (10 : Int32) = nI 10 from rfl, nI_mod (by omega) (by decide), nI_div (by omega) (by decide)]
              have w2 : CW (sI σ1 38 x 0) n w pd t h := ⟨e2.1.set (by omega), fun q hq => by rw [gI_sI_ne (by omega)]; exact e2.2.1 q hq, fun l' hl' => by rw [gI_sI_ne (by omega)]; exact e2.2.2 l' hl'⟩
              have bd2 : Bds (sI σ1 38 x 0) w t (fun q => decide (q = x) || a q) := fun k hk => by
                rw [gI_sI]
                by_cases e : k = x
                · rw [if_pos ⟨rfl, e⟩, z0]
                  unfold bidC; rw [if_neg (fun z => by have : (decide (k = x) || a k) = false := z.1; rw [decide_eq_true e] at this; cases this)]
                · rw [if_neg (fun z => e z.2), e3 k hk]
                  unfold bidC
                  simp only [decide_eq_false e, Bool.false_or]
              have as2 : ∀ p l, l < 10 → (h p).testBit l = true → (fun q => decide (q = x) || a q) (10 * p + l) = true := fun p l hl hb => by
                show (decide (10 * p + l = x) || a (10 * p + l)) = true
                rw [e5 p l hl hb, Bool.or_true]
              have nx : nI (80 - (i + 1)) + 1 = nI (80 - i) := by rw [nI_1]; congr 1; omega
              have hbx : (h (x / 10)).testBit (x % 10) = false := by
                cases e : (h (x / 10)).testBit (x % 10) with
                | false => rfl
                | true =>
                  have := e5 (x / 10) (x % 10) (by omega) e
                  rw [show 10 * (x / 10) + x % 10 = x by omega, k2] at this; cases this
              refine ⟨_, canTake_spec hn (by omega) w2 hw e1 k3 k4, ?_⟩
              rintro v σ3 ⟨rfl, hv3⟩ hf3
              rw [nx]
              refine ⟨fun hv0 => ?_, fun hv0 => ?_⟩
              · have eT : bidT w t h x = h := by
                  unfold bidT; rw [if_neg]
                  rintro ⟨z1, z2⟩
                  rcases hv3 with ⟨z, -⟩ | ⟨-, z⟩
                  · rw [hv0] at z; cases z
                  · exact z ⟨hbx, z1, z2⟩
                rw [eT] at e4
                exact ih _ h _ (by omega) e1 w2 bd2 as2 e4
              · have hct : (h (x / 10)).testBit (x % 10) = false ∧ 0 < spN w h (x % 10) ∧ t.1 (x / 10) (h (x / 10) ||| 2 ^ (x % 10)) = true := by
                  rcases hv3 with ⟨-, z⟩ | ⟨z, -⟩
                  · exact z
                  · exact absurd z hv0
                have eT : bidT w t h x = puh h (x / 10) (h (x / 10) ||| 2 ^ (x % 10)) := by unfold bidT; rw [if_pos hct.2]
                have hok := bidT_ok (t := t) e1 k4
                rw [eT] at e4 hok
                rw [shl1 (by omega)]
                refine ⟨_, take_spec hn (by omega) w2 hw e1 k3 (Nat.pow_lt_pow_right (by decide) k4) (fun l hl => ?_), fun σ4 r1 hf4 => ?_⟩
                · rw [Nat.testBit_two_pow]
                  refine decide_eq_false (fun e => ?_)
                  rw [← e, hct.1] at hl; cases hl
                · refine ih _ _ σ4 (by omega) hok r1 (fun k hk => by rw [hf4.row (by decide)]; exact bd2 k hk) (fun p l hl hb => ?_) e4
                  by_cases ep : p = x / 10
                  · rw [ep, puh_same, tb_or2] at hb
                    by_cases el : l = x % 10
                    · show (decide (10 * p + l = x) || a (10 * p + l)) = true
                      rw [decide_eq_true (show 10 * p + l = x by omega)]; rfl
                    · rw [decide_eq_false el, Bool.or_false] at hb
                      rw [ep]; exact as2 _ l hl hb
                  · rw [puh_ne ep] at hb; exact as2 p l hl hb
            · have h0 : ¬ _ < _ := fun z => hlt (lt_ti.mpr z)
              rw [e3 x hx, z0] at h0
              have ho := bidC_none h0 (fun k hk => (hmax k hk).1)
              unfold bidN at e4
              rw [ho] at e4
              rw [← hQ]; show CW σ1 n w pd t R; rw [← e4]; exact e2
          · intro k hk ih2 hk1 x hx hmax
            refine B_X10_byBids_16 hn (by omega) ⟨fun z => absurd z (by rw [show (80 : Int32) = nI 80 from rfl]; exact nI_ge hk (by decide)), fun _ => ⟨vp_in_nI (by omega) (by decide), vp_in_nI (by omega) (by decide), ?_⟩⟩
            rw [nI_clamp (by omega), nI_clamp (by omega), nI_1]
            refine ⟨fun hle => ih2 (by omega) x (by omega) (fun j hj => ?_), fun hle => ih2 (by omega) k (by omega) (fun j hj => ?_)⟩
            · have := le_ti.mp hle
              rw [e3 k hk, e3 x (by omega)] at this
              by_cases e : j = k
              · rw [e]; exact ⟨this, fun z => absurd z (by omega)⟩
              · exact hmax j (by omega)
            · have : ¬ _ ≤ _ := fun z => hle (le_ti.mpr z)
              rw [e3 k hk, e3 x (by omega)] at this
              by_cases e : j = k
              · rw [e]; exact ⟨Int.le_refl _, fun z => absurd z (by omega)⟩
              · have := (hmax j (by omega)).1
                exact ⟨by omega, fun _ => by omega⟩
        exact inn 1 (by omega) (by omega) 0 (by omega) (fun j hj => by
          have : j = 0 := by omega
          rw [this]; exact ⟨Int.le_refl _, fun z => absurd z (by omega)⟩)
  exact main 80 _ _ σ1 (by omega) (zero_ok w) w1 bd1 (fun p l _ hb => by rw [Nat.zero_testBit] at hb; cases hb) hR
theorem openLessons_spec {d n : Nat} {σ : St} {w : Wd} {pd : Nat → Nat} {t : Tb} {h : Nat → Nat} (hn : FIX ≤ n) (hW : CW σ n w pd t h) (hw : WW w) : Cn d n M_X10_openLessons md_X10_openLessons [.ref 8] σ (liI (fun v σ' => σ' = σ ∧ v = nI (opnS w h 99))) := by
  have hN := hw.N
  refine S_X10_openLessons hn ?_
  generalize hQ : (fun (v : Int32) (σ' : St) => σ' = σ ∧ v = nI (opnS w h 99)) = Q
  have z0 : (0 : Int32).toInt = 0 := by decide
  have loop : ∀ l, l ≤ w.N → K_X10_openLessons_4 d n σ Q σ (nI (setU (fun l => decide (l ≠ 99 ∧ 0 < spN w h l)) l)) (nI l) := by
    refine up_ind (N := w.N) ?_ ?_
    · exact B_X10_openLessons_4 hn ⟨fun _ => by rw [← hQ]; exact ⟨rfl, rfl⟩, fun z => absurd (by rw [hW.1.1.N]; exact nI_le (Nat.le_refl _) (by omega)) z⟩
    · intro l hl ih
      have hs := hW.2.2 l hl
      unfold setU at ih
      refine B_X10_openLessons_4 hn ⟨fun z => absurd z (by rw [hW.1.1.N]; exact nI_ge hl (by omega)), fun _ => ⟨vp_in_nI (by omega) (by decide), ?_⟩⟩
      rw [nI_clamp (by omega), nI_1]
      refine ⟨fun hle => ?_, fun hle => ?_⟩
      · have := le_ti.mp hle
        rw [hs, z0] at this
        rw [decide_eq_false (fun z => by have := z.2; omega), if_neg (by decide), Nat.or_zero] at ih
        exact ih
      · have : ¬ _ ≤ _ := fun z => hle (le_ti.mpr z)
        rw [hs, z0] at this
        rw [decide_eq_true (show l ≠ 99 ∧ 0 < spN w h l by omega), if_pos rfl] at ih
        rw [shl1 (by omega), nI_or]; exact ih
  exact loop 0 (by omega)
theorem serN_zero {w : Wd} {t : Tb} : ∀ {p q : Nat}, p ≤ q → serN w t p (fun _ => 0) q = 0
  | 0, q, _ => rfl
  | p + 1, q, h => by
    unfold serN serT
    rw [puh_ne (by omega)]; exact serN_zero (by omega)
theorem CW.st {m : Md} {σ σ' : St} {n : Nat} {w : Wd} {pd : Nat → Nat} {t : Tb} {h : Nat → Nat} (hW : CW σ n w pd t h) (hf : Fr m σ σ') (ho : (okC m && (rowFree m 34 && rowFree m 35)) = true) : CW σ' n w pd t h := by
  simp only [Bool.and_eq_true] at ho
  exact ⟨hW.1.st hf ho.1, fun p hp => by rw [hf.row ho.2.1]; exact hW.2.1 p hp, fun l hl => by rw [hf.row ho.2.2]; exact hW.2.2 l hl⟩
theorem serial_spec {d n : Nat} {σ : St} {w : Wd} {pd : Nat → Nat} {t : Tb} (hn : FIX ≤ n) (hd : 3 ≤ d) (hW : CW σ n w pd t (fun _ => 0)) (hw : WW w) (hV : vW t.2) : Cn d n M_X10_oneAfterAnother md_X10_oneAfterAnother [.ref 8] σ (liV (fun σ' => CW σ' n w pd t (serN w t w.P (fun _ => 0)))) := by
  have hP := hw.P
  have hpw := pow10 hw.N
  refine S_X10_oneAfterAnother hn (by omega) ?_
  generalize hQ : (fun (σ' : St) => CW σ' n w pd t (serN w t w.P (fun _ => 0))) = Q
  have loop : ∀ p, p ≤ w.P → ∀ σ1 : St, CW σ1 n w pd t (serN w t p (fun _ => 0)) → K_X10_oneAfterAnother_2 d n σ Q σ1 (nI p) := by
    refine up_ind (N := w.P) ?_ ?_
    · intro σ1 m
      exact B_X10_oneAfterAnother_2 hn (by omega) ⟨fun _ => by rw [← hQ]; exact m, fun z => absurd (by rw [m.1.2.1]; exact nI_le (Nat.le_refl _) (by omega)) z⟩
    · intro p hp ih σ1 m
      obtain ⟨b1, b2, b3, b4⟩ := m.1.2.2 p hp
      obtain ⟨k, β, hR⟩ := b4.rnk
      refine B_X10_oneAfterAnother_2 hn (by omega) ⟨fun z => absurd z (by rw [m.1.2.1]; exact nI_ge hp (by omega)), fun _ => ⟨vp_in_nI (by omega) (by decide), pd p, by rw [nI_clamp (by omega)]; exact b1, b2, _, openLessons_spec hn m hw, ?_⟩⟩
      rintro v σ2 ⟨rfl, rfl⟩ hf2
      refine ⟨_, rankWithin_spec b2 hR (hV p) (by omega), ?_⟩
      rintro v σ3 ⟨rfl, hrk⟩ hf3
      obtain ⟨e1, e2⟩ := rkO_bundle hR (hV p) (by omega) hrk
      have hz : serN w t p (fun _ => 0) p = 0 := serN_zero (Nat.le_refl _)
      refine ⟨e1, ?_⟩
      rw [e2, nI_1]
      have hlt : (takO w t (serN w t p (fun _ => 0)) 99 p).getD 0 < 2 ^ w.N := takO_lt
      refine ⟨_, take_spec hn (by omega) m hw (serN_ok (zero_ok w) p) hp hlt (fun l hl => by rw [hz, Nat.zero_testBit] at hl; cases hl), fun σ4 r hf4 => ?_⟩
      rw [hz, Nat.zero_or] at r
      exact ih σ4 r
  exact loop 0 (by omega) σ hW
theorem byHand_spec {d n : Nat} {σ : St} {w : Wd} {pd : Nat → Nat} {t : Tb} (hn : FIX ≤ n) (hd : 3 ≤ d) (hX : CX σ n w pd t.1 t.2) (hw : WW w) (hh : ∀ p, p < w.P → gI σ (pd p) 2 = nI (w.hd p)) : Cn d n M_X10_byHand md_X10_byHand [.ref 8] σ (liV (fun σ' => CW σ' n w pd t w.hd)) := by
  have hP := hw.P
  refine S_X10_byHand hn (by omega) ?_
  generalize hQ : (fun (σ' : St) => CW σ' n w pd t w.hd) = Q
  have loop : ∀ p, p ≤ w.P → ∀ σ1 : St, CX σ1 n w pd t.1 t.2 → (∀ p, p < w.P → gI σ1 (pd p) 2 = nI (w.hd p)) → (∀ q, q < p → gI σ1 34 q = nI (w.hd q)) → K_X10_byHand_2 d n σ Q σ1 (nI p) := by
    refine up_ind (N := w.P) ?_ ?_
    · intro σ1 m1 m2 m3
      refine B_X10_byHand_2 hn (by omega) ⟨fun _ => ⟨_, countSpare_spec hn (by omega) m1 m3 hw hw.hd, fun σ2 r hf => by rw [← hQ]; exact r⟩, fun z => absurd (by rw [m1.2.1]; exact nI_le (Nat.le_refl _) (by omega)) z⟩
    · intro p hp ih σ1 m1 m2 m3
      obtain ⟨b1, b2, b3, b4⟩ := m1.2.2 p hp
      refine B_X10_byHand_2 hn (by omega) ⟨fun z => absurd z (by rw [m1.2.1]; exact nI_ge hp (by omega)), fun _ => ⟨vp_in_nI (by omega) (by decide), pd p, by rw [nI_clamp (by omega)]; exact b1, b2, vp_in_nI (by omega) (by decide), ?_⟩⟩
      rw [nI_clamp (by omega), m2 p hp, nI_1]
      refine ih _ (m1.set (by omega)) (fun q hq => ?_) (fun q hq => ?_)
      · have h83 : 83 ≤ pd q := (m1.2.2 q hq).2.1.1
        rw [gI_sI_ne (by omega)]; exact m2 q hq
      · rw [gI_sI]
        by_cases e : q = p
        · rw [if_pos ⟨rfl, e⟩, e]
        · rw [if_neg (fun z => e z.2)]; exact m3 q (by omega)
  exact loop 0 (by omega) σ hX hh (fun q h => absurd h (by omega))
