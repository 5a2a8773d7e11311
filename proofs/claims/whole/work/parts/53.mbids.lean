/-! ===== the model: bids, one after another; all ways ===== -/
theorem vW.ok {V : Nat → Nat → Int} (h : vW V) : vOk V := fun p b => by have := h p b; omega
theorem amx_skip {ok : Nat → Bool} {W : Nat → Int} {k : Nat} : ∀ {j : Nat}, (∀ i, k ≤ i → i < k + j → ok i = false) → amx ok W (k + j) = amx ok W k
  | 0, _ => rfl
  | j + 1, h => by
    rw [← Nat.add_assoc, amx_no (fun hx => by rw [h (k + j) (by omega) (by omega)] at hx; cases hx)]
    exact amx_skip (fun i h1 h2 => h i h1 (by omega))
theorem bidX {σ : St} {w : Wd} {t : Tb} {c : Nat → Nat} {p l : Nat} (hM : MX σ w t.1 t.2 c) (hw : WW w) (hV : vW t.2) (hp : p < w.P) (hl : l < w.N) : pre_X12_bidOf σ (nI p) (nI l) ∧ (fn_X12_bidOf σ (nI p) (nI l)).toInt = bidW t (10 * p + l) := by
  have hN := hw.N
  have h2 : 2 ^ l < 1024 := by
    have : 2 ^ l ≤ 2 ^ 9 := Nat.pow_le_pow_right (by decide) (by omega)
    omega
  obtain ⟨a1, a2⟩ := worX hM hw hp h2
  obtain ⟨b1, b2⟩ := worX hM hw hp (show 0 < 1024 by decide)
  have v1 := hV p (2 ^ l)
  have v2 := hV p 0
  unfold pre_X12_bidOf fn_X12_bidOf
  rw [rowOf_nI, shl1 (by omega)]
  refine ⟨⟨a1, b1, trivial⟩, ?_⟩
  have e1 : (10 * p + l) / 10 = p := by omega
  have e2 : (10 * p + l) % 10 = l := by omega
  unfold bidW
  rw [e1, e2]
  rw [ti_sub] <;> rw [a2, show (0 : Int32) = nI 0 from rfl, b2] <;> omega
theorem MW.wr {σ : St} {w : Wd} {t : Tb} {c h : Nat → Nat} (hM : MW σ w t c h) (q k : Nat) (v : Int32) (hq : (64 ≤ q ∧ q ≤ 82) ∧ q ≠ 71) : MW (sI σ q k v) w t c h := ⟨hM.1.wr q k v (by omega), fun p hp => by rw [gI_sI_ne (by omega)]; exact hM.2 p hp⟩
theorem MW.up {σ : St} {w : Wd} {t : Tb} {c h : Nat → Nat} {p x : Nat} (hM : MW σ w t c h) : MW (sI σ 71 p (nI x)) w t c (puh h p x) := ⟨hM.1.wr 71 p _ (by omega), fun q hq => by
  rw [gI_sI]
  by_cases e : q = p
  · rw [if_pos ⟨rfl, e⟩, e, puh_same]
  · rw [if_neg (fun z => e z.2), puh_ne e]; exact hM.2 q hq⟩
theorem idx10 {p l : Nat} (hp : p < 8) (hl : l < 10) : 10 * nI p + nI l = nI (10 * p + l) := by
  rw [eq_ti, ti_add, ti_mul] <;> (try rw [ti_mul]) <;> rw [nI_toInt (by omega)] <;> (try rw [nI_toInt (by omega)]) <;> (try rw [nI_toInt (by omega)]) <;> (try rw [show (10 : Int32).toInt = 10 by decide]) <;> omega
theorem bids_M {d n : Nat} {σ : St} {w : Wd} {t : Tb} {c h : Nat → Nat} (hn : FIX ≤ n) (hd : 2 ≤ d) (hM : MW σ w t c h) (hw : WW w) (hV : vW t.2) (hh : hOk w h) : Cn d n M_X12_bids md_X12_bids [.ref 11] σ (liV (fun σ' => MW σ' w t c (bidN w t 80 (fun _ => false) h))) := by
  have hN := hw.N
  have hP := hw.P
  have hpw := pow10 hN
  refine S_X12_bids hn (by omega) ?_
  generalize hR : bidN w t 80 (fun _ => false) h = R
  generalize hQ : (fun (σ' : St) => MW σ' w t c R) = Q
  have nr0 : vp_nar .boolean 0 = 0 := by decide
  have nr1 : vp_nar .boolean 1 = 1 := by decide
  have z0 : (0 : Int32).toInt = 0 := by decide
  have main : ∀ i (a : Nat → Bool) (h1 : Nat → Nat) (σ1 : St), uaU a 80 ≤ i → hOk w h1 → MW σ1 w t c h1 → (∀ k, k < 80 → gI σ1 72 k = bI (a k)) → bidN w t i a h1 = R → K_X12_bids_21 d n σ Q σ1 := by
    intro i
    induction i with
    | zero =>
      intro a h1 σ1 e1 e2 e3 e4 e5
      have hall := uaU_zero (show uaU a 80 = 0 by omega)
      refine B_X12_bids_21 hn (by omega) ?_
      have o : ∀ p, p ≤ w.P → K_X12_bids_25 d n σ Q σ1 (-1) (nI p) := by
        refine up_ind (N := w.P) ?_ ?_
        · refine B_X12_bids_25 hn (by omega) ⟨fun _ => ⟨fun z => absurd rfl z, fun _ => ?_⟩, fun z => absurd (by rw [e3.1.1.P]; exact nI_le (Nat.le_refl _) (by omega)) z⟩
          rw [← hQ]; show MW σ1 w t c R; rw [← e5]; exact e3
        · intro p hp ih
          refine B_X12_bids_25 hn (by omega) ⟨fun z => absurd z (by rw [e3.1.1.P]; exact nI_ge hp (by omega)), fun _ => ?_⟩
          have inn : ∀ l, l ≤ w.N → K_X12_bids_35 d n σ Q σ1 (-1) (nI p) (nI l) := by
            refine up_ind (N := w.N) ?_ ?_
            · refine B_X12_bids_35 hn (by omega) ⟨fun _ => by rw [nI_1]; exact ih, fun z => absurd (by rw [e3.1.1.N]; exact nI_le (Nat.le_refl _) (by omega)) z⟩
            · intro l hl ih2
              refine B_X12_bids_35 hn (by omega) ⟨fun z => absurd z (by rw [e3.1.1.N]; exact nI_ge hl (by omega)), fun _ => ?_⟩
              rw [idx10 (by omega) (by omega), nI_clamp (by omega), e4 _ (by omega), hall _ (by omega), nI_1]
              exact ⟨vp_in_nI (by omega) (by decide), fun _ => ih2, fun z => absurd z (by decide)⟩
          exact inn 0 (by omega)
      exact o 0 (by omega)
    | succ i ih0 =>
      intro a h1 σ1 e1 e2 e3 e4 e5
      refine B_X12_bids_21 hn (by omega) ?_
      have o : ∀ p, p ≤ w.P → K_X12_bids_25 d n σ Q σ1 (optI (amx (bidOk w t a) (bidW t) (10 * p))) (nI p) := by
        refine up_ind (N := w.P) ?_ ?_
        · refine B_X12_bids_25 hn (by omega) ⟨fun _ => ?_, fun z => absurd (by rw [e3.1.1.P]; exact nI_le (Nat.le_refl _) (by omega)) z⟩
          have eo : amx (bidOk w t a) (bidW t) (10 * w.P) = bidO w t a := by
            unfold bidO
            rw [show 80 = 10 * w.P + (80 - 10 * w.P) by omega]
            exact (amx_skip (fun i h1 h2 => by unfold bidOk; rw [decide_eq_false (fun z => absurd z.1 (by omega))]; simp)).symm
          rw [eo]
          unfold bidN at e5
          cases ho : bidO w t a with
          | none =>
            rw [ho] at e5
            refine ⟨fun z => absurd rfl z, fun _ => ?_⟩
            rw [← hQ]; show MW σ1 w t c R; rw [← e5]; exact e3
          | some k =>
            rw [ho] at e5
            replace e5 : bidN w t i (fun q => decide (q = k) || a q) (bidT w t h1 k) = R := e5
            obtain ⟨k1, k2, k3, k4, k5⟩ := bidO_lt ho
            refine ⟨fun _ => ?_, fun z => absurd z (optI_ne (by omega))⟩
            show vp_in (nI k) 80 ∧ _
            have ek : optI (some k) = nI k := rfl
            have hv8 : vp_in (nI (k / 10)) 8 := vp_in_nI (by omega) (by decide)
            rw [ek, show (10 : Int32) = nI 10 from rfl, nI_mod (by omega) (by decide), nI_div (by omega) (by decide), nI_clamp (by omega), nI_clamp (by omega), nr1, shl1 (by omega), gI_sI_ne (σ := σ1) (by omega), e3.2 _ k3, nI_or]
            refine ⟨vp_in_nI (by omega) (by decide), hv8, ?_⟩
            have m1 : MW (sI σ1 72 k 1) w t c h1 := e3.wr 72 k 1 (by omega)
            have as1 : ∀ q, q < 80 → gI (sI σ1 72 k 1) 72 q = bI (decide (q = k) || a q) := fun q hq => by
              rw [gI_sI]
              by_cases e : q = k
              · rw [if_pos ⟨rfl, e⟩, decide_eq_true e]; rfl
              · rw [if_neg (fun z => e z.2), decide_eq_false e, Bool.false_or]; exact e4 q hq
            have ua : uaU (fun q => decide (q = k) || a q) 80 ≤ i := by have := uaU_upd k2 k1; omega
            refine ⟨_, leftOf_M hn (by omega) m1 hw e2 k4, ?_⟩
            rintro v σ5 ⟨rfl, hv⟩ hf
            have hb2 := or2_lt (e2 (k / 10)) k4
            obtain ⟨l1, l2⟩ := lawX m1.1 hw k3 (show h1 (k / 10) ||| 2 ^ (k % 10) < 1024 by omega)
            rw [rowOf_nI]
            refine ⟨fun hle => ?_, fun hle => ⟨l1, fun hlz => ?_, fun hlz => ⟨hv8, ?_⟩⟩⟩
            · have := le_ti.mp hle
              have eT : bidT w t h1 k = h1 := by unfold bidT; rw [if_neg (fun z => by have := z.1; omega)]
              rw [eT] at e5
              exact ih0 _ h1 _ ua e2 m1 as1 e5
            · have eT : bidT w t h1 k = h1 := by unfold bidT; rw [if_neg (fun z => by have := z.2; rw [l2.mp hlz] at this; cases this)]
              rw [eT] at e5
              exact ih0 _ h1 _ ua e2 m1 as1 e5
            · have hsp : 0 < spN w h1 (k % 10) := by
                have : ¬ v.toInt ≤ (0 : Int32).toInt := fun e => hle (le_ti.mpr e)
                omega
              have hlw : t.1 (k / 10) (h1 (k / 10) ||| 2 ^ (k % 10)) = true := by
                cases e : t.1 (k / 10) (h1 (k / 10) ||| 2 ^ (k % 10)) with
                | true => rfl
                | false => exact absurd (l2.mpr e) hlz
              have eT : bidT w t h1 k = puh h1 (k / 10) (h1 (k / 10) ||| 2 ^ (k % 10)) := by unfold bidT; rw [if_pos ⟨hsp, hlw⟩]
              have hok := bidT_ok (t := t) e2 k4
              rw [eT] at e5 hok
              exact ih0 _ _ _ ua hok m1.up (fun q hq => by rw [gI_sI_ne (by omega)]; exact as1 q hq) e5
        · intro p hp ih
          refine B_X12_bids_25 hn (by omega) ⟨fun z => absurd z (by rw [e3.1.1.P]; exact nI_ge hp (by omega)), fun _ => ?_⟩
          have inn : ∀ l, l ≤ w.N → K_X12_bids_35 d n σ Q σ1 (optI (amx (bidOk w t a) (bidW t) (10 * p + l))) (nI p) (nI l) := by
            refine up_ind (N := w.N) ?_ ?_
            · refine B_X12_bids_35 hn (by omega) ⟨fun _ => ?_, fun z => absurd (by rw [e3.1.1.N]; exact nI_le (Nat.le_refl _) (by omega)) z⟩
              have eo : amx (bidOk w t a) (bidW t) (10 * (p + 1)) = amx (bidOk w t a) (bidW t) (10 * p + w.N) := by
                rw [show 10 * (p + 1) = 10 * p + w.N + (10 - w.N) by omega]
                exact amx_skip (fun i h1 h2 => by unfold bidOk; rw [decide_eq_false (fun z => absurd z.2 (by omega))]; simp)
              rw [eo] at ih
              rw [nI_1]; exact ih
            · intro l hl ih2
              have ei : (10 * p + l) / 10 = p := by omega
              have em : (10 * p + l) % 10 = l := by omega
              refine B_X12_bids_35 hn (by omega) ⟨fun z => absurd z (by rw [e3.1.1.N]; exact nI_ge hl (by omega)), fun _ => ?_⟩
              rw [idx10 (by omega) (by omega), nI_clamp (by omega), e4 _ (by omega), nI_1]
              obtain ⟨b1, b2⟩ := bidX e3.1 hw hV hp hl
              refine ⟨vp_in_nI (by omega) (by decide), fun hz => ?_, fun hz => ⟨b1, fun hlt => ?_, fun hlt => ?_⟩⟩
              · have ea : a (10 * p + l) = true := by
                  cases e : a (10 * p + l) with
                  | true => rfl
                  | false => rw [e] at hz; exact absurd rfl hz
                rw [← Nat.add_assoc, amx_no (fun hx => by unfold bidOk at hx; rw [ea] at hx; cases hx)] at ih2
                exact ih2
              · have ea : a (10 * p + l) = false := by
                  cases e : a (10 * p + l) with
                  | false => rfl
                  | true => rw [e] at hz; exact absurd hz (by decide)
                have hpos : 0 < bidW t (10 * p + l) := by have := lt_ti.mp hlt; rw [b2, z0] at this; exact this
                have hok : bidOk w t a (10 * p + l) = true := by
                  unfold bidOk
                  rw [ea, decide_eq_true (show (10 * p + l) / 10 < w.P ∧ (10 * p + l) % 10 < w.N by omega), decide_eq_true hpos]; rfl
                rw [← Nat.add_assoc] at ih2
                cases ho : amx (bidOk w t a) (bidW t) (10 * p + l) with
                | none =>
                  rw [amx_yes hok (fun z hz => by rw [ho] at hz; cases hz)] at ih2
                  exact ⟨fun _ => ih2, fun z => absurd rfl z⟩
                | some k =>
                  have hk := amx_lt ho
                  have hk2 := hk.2
                  unfold bidOk at hk2
                  simp only [Bool.and_eq_true, decide_eq_true_eq, Bool.not_eq_true'] at hk2
                  have ek : optI (some k) = nI k := rfl
                  obtain ⟨c1, c2⟩ := bidX e3.1 hw hV hk2.2.1.1 hk2.2.1.2
                  rw [show 10 * (k / 10) + k % 10 = k by omega] at c2
                  rw [ek, show (10 : Int32) = nI 10 from rfl, nI_mod (by omega) (by decide), nI_div (by omega) (by decide)]
                  refine ⟨fun z => absurd z (optI_ne (x := k) (by omega)), fun _ => ⟨b1, c1, fun hle => ?_, fun hle => ?_⟩⟩
                  · have := le_ti.mp hle
                    rw [b2, c2] at this
                    rw [amx_no (fun _ => ⟨k, ho, by omega⟩), ho] at ih2
                    exact ih2
                  · have : ¬ _ ≤ _ := fun e => hle (le_ti.mpr e)
                    rw [b2, c2] at this
                    rw [amx_yes hok (fun z hz => by rw [ho] at hz; cases hz; omega)] at ih2
                    exact ih2
              · rw [← Nat.add_assoc, amx_no (fun hx => by
                  unfold bidOk at hx
                  simp only [Bool.and_eq_true, decide_eq_true_eq, Bool.not_eq_true'] at hx
                  exact absurd (lt_ti.mpr (by rw [b2, z0]; exact hx.2.2)) hlt)] at ih2
                exact ih2
          exact inn 0 (by omega)
      exact o 0 (by omega)
  have clear : ∀ k, k ≤ 80 → ∀ σ1 : St, MW σ1 w t c h → (∀ q, q < k → gI σ1 72 q = 0) → K_X12_bids_2 d n σ Q σ1 (nI k) := by
    refine up_ind (N := 80) ?_ ?_
    · intro σ1 m1 m2
      refine B_X12_bids_2 hn (by omega) ⟨fun _ => ?_, fun z => absurd (by decide) z⟩
      refine main 80 (fun _ => false) h σ1 ?_ hh m1 (fun k hk => m2 k hk) hR
      decide
    · intro k hk ih σ1 m1 m2
      refine B_X12_bids_2 hn (by omega) ⟨fun z => absurd z (by rw [show (80 : Int32) = nI 80 from rfl]; exact nI_ge hk (by decide)), fun _ => ⟨vp_in_nI (by omega) (by decide), ?_⟩⟩
      rw [nr0, nI_clamp (by omega), nI_1]
      refine ih _ (m1.wr 72 k 0 (by omega)) (fun q hq => ?_)
      rw [gI_sI]
      by_cases e : q = k
      · rw [if_pos ⟨rfl, e⟩]
      · rw [if_neg (fun z => e z.2)]; exact m2 q (by omega)
  exact clear 0 (by omega) σ hM (fun q h => absurd h (by omega))
