/-! ===== the model: one after another; all ways ===== -/
theorem bestW_yes {L : Nat → Bool} {V : Nat → Int} {a b : Nat} (h1 : L b = true) (h2 : clr b a = 0) (h3 : ∀ x, bestW L V a b = some x → V x < V b) : bestW L V a (b + 1) = some b := by
  unfold bestW bestU
  refine if_pos ⟨by rw [h1, decide_eq_true h2]; rfl, Nat.le_refl _, fun x hx => ?_⟩
  have := h3 x hx
  omega
theorem bestW_no {L : Nat → Bool} {V : Nat → Int} {a b : Nat} (h : L b = true → clr b a = 0 → ∃ x, bestW L V a b = some x ∧ V b ≤ V x) : bestW L V a (b + 1) = bestW L V a b := by
  unfold bestW
  rw [bestU]
  refine if_neg ?_
  rintro ⟨h1, _, h3⟩
  simp only [Bool.and_eq_true, decide_eq_true_eq] at h1
  obtain ⟨x, hx, hv⟩ := h h1.1 h1.2
  have := h3 x hx
  omega
theorem takesBest_M {d n : Nat} {σ : St} {w : Wd} {t : Tb} {c h : Nat → Nat} {p but : Nat} {a2 : Int32} (hn : FIX ≤ n) (hd : 2 ≤ d) (hM : MW σ w t c h) (hw : WW w) (hh : hOk w h) (hp : p < w.P) (ha : ∀ l, l < 10 → (nI l = a2 ↔ l = but)) : Cn d n M_X12_takesBest md_X12_takesBest [.ref 11, .int (nI p), .int a2] σ (liI (fun v σ' => σ' = σ ∧ v = optI (takO w t h but p))) := by
  have hN := hw.N
  have hP := hw.P
  have hpw := pow10 hN
  refine S_X12_takesBest hn (by omega) ?_
  rw [rowOf_nI]
  generalize hQ : (fun (v : Int32) (σ' : St) => σ' = σ ∧ v = optI (takO w t h but p)) = Q
  have hset : opnS w h but < 2 ^ w.N := setU_lt _
  have find : ∀ b, b ≤ 2 ^ w.N → K_X12_takesBest_61 d n σ Q σ (nI (rw_ σ p)) (nI (opnS w h but)) (optI (bestW (t.1 p) (t.2 p) (opnS w h but) b)) (nI b) := by
    refine up_ind (N := 2 ^ w.N) ?_ ?_
    · refine B_X12_takesBest_61 hn (by omega) ⟨fun _ => ?_, fun z => absurd (by rw [shl_N hM.1.1 hw]; exact nI_le (Nat.le_refl _) (by omega)) z⟩
      rw [← hQ]; exact ⟨rfl, rfl⟩
    · intro b hb ih
      refine B_X12_takesBest_61 hn (by omega) ⟨fun z => absurd z (by rw [shl_N hM.1.1 hw]; exact nI_ge hb (by omega)), fun _ => ?_⟩
      rw [nI_clr, nI_1]
      have hc := clr_le b (opnS w h but)
      have ez : nI (clr b (opnS w h but)) = 0 ↔ clr b (opnS w h but) = 0 := nI_eq (b := 0) (by omega) (by decide)
      obtain ⟨l1, l2⟩ := lawX hM.1 hw hp (show b < 1024 by omega)
      obtain ⟨w1, w2⟩ := worX hM.1 hw hp (show b < 1024 by omega)
      refine ⟨fun hz => ?_, fun hz => ⟨l1, fun hlz => ?_, fun hlz => ?_⟩⟩
      · rw [bestW_no (fun _ z => absurd (ez.mpr z) hz)] at ih; exact ih
      · rw [bestW_no (fun z _ => by rw [l2.mp hlz] at z; cases z)] at ih; exact ih
      · have hlw : t.1 p b = true := by
          cases e : t.1 p b with
          | true => rfl
          | false => exact absurd (l2.mpr e) hlz
        cases ho : bestW (t.1 p) (t.2 p) (opnS w h but) b with
        | none =>
          rw [bestW_yes hlw (ez.mp hz) (fun x hx => by rw [ho] at hx; cases hx)] at ih
          exact ⟨fun _ => ih, fun z => absurd rfl z⟩
        | some k =>
          have hk := (bestU_lt ho).1
          obtain ⟨k1, k2⟩ := worX hM.1 hw hp (show k < 1024 by omega)
          have ek : optI (some k) = nI k := rfl
          rw [ek]
          refine ⟨fun z => absurd z (optI_ne (x := k) (by omega)), fun _ => ⟨w1, k1, fun hle => ?_, fun hle => ?_⟩⟩
          · have := le_ti.mp hle
            rw [w2, k2] at this
            rw [bestW_no (fun _ _ => ⟨k, ho, this⟩), ho] at ih
            exact ih
          · have : ¬ _ ≤ _ := fun e => hle (le_ti.mpr e)
            rw [w2, k2] at this
            rw [bestW_yes hlw (ez.mp hz) (fun x hx => by rw [ho] at hx; cases hx; omega)] at ih
            exact ih
  have set : ∀ l, l ≤ w.N → K_X12_takesBest_12 d n σ Q σ a2 (nI (rw_ σ p)) (nI (setU (fun l => decide (l ≠ but ∧ 0 < spN w h l)) l)) (nI l) := by
    refine up_ind (N := w.N) ?_ ?_
    · refine B_X12_takesBest_12 hn (by omega) ⟨fun _ => ?_, fun z => absurd (by rw [hM.1.1.N]; exact nI_le (Nat.le_refl _) (by omega)) z⟩
      exact find 0 (by omega)
    · intro l hl ih
      have hs := setU_lt (fun l => decide (l ≠ but ∧ 0 < spN w h l)) (l := l)
      have hp2 : 2 ^ l ≤ 2 ^ 10 := Nat.pow_le_pow_right (by decide) (by omega)
      have no : ¬ (l ≠ but ∧ 0 < spN w h l) → K_X12_takesBest_12 d n σ Q σ a2 (nI (rw_ σ p)) (nI (setU (fun l => decide (l ≠ but ∧ 0 < spN w h l)) l) ||| 0) (nI l + 1) := fun hx => by
        unfold setU at ih
        rw [decide_eq_false hx] at ih
        rw [show (0 : Int32) = nI 0 from rfl, nI_or, nI_1]; exact ih
      refine B_X12_takesBest_12 hn (by omega) ⟨fun z => absurd z (by rw [hM.1.1.N]; exact nI_ge hl (by omega)), fun _ => ⟨fun hz => no (fun hx => hx.1 ((ha l (by omega)).mp hz)), fun hz => ⟨_, leftOf_M hn (by omega) hM hw hh hl, ?_⟩⟩⟩
      rintro v σ' ⟨rfl, hv⟩ hf
      have z0 : (0 : Int32).toInt = 0 := by decide
      refine ⟨fun hle => no (fun hx => ?_), fun hle => ?_⟩
      · have := le_ti.mp hle; have := hx.2; omega
      · have h1 : ¬ v.toInt ≤ (0 : Int32).toInt := fun e => hle (le_ti.mpr e)
        unfold setU at ih
        rw [decide_eq_true (show l ≠ but ∧ 0 < spN w h l from ⟨fun e => hz ((ha l (by omega)).mpr e), by omega⟩), if_pos rfl] at ih
        rw [shl1 (by omega), nI_or, nI_1]; exact ih
  exact set 0 (by omega)
theorem serial_M {d n : Nat} {σ : St} {w : Wd} {t : Tb} {c h : Nat → Nat} (hn : FIX ≤ n) (hd : 3 ≤ d) (hM : MW σ w t c h) (hw : WW w) (hh : hOk w h) : Cn d n M_X12_serial md_X12_serial [.ref 11] σ (liV (fun σ' => MW σ' w t c (serN w t w.P h))) := by
  have hP := hw.P
  have hpw := pow10 hw.N
  refine S_X12_serial hn (by omega) ?_
  generalize hQ : (fun (σ' : St) => MW σ' w t c (serN w t w.P h)) = Q
  have loop : ∀ p, p ≤ w.P → ∀ σ1 : St, MW σ1 w t c (serN w t p h) → K_X12_serial_2 d n σ Q σ1 (nI p) := by
    refine up_ind (N := w.P) ?_ ?_
    · intro σ1 m
      refine B_X12_serial_2 hn (by omega) ⟨fun _ => by rw [← hQ]; exact m, fun z => absurd (by rw [m.1.1.P]; exact nI_le (Nat.le_refl _) (by omega)) z⟩
    · intro p hp ih σ1 m
      refine B_X12_serial_2 hn (by omega) ⟨fun z => absurd z (by rw [m.1.1.P]; exact nI_ge hp (by omega)), fun _ => ⟨_, takesBest_M (but := 99) hn (by omega) m hw (serN_ok hh p) hp (fun l hl => ⟨fun e => ?_, fun e => by omega⟩), ?_⟩⟩
      · have := eq_ti.mp e
        rw [nI_toInt (by omega), show (-1 : Int32).toInt = -1 by decide] at this; omega
      · rintro v σ2 ⟨rfl, rfl⟩ hf
        refine ⟨vp_in_nI (by omega) (by decide), ?_⟩
        rw [nI_clamp (by omega), nI_1, mx0_opt (fun x hx => by have := (bestU_lt hx).1; omega)]
        exact ih _ m.up
  exact loop 0 (by omega) σ hM
/-- the tables are up to date, and those of another state -/
def VQ (τ σ : St) : Prop := gI σ 11 37 = gI σ 11 20 ∧ ∀ k, gI σ 61 k = gI τ 61 k ∧ gI σ 62 k = gI τ 62 k
theorem VQ.fr {m : Md} {τ σ σ' : St} (h : VQ τ σ) (hf : Fr m σ σ') (ho : (cellFree m 11 37 && (cellFree m 11 20 && (rowFree m 61 && rowFree m 62))) = true) : VQ τ σ' := by
  simp only [Bool.and_eq_true] at ho
  refine ⟨by rw [hf.cell ho.1, hf.cell ho.2.1]; exact h.1, fun k => ?_⟩
  rw [hf.row ho.2.2.1, hf.row ho.2.2.2]; exact h.2 k
theorem VQ.wr {τ σ : St} (h : VQ τ σ) (q k : Nat) (v : Int32) (hq : q ≠ 11 ∧ q ≠ 61 ∧ q ≠ 62) : VQ τ (sI σ q k v) := by
  refine ⟨by rw [gI_sI_ne (by omega), gI_sI_ne (by omega)]; exact h.1, fun k' => ?_⟩
  rw [gI_sI_ne (by omega), gI_sI_ne (by omega)]; exact h.2 k'
theorem VQ.self {τ σ : St} (h : VQ τ σ) : VQ σ σ := ⟨h.1, fun k => ⟨rfl, rfl⟩⟩
/-- from where the tables stand -/
theorem goes_tail {d n : Nat} {σ σ1 τ : St} {w : Wd} {t : Tb} {k : Nat} {Q : St → Prop} (hn : FIX ≤ n) (hd : 5 ≤ d) (hM : MX σ1 w t.1 t.2 w.pr) (hw : WW w) (hV : vW t.2) (hk : k < 6) (hE : VQ τ σ1) (hQ : ∀ σ' c, MW σ' w t c (wayT w t k) → VQ τ σ' → Q σ') : K_X12_goes_6 d n σ Q σ1 (nI k) 0 := by
  have hP := hw.P
  have hN := hw.N
  have loop : ∀ p, p ≤ 8 → ∀ σ2 : St, VQ τ σ2 → MX σ2 w t.1 t.2 w.pr → (∀ q, q < p → gI σ2 71 q = 0) → K_X12_goes_6 d n σ Q σ2 (nI k) (nI p) := by
    refine up_ind (N := 8) ?_ ?_
    · intro σ2 v1 m1 m2
      have hk2 : (nI k).toInt = k := nI_toInt (by omega)
      have mz : MW σ2 w t w.pr (fun _ => 0) := ⟨m1, fun q hq => m2 q (by omega)⟩
      have wt : ∀ j, j = k → wayT w t k = wayT w t j := fun j e => by rw [e]
      refine B_X12_goes_6 hn (by omega) ⟨fun _ => ⟨fun e => ?_, fun e => ?_, fun e => ?_, fun e => ?_, fun e => ?_, fun e => ?_⟩, fun z => absurd (by decide) z⟩
      · have ek : wayT w t k = buyB w t.1 t.2 w.pr := wt 0 (by omega)
        refine ⟨_, squares_spec hn (by omega) m1 hw hV.ok (pr_ok hw), ?_⟩
        rintro v σ3 ⟨-, g2, -⟩ hf
        have m3 := m1.st hf (by decide)
        have copy : ∀ p, p ≤ w.P → ∀ σ4 : St, VQ τ σ4 → MX σ4 w t.1 t.2 w.pr → (∀ q, q < w.P → gI σ4 64 q = nI (buyB w t.1 t.2 w.pr q)) → (∀ q, q < p → gI σ4 71 q = nI (buyB w t.1 t.2 w.pr q)) → K_X12_goes_67 d n σ Q σ4 (nI p) := by
          refine up_ind (N := w.P) ?_ ?_
          · intro σ4 v4 a1 a2 a3
            refine B_X12_goes_67 hn (by omega) ⟨fun _ => hQ _ w.pr ⟨a1, by rw [ek]; exact a3⟩ v4, fun z => absurd (by rw [a1.1.P]; exact nI_le (Nat.le_refl _) (by omega)) z⟩
          · intro p hp ih σ4 v4 a1 a2 a3
            have hv : vp_in (nI p) 8 := vp_in_nI (by omega) (by decide)
            refine B_X12_goes_67 hn (by omega) ⟨fun z => absurd z (by rw [a1.1.P]; exact nI_ge hp (by omega)), fun _ => ⟨hv, hv, ?_⟩⟩
            rw [nI_clamp (by omega), nI_1, a2 p hp]
            refine ih _ (v4.wr 71 p _ (by decide)) (a1.wr 71 p _ (by omega)) (fun q hq => by rw [gI_sI_ne (by omega)]; exact a2 q hq) (fun q hq => ?_)
            rw [gI_sI]
            by_cases e : q = p
            · rw [if_pos ⟨rfl, e⟩, e]
            · rw [if_neg (fun z => e z.2)]; exact a3 q (by omega)
        exact copy 0 (by omega) σ3 (v1.fr hf (by decide)) m3 g2 (fun q h => absurd h (by omega))
      · have ek : wayT w t k = addsN w t false 81 false (buyB w t.1 t.2 (mndC w t)) := wt 1 (by omega)
        refine ⟨_, mends_M hn (by omega) m1 hw hV.ok, ?_⟩
        rintro σ3 ⟨c, g⟩ hf
        exact hQ _ c (by rw [ek]; exact g) (v1.fr hf (by decide))
      · have ek : wayT w t k = addsN w t true 81 false (fun _ => 0) := wt 2 (by omega)
        refine ⟨_, turns_M hn (by omega) mz hw (zero_ok w), fun σ3 g hf => hQ _ w.pr (by rw [ek]; exact g) (v1.fr hf (by decide))⟩
      · have ek : wayT w t k = bidN w t 80 (fun _ => false) (fun _ => 0) := wt 3 (by omega)
        refine ⟨_, bids_M hn (by omega) mz hw hV (zero_ok w), fun σ3 g hf => hQ _ w.pr (by rw [ek]; exact g) (v1.fr hf (by decide))⟩
      · have ek : wayT w t k = serN w t w.P (fun _ => 0) := wt 4 (by omega)
        refine ⟨_, serial_M hn (by omega) mz hw (zero_ok w), fun σ3 g hf => hQ _ w.pr (by rw [ek]; exact g) (v1.fr hf (by decide))⟩
      · have ek : wayT w t k = w.hd := wt 5 (by omega)
        have copy : ∀ p, p ≤ w.P → ∀ σ4 : St, VQ τ σ4 → MX σ4 w t.1 t.2 w.pr → (∀ q, q < p → gI σ4 71 q = nI (w.hd q)) → K_X12_goes_126 d n σ Q σ4 (nI p) := by
          refine up_ind (N := w.P) ?_ ?_
          · intro σ4 v4 a1 a3
            refine B_X12_goes_126 hn (by omega) ⟨fun _ => hQ _ w.pr ⟨a1, by rw [ek]; exact a3⟩ v4, fun z => absurd (by rw [a1.1.P]; exact nI_le (Nat.le_refl _) (by omega)) z⟩
          · intro p hp ih σ4 v4 a1 a3
            have hv : vp_in (nI p) 8 := vp_in_nI (by omega) (by decide)
            refine B_X12_goes_126 hn (by omega) ⟨fun z => absurd z (by rw [a1.1.P]; exact nI_ge hp (by omega)), fun _ => ⟨hv, hv, ?_⟩⟩
            rw [nI_clamp (by omega), nI_1, (a1.1.per p (by omega)).2.2]
            refine ih _ (v4.wr 71 p _ (by decide)) (a1.wr 71 p _ (by omega)) (fun q hq => ?_)
            rw [gI_sI]
            by_cases e : q = p
            · rw [if_pos ⟨rfl, e⟩, e]
            · rw [if_neg (fun z => e z.2)]; exact a3 q (by omega)
        exact copy 0 (by omega) σ2 v1 m1 (fun q h => absurd h (by omega))
    · intro p hp ih σ2 v1 m1 m2
      refine B_X12_goes_6 hn (by omega) ⟨fun z => absurd z (by rw [show (8 : Int32) = nI 8 from rfl]; exact nI_ge hp (by decide)), fun _ => ⟨vp_in_nI (by omega) (by decide), ?_⟩⟩
      rw [nI_clamp (by omega), nI_1]
      refine ih _ (v1.wr 71 p _ (by decide)) (m1.wr 71 p _ (by omega)) (fun q hq => ?_)
      rw [gI_sI]
      by_cases e : q = p
      · rw [if_pos ⟨rfl, e⟩]
      · rw [if_neg (fun z => e z.2)]; exact m2 q (by omega)
  exact loop 0 (by omega) σ1 hE hM (fun q h => absurd h (by omega))
/-- the model in a way that was run, with true wishes -/
def MH (σ : St) (w : Wd) (h : Nat → Nat) : Prop := (∃ c, MT σ w c) ∧ ∀ p, p < w.P → gI σ 71 p = nI (h p)
theorem MH.g {σ : St} {w : Wd} {h : Nat → Nat} (m : MH σ w h) : MG σ w := by obtain ⟨⟨c, a⟩, _⟩ := m; exact a.g
theorem told_VQ {d n : Nat} {σ : St} {w : Wd} (hn : FIX ≤ n) (hd : 8 ≤ d) (hM : MG σ w) (hw : WW w) : Cn d n M_X12_told md_X12_told [.ref 11] σ (liV (fun σ' => MT σ' w w.pr ∧ VQ σ' σ')) :=
  Cn.wk (told_spec hn hd hM.1 hw hM.2.2) (by
    rintro v σ' ⟨rfl, h0, h1, h3, h2⟩ hf
    exact ⟨rfl, ⟨h0, by rw [hf.cell (by decide)]; exact hM.2.1, h1, h2⟩, h3, fun k => ⟨rfl, rfl⟩⟩)
theorem goes_M {d n : Nat} {σ : St} {w : Wd} {k : Nat} (hn : FIX ≤ n) (hd : 9 ≤ d) (hM : MG σ w) (hw : WW w) (hk : k < 6) : Cn d n M_X12_goes md_X12_goes [.ref 11, .int (nI k)] σ (liV (fun σ' => MH σ' w (wayT w (tM w) k) ∧ VQ σ' σ')) := by
  refine Cn.wk (Q := liV (fun σ' => ∃ c, MW σ' w (tM w) c (wayT w (tM w) k) ∧ VQ σ' σ')) (S_X12_goes hn (by omega) ⟨_, told_VQ hn (by omega) hM hw, fun σ1 ⟨h1, h2⟩ hf => goes_tail (t := tM w) hn (by omega) (h1.x hw) hw (VM_w w) hk h2 (fun σ' c m v => ⟨c, m, v.self⟩)⟩) ?_
  rintro v σ' ⟨e, c, m, vq⟩ hf
  exact ⟨e, ⟨⟨c, MT.of m.1 hw (by rw [hf.cell (by decide)]; exact hM.2.1)⟩, m.2⟩, vq⟩
