/-! ===== the component: by prices, mended ===== -/
/-- where one begins to look: all before is too dear -/
def Sta (σ : St) (w : Wd) (pd : Nat → Nat) (t : Tb) (c : Nat → Nat) (p : Nat) : Prop := ∃ m β f, Rnk σ (pd p) w.N (t.1 p) (t.2 p) m β ∧ gI σ 37 p = nI f ∧ f ≤ m ∧ ∀ r, r < f → w.pu p < costU c (β r) w.N
theorem Sta.fr {σ σ' : St} {w : Wd} {pd : Nat → Nat} {t : Tb} {c : Nat → Nat} {p : Nat} (h : Sta σ w pd t c p) (h1 : gI σ' 37 p = gI σ 37 p) (h2 : ∀ q k, 83 ≤ q → gI σ' q k = gI σ q k) (hp : 83 ≤ pd p) : Sta σ' w pd t c p := by
  obtain ⟨m, β, f, a1, a2, a3, a4⟩ := h
  exact ⟨m, β, f, a1.fr (h2 _ _ hp) (fun k => h2 _ _ (by omega)), by rw [h1]; exact a2, a3, a4⟩
theorem costU_mono {c c' : Nat → Nat} {b : Nat} (h : ∀ l, c l ≤ c' l) : ∀ N, costU c b N ≤ costU c' b N
  | 0 => Nat.le_refl _
  | N + 1 => by
    have := costU_mono (b := b) h N
    have := h N
    unfold costU; split <;> omega
theorem Sta.up {σ : St} {w : Wd} {pd : Nat → Nat} {t : Tb} {c c' : Nat → Nat} {p : Nat} (h : Sta σ w pd t c p) (hc : ∀ l, c l ≤ c' l) : Sta σ w pd t c' p := by
  obtain ⟨m, β, f, a1, a2, a3, a4⟩ := h
  exact ⟨m, β, f, a1, a2, a3, fun r hr => by have := a4 r hr; have := costU_mono (b := β r) hc w.N; omega⟩
theorem buyFor_spec {d n : Nat} {σ : St} {w : Wd} {pd : Nat → Nat} {t : Tb} {c : Nat → Nat} {p : Nat} (hn : FIX ≤ n) (hd : 2 ≤ d) (hX : CX σ n w pd t.1 t.2) (hw : WW w) (hV : vW t.2) (hM : Mrk σ c) (hc : cP c) (hS : Sta σ w pd t c p) (hp : p < w.P) : Cn d n M_X10_buyFor md_X10_buyFor [.ref 8, .int (nI p)] σ (liV (fun σ' => gI σ' 34 p = nI (buyB w t.1 t.2 c p) ∧ (∀ q, q ≠ p → gI σ' 34 q = gI σ 34 q ∧ gI σ' 37 q = gI σ 37 q) ∧ Sta σ' w pd t c p)) := by
  have hP := hw.P
  have hpw := pow10 hw.N
  have hpu := hw.pu p
  obtain ⟨b1, b2, b3, b4⟩ := hX.2.2 p hp
  have h83 : 83 ≤ pd p := b2.1
  obtain ⟨m, β, f, a1, a2, a3, a4⟩ := hS
  have hv : vp_in (nI p) 8 := vp_in_nI (by omega) (by decide)
  refine S_X10_buyFor hn (by omega) ?_
  rw [nI_clamp (by omega), a2]
  refine ⟨hv, pd p, b1, b2, hv, _, pick_spec0 hn (by omega) b2 a1 (hV p) hw.N hM (fun l _ => by have := hc l; omega) b3 (by omega) a3 a4, ?_⟩
  rintro v σ1 ⟨g1, f', g2, g3, g4⟩ hf
  have a1' : Rnk σ1 (pd p) w.N (t.1 p) (t.2 p) m β := a1.fr (hf.per (by decide) h83 _) (fun k => hf.per (by decide) (by simp only [P0]; omega) k)
  obtain ⟨e1, e2⟩ := rkO_bundle a1' (hV p) (by omega) g1
  refine ⟨e1, hv, hv, ?_, fun q hq => ⟨?_, ?_⟩, ?_⟩
  · rw [gI_sI_ne (by omega), gI_sI_same]; exact e2
  · rw [gI_sI_ne (by omega), gI_sI_ne (by omega), hf.row (by decide)]
  · rw [gI_sI_ne (by omega), gI_sI_ne (by omega), hf.row (by decide)]
  · refine ⟨m, β, f', a1'.fr (by rw [gI_sI_ne (by omega), gI_sI_ne (by omega)]) (fun k => by rw [gI_sI_ne (by omega), gI_sI_ne (by omega)]), ?_, g3, g4⟩
    rw [gI_sI_same, gI_sI_ne (by omega)]; exact g2
theorem CX.sta {σ : St} {n : Nat} {w : Wd} {pd : Nat → Nat} {t : Tb} {c : Nat → Nat} {p : Nat} (hX : CX σ n w pd t.1 t.2) (hp : p < w.P) (h : gI σ 37 p = 0) : Sta σ w pd t c p := by
  obtain ⟨b1, b2, b3, b4⟩ := hX.2.2 p hp
  obtain ⟨m, β, hR⟩ := b4.rnk
  exact ⟨m, β, 0, hR, h, Nat.zero_le _, fun r hr => absurd hr (by omega)⟩
/-- bought at a row -/
def CB (σ : St) (n : Nat) (w : Wd) (pd : Nat → Nat) (t : Tb) (c : Nat → Nat) : Prop := CW σ n w pd t (buyB w t.1 t.2 c) ∧ Mrk σ c ∧ ∀ p, p < w.P → Sta σ w pd t c p
theorem Hld.st {m : Md} {σ σ' : St} {w : Wd} {h : Nat → Nat} (hH : Hld σ w h) (hf : Fr m σ σ') (ho : rowFree m 34 = true) : Hld σ' w h := fun p hp => by rw [hf.row ho]; exact hH p hp
theorem byPrices_spec {d n : Nat} {σ : St} {w : Wd} {pd : Nat → Nat} {t : Tb} (hn : FIX ≤ n) (hd : 3 ≤ d) (hQ0 : CQ σ n w pd t) (hw : WW w) (hV : vW t.2) : Cn d n M_X10_byPrices md_X10_byPrices [.ref 8] σ (liV (fun σ' => CB σ' n w pd t w.pr)) := by
  have hP := hw.P
  obtain ⟨c1, c2, c3, c4⟩ := hQ0
  refine S_X10_byPrices hn (by omega) ⟨_, mark_spec hn (ar_24 hn) (by decide) (by decide) c4 c2, fun σ1 mk hf1 => ⟨_, fill_spec (ar_37 hn) (by decide), ?_⟩⟩
  rintro σ2 ⟨p1, p2, p3⟩ hf2
  have x2 : CX σ2 n w pd t.1 t.2 := (c1.st hf1 (by decide)).mv 37 (by omega) p2 p3
  have mk2 : Mrk σ2 w.pr := mk.st hf2 (by decide)
  generalize hQ : (fun (σ' : St) => CB σ' n w pd t w.pr) = Q
  have loop : ∀ p, p ≤ w.P → ∀ σ3 : St, CX σ3 n w pd t.1 t.2 → Mrk σ3 w.pr → (∀ q, q < p → gI σ3 34 q = nI (buyB w t.1 t.2 w.pr q)) → (∀ q, q < w.P → Sta σ3 w pd t w.pr q) → K_X10_byPrices_24 d n σ Q σ3 (nI p) := by
    refine up_ind (N := w.P) ?_ ?_
    · intro σ3 m1 m2 m3 m4
      refine B_X10_byPrices_24 hn (by omega) ⟨fun _ => ⟨_, countSpare_spec hn (by omega) m1 m3 hw (buyB_ok w t _), fun σ4 r hf => ?_⟩, fun z => absurd (by rw [m1.2.1]; exact nI_le (Nat.le_refl _) (by omega)) z⟩
      rw [← hQ]
      exact ⟨r, m2.st hf (by decide), fun q hq => (m4 q hq).fr (by rw [hf.row (by decide)]) (fun q' k h => hf.per (by decide) h k) (m1.2.2 q hq).2.1.1⟩
    · intro p hp ih σ3 m1 m2 m3 m4
      refine B_X10_byPrices_24 hn (by omega) ⟨fun z => absurd z (by rw [m1.2.1]; exact nI_ge hp (by omega)), fun _ => ⟨_, buyFor_spec hn (by omega) m1 hw hV m2 (pr_cP hw) (m4 p hp) hp, ?_⟩⟩
      rintro σ4 ⟨r1, r2, r3⟩ hf
      rw [nI_1]
      refine ih σ4 (m1.st hf (by decide)) (m2.st hf (by decide)) (fun q hq => ?_) (fun q hq => ?_)
      · by_cases e : q = p
        · rw [e]; exact r1
        · rw [(r2 q e).1]; exact m3 q (by omega)
      · by_cases e : q = p
        · rw [e]; exact r3
        · exact (m4 q hq).fr (r2 q e).2 (fun q' k h => hf.per (by decide) h k) (m1.2.2 q hq).2.1.1
  exact loop 0 (by omega) σ2 x2 mk2 (fun q h => absurd h (by omega)) (fun q hq => x2.sta hq (p1 q (by omega)))
theorem fullest_spec {d n : Nat} {σ : St} {w : Wd} {pd : Nat → Nat} {t : Tb} {h : Nat → Nat} (hn : FIX ≤ n) (hW : CW σ n w pd t h) (hw : WW w) : Cn d n M_X10_fullest md_X10_fullest [.ref 8] σ (liI (fun v σ' => σ' = σ ∧ v = optI (fulO w h))) := by
  have hN := hw.N
  obtain ⟨c1, c2, c3⟩ := hW
  refine S_X10_fullest hn ?_
  generalize hQ : (fun (v : Int32) (σ' : St) => σ' = σ ∧ v = optI (fulO w h)) = Q
  have z0 : (0 : Int32).toInt = 0 := by decide
  have find : ∀ l, l ≤ w.N → K_X10_fullest_4 d n σ Q σ (optI (amx (fun l => decide (spN w h l < 0)) (fun l => - spN w h l) l)) (nI l) := by
    refine up_ind (N := w.N) ?_ ?_
    · exact B_X10_fullest_4 hn ⟨fun _ => by rw [← hQ]; exact ⟨rfl, rfl⟩, fun z => absurd (by rw [c1.1.N]; exact nI_le (Nat.le_refl _) (by omega)) z⟩
    · intro l hl ih
      have hs := c3 l hl
      refine B_X10_fullest_4 hn ⟨fun z => absurd z (by rw [c1.1.N]; exact nI_ge hl (by omega)), fun _ => ⟨vp_in_nI (by omega) (by decide), ?_⟩⟩
      rw [nI_clamp (by omega), nI_1]
      refine ⟨fun hle => ?_, fun hle => ?_⟩
      · have := le_ti.mp hle
        rw [hs, z0] at this
        rw [amx_no (fun hx => absurd (of_decide_eq_true hx) (by omega))] at ih
        exact ih
      · have h1 : ¬ _ ≤ _ := fun e => hle (le_ti.mpr e)
        rw [hs, z0] at h1
        have h2 : spN w h l < 0 := by omega
        cases ho : amx (fun l => decide (spN w h l < 0)) (fun l => - spN w h l) l with
        | none =>
          rw [amx_yes (decide_eq_true h2) (fun z hz => by rw [ho] at hz; cases hz)] at ih
          exact ⟨fun _ => ih, fun z => absurd rfl z⟩
        | some k =>
          have hk := amx_lt ho
          have hsk := c3 k (by omega)
          have ek : optI (some k) = nI k := rfl
          refine ⟨fun z => absurd z (optI_ne (by omega)), fun _ => ⟨vp_in_nI (by omega) (by decide), by rw [ek]; exact vp_in_nI (by omega) (by decide), ?_⟩⟩
          rw [ek, nI_clamp (by omega)]
          refine ⟨fun hle2 => ?_, fun hle2 => ?_⟩
          · have := le_ti.mp hle2
            rw [hs, hsk] at this
            rw [amx_no (fun _ => ⟨k, ho, by omega⟩), ho] at ih
            exact ih
          · have : ¬ _ ≤ _ := fun e => hle2 (le_ti.mpr e)
            rw [hs, hsk] at this
            rw [amx_yes (decide_eq_true h2) (fun z hz => by rw [ho] at hz; cases hz; omega)] at ih
            exact ih
  exact find 0 (by omega)
theorem costU_puh {c : Nat → Nat} {b l x : Nat} : ∀ {N : Nat}, costU (puh c l (c l + x)) b N = costU c b N + if l < N ∧ b.testBit l = true then x else 0
  | 0 => by unfold costU; rw [if_neg (fun z => absurd z.1 (by omega))]
  | N + 1 => by
    have ih := costU_puh (c := c) (b := b) (l := l) (x := x) (N := N)
    unfold costU
    rw [ih]
    by_cases e : N = l
    · subst e
      rw [puh_same, if_neg (fun z => absurd z.1 (by omega))]
      by_cases hb : b.testBit N = true
      · rw [if_pos hb, if_pos hb, if_pos ⟨by omega, hb⟩]; omega
      · rw [if_neg hb, if_neg hb, if_neg (fun z => hb z.2)]
    · rw [puh_ne e]
      have e2 : l < N + 1 ↔ l < N := by omega
      simp only [e2]
      split <;> split <;> omega
/-- who hasn't what grew dearer buys as before -/
theorem buyB_keep {w : Wd} {L : Nat → Nat → Bool} {V : Nat → Nat → Int} {c : Nat → Nat} {l x p : Nat} (hb : (buyB w L V c p).testBit l = false) : buyB w L V (puh c l (c l + x)) p = buyB w L V c p := by
  unfold buyB at hb ⊢
  have hcost : ∀ b, costU c b w.N ≤ costU (puh c l (c l + x)) b w.N := fun b => by rw [costU_puh]; omega
  cases ho : buyO w L V c p with
  | none =>
    have : buyO w L V (puh c l (c l + x)) p = none := bestU_no (fun y hy hL hle => bestU_none ho y hy hL (Nat.le_trans (hcost y) hle))
    rw [this]
  | some z =>
    rw [ho] at hb
    have hz := bestU_lt ho
    have ez : costU (puh c l (c l + x)) z w.N = costU c z w.N := by
      rw [costU_puh, if_neg (fun e => by have : z.testBit l = false := hb; rw [this] at e; cases e.2)]; omega
    have : buyO w L V (puh c l (c l + x)) p = some z := bestU_eq hz.1 hz.2.1 (by show costU (puh c l (c l + x)) z w.N ≤ w.pu p; rw [ez]; exact hz.2.2) (fun y hy hL hle hne => by
      have h1 := bestU_some ho y hy hL (Nat.le_trans (hcost y) hle) hne
      have h2 := hcost y
      show V p y < V p z ∨ V p y = V p z ∧ (costU (puh c l (c l + x)) z w.N < costU (puh c l (c l + x)) y w.N ∨ costU (puh c l (c l + x)) z w.N = costU (puh c l (c l + x)) y w.N ∧ z < y)
      rw [ez]
      rcases h1 with h1 | ⟨h1, h3 | ⟨h3, h4⟩⟩
      · exact Or.inl h1
      · exact Or.inr ⟨h1, Or.inl (by omega)⟩
      · exact Or.inr ⟨h1, by omega⟩)
    rw [this]
theorem raise_spec {d n : Nat} {σ : St} {w : Wd} {pd : Nat → Nat} {t : Tb} {c : Nat → Nat} {l : Nat} (hn : FIX ≤ n) (hd : 3 ≤ d) (hB : CB σ n w pd t c) (hw : WW w) (hV : vW t.2) (h36 : ∀ k, k < 10 → gI σ 36 k = nI (c k)) (hsp : gI σ 6 3 = nI w.sp) (hl : fulO w (buyB w t.1 t.2 c) = some l) (hc : cP c) : Cn d n M_X10_raise md_X10_raise [.ref 8, .int (nI l)] σ (liV (fun σ' => CB σ' n w pd t (puh c l (c l + w.sp)) ∧ ∀ k, k < 10 → gI σ' 36 k = nI (puh c l (c l + w.sp) k))) := by
  have hP := hw.P
  have hN := hw.N
  have hsr := hw.sp
  have hpw := pow10 hN
  obtain ⟨l1, l2⟩ := ful_le hw hl
  obtain ⟨⟨c1, c2, c3⟩, c4, c5⟩ := hB
  have hv : vp_in (nI l) 10 := vp_in_nI (by omega) (by decide)
  have hc' := ful_cP hw hl hc
  generalize hcn : puh c l (c l + w.sp) = c' at hc'
  have hmono : ∀ k, c k ≤ c' k := fun k => by
    rw [← hcn]; unfold puh
    split
    · next e => rw [e]; omega
    · omega
  refine S_X10_raise hn (by omega) ⟨hv, hv, ?_⟩
  rw [nI_clamp (by omega), h36 l (by omega), hsp]
  have ea : nI (c l) + nI w.sp = nI (c l + w.sp) := by
    rw [eq_ti, ti_add] <;> rw [nI_toInt (by omega), nI_toInt (by omega)] <;> (try rw [nI_toInt (by omega)]) <;> omega
  rw [ea]
  have r36 : ∀ k, k < 10 → gI (sI σ 36 l (nI (c l + w.sp))) 36 k = nI (c' k) := fun k hk => by
    rw [gI_sI, ← hcn]
    by_cases e : k = l
    · rw [if_pos ⟨rfl, e⟩, e, puh_same]
    · rw [if_neg (fun z => e z.2), puh_ne e]; exact h36 k hk
  refine ⟨_, mark_spec hn (ar_36 hn) (by decide) (by decide) r36 (by rw [gI_sI_ne (by omega), gI_sI_ne (by omega)]; exact c4.z), fun σ1 mk hf1 => ?_⟩
  have x1 : CX σ1 n w pd t.1 t.2 := (c1.set (by omega)).st hf1 (by decide)
  have q1 : ∀ k, k < 10 → gI σ1 36 k = nI (c' k) := fun k hk => by rw [hf1.row (by decide)]; exact r36 k hk
  have H1 : Hld σ1 w (buyB w t.1 t.2 c) := fun p hp => by rw [hf1.row (by decide), gI_sI_ne (by omega)]; exact c2 p hp
  have S1 : ∀ p, p < w.P → Sta σ1 w pd t c' p := fun p hp => ((c5 p hp).up hmono).fr (by rw [hf1.row (by decide), gI_sI_ne (by omega)]) (fun q k hq => by rw [hf1.per (by decide) hq, gI_sI_ne (by omega)]) (c1.2.2 p hp).2.1.1
  generalize hQ : (fun (σ' : St) => CB σ' n w pd t c' ∧ ∀ k, k < 10 → gI σ' 36 k = nI (c' k)) = Q
  have loop : ∀ p, p ≤ w.P → ∀ σ3 : St, CX σ3 n w pd t.1 t.2 → Mrk σ3 c' → (∀ k, k < 10 → gI σ3 36 k = nI (c' k)) → (∀ q, q < w.P → gI σ3 34 q = nI (if q < p then buyB w t.1 t.2 c' q else buyB w t.1 t.2 c q)) → (∀ q, q < w.P → Sta σ3 w pd t c' q) → K_X10_raise_29 d n σ Q σ3 (nI l) (nI p) := by
    refine up_ind (N := w.P) ?_ ?_
    · intro σ3 m1 m2 m3 m4 m5
      refine B_X10_raise_29 hn (by omega) ⟨fun _ => ⟨_, countSpare_spec (h := buyB w t.1 t.2 c') hn (by omega) m1 (fun q hq => by rw [m4 q hq, if_pos hq]) hw (buyB_ok w t _), fun σ4 r hf => ?_⟩, fun z => absurd (by rw [m1.2.1]; exact nI_le (Nat.le_refl _) (by omega)) z⟩
      rw [← hQ]
      exact ⟨⟨r, m2.st hf (by decide), fun q hq => (m5 q hq).fr (by rw [hf.row (by decide)]) (fun q' k h => hf.per (by decide) h k) (m1.2.2 q hq).2.1.1⟩, fun k hk => by rw [hf.row (by decide)]; exact m3 k hk⟩
    · intro p hp ih σ3 m1 m2 m3 m4 m5
      have hbp := buyB_ok w t c p
      refine B_X10_raise_29 hn (by omega) ⟨fun z => absurd z (by rw [m1.2.1]; exact nI_ge hp (by omega)), fun _ => ⟨vp_in_nI (by omega) (by decide), ?_⟩⟩
      rw [nI_clamp (by omega), m4 p hp, if_neg (by omega), cont_zf (by omega) (by omega), nI_1]
      refine ⟨fun e => ih σ3 m1 m2 m3 (fun q hq => ?_) m5, fun e => ⟨_, buyFor_spec hn (by omega) m1 hw hV m2 hc' (m5 p hp) hp, ?_⟩⟩
      · rw [m4 q hq]
        by_cases e2 : q = p
        · rw [e2, if_neg (by omega), if_pos (by omega), ← hcn, buyB_keep e]
        · have e3 : q < p + 1 ↔ q < p := by omega
          simp only [e3]
      · rintro σ4 ⟨r1, r2, r3⟩ hf
        refine ih σ4 (m1.st hf (by decide)) (m2.st hf (by decide)) (fun k hk => by rw [hf.row (by decide)]; exact m3 k hk) (fun q hq => ?_) (fun q hq => ?_)
        · by_cases e2 : q = p
          · rw [e2, if_pos (by omega)]; exact r1
          · rw [(r2 q e2).1, m4 q hq]
            have e3 : q < p + 1 ↔ q < p := by omega
            simp only [e3]
        · by_cases e2 : q = p
          · rw [e2]; exact r3
          · exact (m5 q hq).fr (r2 q e2).2 (fun q' k h => hf.per (by decide) h k) (m1.2.2 q hq).2.1.1
  exact loop 0 (by omega) σ1 x1 mk q1 (fun q hq => by rw [if_neg (by omega)]; exact H1 q hq) S1
theorem mended_spec {d n : Nat} {σ : St} {w : Wd} {pd : Nat → Nat} {t : Tb} (hn : FIX ≤ n) (hd : 4 ≤ d) (hQ0 : CQ σ n w pd t) (hw : WW w) (hV : vW t.2) : Cn d n M_X10_mended md_X10_mended [.ref 8] σ (liV (fun σ' => CW σ' n w pd t (addsN w t false 81 false (buyB w t.1 t.2 (mndC w t))) ∧ (gI σ' 26 0 = 0 ∧ gI σ' 27 0 = 0))) := by
  obtain ⟨c1, c2, c3, c4⟩ := hQ0
  refine S_X10_mended hn (by omega) ⟨_, byPrices_spec hn (by omega) ⟨c1, c2, c3, c4⟩ hw hV, fun σ1 hB hf1 => ?_⟩
  generalize hτ : sA σ1 36 (va_cpy (gI σ1 24) (gI σ1 36) 0 0 10) = τ
  have f : ∀ q k, q ≠ 36 → gI τ q k = gI σ1 q k := fun q k hq => by subst hτ; rw [gI_sA_ne hq]
  have fR : gR τ = gR σ1 := by subst hτ; rfl
  have r36 : ∀ k, k < 10 → gI τ 36 k = nI (w.pr k) := fun k hk => by
    subst hτ
    rw [gI_sA_same]; unfold va_cpy; rw [if_pos (by omega), show 0 + (k - 0) = k by omega, hf1.row (by decide)]; exact c4 k hk
  have hBτ : CB τ n w pd t w.pr := by
    obtain ⟨⟨b1, b2, b3⟩, b4, b5⟩ := hB
    refine ⟨⟨b1.mv 36 (by omega) f fR, fun p hp => by rw [f _ _ (by decide)]; exact b2 p hp, fun l hl => by rw [f _ _ (by decide)]; exact b3 l hl⟩, fun b hb => ?_, fun p hp => (b5 p hp).fr (f _ _ (by decide)) (fun q k hq => f _ _ (by omega)) (b1.2.2 p hp).2.1.1⟩
    rw [f _ _ (by decide), f _ _ (by decide)]; exact b4 b hb
  have sτ : gI τ 6 3 = nI w.sp := by rw [f _ _ (by decide), hf1.cell (by decide)]; exact c3
  generalize hR : addsN w t false 81 false (buyB w t.1 t.2 (mndC w t)) = R
  generalize hQ : (fun (σ' : St) => CW σ' n w pd t R ∧ (gI σ' 26 0 = 0 ∧ gI σ' 27 0 = 0)) = Q
  have adds : ∀ i (h1 : Nat → Nat) (σ1 : St), i ≤ 81 → hOk w h1 → CW σ1 n w pd t h1 → (gI σ1 26 0 = 0 ∧ gI σ1 27 0 = 0) → addsN w t false i false h1 = R → K_X10_mended_57 d n σ Q σ1 (nI (81 - i)) := by
    intro i
    induction i with
    | zero =>
      intro h1 σ1 e1 e2 e3 e5 e4
      refine B_X10_mended_57 hn (by omega) ⟨fun _ => ?_, fun z => absurd (by decide) z⟩
      rw [← hQ]; refine ⟨?_, e5⟩; rw [← e4]; exact e3
    | succ i ih =>
      intro h1 σ1 e1 e2 e3 e5 e4
      refine B_X10_mended_57 hn (by omega) ⟨fun z => ?_, fun _ => ⟨_, round_spec (b := false) hn (by omega) e3 hw e2, ?_⟩⟩
      · have := lt_ti.mp z
        rw [nI_toInt (by omega), show (80 : Int32).toInt = 80 by decide] at this; omega
      · rintro v σ2 ⟨f1, f2⟩ hf
        have e5' : gI σ2 26 0 = 0 ∧ gI σ2 27 0 = 0 := by rw [hf.row (by decide), hf.row (by decide)]; exact e5
        unfold addsN at e4
        cases er : (rnd w t false h1).2 with
        | false =>
          rw [er] at e4 f2
          refine ⟨fun z => absurd f2 z, fun _ => ?_⟩
          rw [← hQ]; refine ⟨?_, e5'⟩; rw [← e4]; exact f1
        | true =>
          rw [if_pos er] at e4
          rw [er] at f2
          have := ih (rnd w t false h1).1 σ2 (by omega) (rndT_ok e2 _) f1 e5' e4
          rw [show 81 - i = 81 - (i + 1) + 1 by omega] at this
          refine ⟨fun _ => ?_, fun z => by rw [f2] at z; exact absurd z (by decide)⟩
          rw [nI_1]; exact this
  have fin : ∀ (c : Nat → Nat) (σ1 : St), CB σ1 n w pd t c → c = mndC w t → K_X10_mended_57 d n σ Q σ1 0 := fun c σ1 hB e => by
    subst e
    exact adds 81 _ σ1 (by omega) (buyB_ok w t _) hB.1 hB.2.1.z hR
  have grow : ∀ i (c : Nat → Nat) (σ1 : St), i ≤ 2010 → CB σ1 n w pd t c → cP c → (∀ k, k < 10 → gI σ1 36 k = nI (c k)) → gI σ1 6 3 = nI w.sp → mendC w t i c = mndC w t → K_X10_mended_24 d n σ Q σ1 (nI (2010 - i)) := by
    intro i
    induction i with
    | zero =>
      intro c σ1 e0 e1 e2 e3 e5 e4
      exact B_X10_mended_24 hn (by omega) ⟨fun _ => fin c σ1 e1 e4, fun z => absurd (by decide) z⟩
    | succ i ih =>
      intro c σ1 e0 e1 e2 e3 e5 e4
      refine B_X10_mended_24 hn (by omega) ⟨fun z => ?_, fun _ => ⟨_, fullest_spec hn e1.1 hw, ?_⟩⟩
      · have := le_ti.mp z
        rw [nI_toInt (by omega), show (2010 : Int32).toInt = 2010 by decide] at this; omega
      · rintro v σ2 ⟨rfl, rfl⟩ hf
        unfold mendC at e4
        cases ho : fulO w (buyB w t.1 t.2 c) with
        | none =>
          rw [ho] at e4
          exact ⟨fun z => absurd rfl z, fun _ => fin c _ e1 e4⟩
        | some l =>
          rw [ho] at e4
          replace e4 : mendC w t i (puh c l (c l + w.sp)) = mndC w t := e4
          have hl := ful_le hw ho
          have hN := hw.N
          refine ⟨fun _ => ⟨_, raise_spec hn (by omega) e1 hw hV e3 e5 ho e2, ?_⟩, fun z => absurd z (optI_ne (by omega))⟩
          rintro σ3 ⟨r1, r2⟩ hf3
          have := ih _ σ3 (by omega) r1 (ful_cP hw ho e2) r2 (by rw [hf3.cell (by decide)]; exact e5) e4
          rw [show 2010 - i = 2010 - (i + 1) + 1 by omega] at this
          rw [nI_1]; exact this
  exact grow 2010 w.pr τ (by omega) hBτ (pr_cP hw) r36 sτ rfl
