/-! ===== the component: what each has; adding ===== -/
theorem fill_spec {d n q N : Nat} {σ : St} {a : Int32} (ha : Ar n q 20 N) (hN : N ≤ 1024) : Cn d n M_J7_fill_53178 (md_J7_fill_53178 q) [.ref q, .int a] σ (liV (fun σ' => (∀ k, k < N → gI σ' q k = a) ∧ (∀ q' k, q' ≠ q → gI σ' q' k = gI σ q' k) ∧ gR σ' = gR σ)) := by
  refine S_J7_fill_53178 ha ?_
  generalize hQ : (fun (σ' : St) => (∀ k, k < N → gI σ' q k = a) ∧ (∀ q' k, q' ≠ q → gI σ' q' k = gI σ q' k) ∧ gR σ' = gR σ) = Q
  have loop : ∀ k, k ≤ N → ∀ σ1 : St, (∀ i, i < k → gI σ1 q i = a) → (∀ q' k, q' ≠ q → gI σ1 q' k = gI σ q' k) → gR σ1 = gR σ → K_J7_fill_53178_5 d n σ Q q σ1 N a (nI k) (Int32.ofNat N) := by
    refine up_ind (N := N) ?_ ?_
    · intro σ1 h1 h2 h3
      exact B_J7_fill_53178_5 ha ⟨fun _ => by rw [← hQ]; exact ⟨h1, h2, h3⟩, fun z => absurd (nI_le (Nat.le_refl _) (by omega)) z⟩
    · intro k hk ih σ1 h1 h2 h3
      refine B_J7_fill_53178_5 ha ⟨fun z => absurd z (nI_ge hk (by omega)), fun _ => ⟨vp_in_nI hk (by omega), ?_⟩⟩
      rw [nI_clamp (by omega), nI_1]
      refine ih _ (fun i hi => ?_) (fun q' k' hq => by rw [gI_sI_ne (by omega)]; exact h2 q' k' hq) h3
      rw [gI_sI]
      by_cases e : i = k
      · rw [if_pos ⟨rfl, e⟩]
      · rw [if_neg (fun z => e z.2)]; exact h1 i (by omega)
  exact loop 0 (by omega) σ (fun i h => absurd h (by omega)) (fun _ _ _ => rfl) rfl
/-- the component in a way: what each has, what is left -/
def Hld (σ : St) (w : Wd) (h : Nat → Nat) : Prop := ∀ p, p < w.P → gI σ 34 p = nI (h p)
def Spr (σ : St) (w : Wd) (h : Nat → Nat) : Prop := ∀ l, l < w.N → (gI σ 35 l).toInt = spN w h l
def CW (σ : St) (n : Nat) (w : Wd) (pd : Nat → Nat) (t : Tb) (h : Nat → Nat) : Prop := CX σ n w pd t.1 t.2 ∧ Hld σ w h ∧ Spr σ w h
theorem cont_zf {b l : Nat} (hb : b < 2 ^ 31) (h : l < 32) : fn_X11_contains (nI b) (nI l) = 0 ↔ b.testBit l = false := by
  rw [cont_nI hb h]
  cases b.testBit l <;> simp
theorem countSpare_spec {d n : Nat} {σ : St} {w : Wd} {pd : Nat → Nat} {t : Tb} {h : Nat → Nat} (hn : FIX ≤ n) (hd : 1 ≤ d) (hX : CX σ n w pd t.1 t.2) (hH : Hld σ w h) (hw : WW w) (hh : hOk w h) : Cn d n M_X10_countSpare md_X10_countSpare [.ref 8] σ (liV (fun σ' => CW σ' n w pd t h)) := by
  have hN := hw.N
  have hP := hw.P
  have hpw := pow10 hN
  refine S_X10_countSpare hn hd ?_
  generalize hQ : (fun (σ' : St) => CW σ' n w pd t h) = Q
  have outer : ∀ l, l ≤ w.N → ∀ σ1 : St, CX σ1 n w pd t.1 t.2 → Hld σ1 w h → (∀ l', l' < l → (gI σ1 35 l').toInt = spN w h l') → K_X10_countSpare_2 d n σ Q σ1 (nI l) := by
    refine up_ind (N := w.N) ?_ ?_
    · intro σ1 m1 m2 m3
      exact B_X10_countSpare_2 hn hd ⟨fun _ => by rw [← hQ]; exact ⟨m1, m2, m3⟩, fun z => absurd (by rw [m1.1.N]; exact nI_le (Nat.le_refl _) (by omega)) z⟩
    · intro l hl ih σ1 m1 m2 m3
      have hv : vp_in (nI l) 10 := vp_in_nI (by omega) (by decide)
      have hpl := hw.pl l
      refine B_X10_countSpare_2 hn hd ⟨fun z => absurd z (by rw [m1.1.N]; exact nI_ge hl (by omega)), fun _ => ⟨hv, hv, ?_⟩⟩
      rw [nI_clamp (by omega), (m1.1.les l (by omega)).1]
      have inn : ∀ p, p ≤ w.P → ∀ σ2 : St, CX σ2 n w pd t.1 t.2 → Hld σ2 w h → (∀ l', l' < l → (gI σ2 35 l').toInt = spN w h l') → (gI σ2 35 l).toInt = (w.pl l : Int) - cntU h l p → K_X10_countSpare_30 d n σ Q σ2 (nI l) (nI p) := by
        refine up_ind (N := w.P) ?_ ?_
        · intro σ2 q1 q2 q3 q4
          refine B_X10_countSpare_30 hn hd ⟨fun _ => ?_, fun z => absurd (by rw [q1.2.1]; exact nI_le (Nat.le_refl _) (by omega)) z⟩
          rw [nI_1]
          refine ih σ2 q1 q2 (fun l' hl' => ?_)
          by_cases e : l' = l
          · rw [e]; exact q4
          · exact q3 l' (by omega)
        · intro p hp ih2 σ2 q1 q2 q3 q4
          have hb := hh p
          have hc := cntU_le h l p
          refine B_X10_countSpare_30 hn hd ⟨fun z => absurd z (by rw [q1.2.1]; exact nI_ge hp (by omega)), fun _ => ⟨vp_in_nI (by omega) (by decide), ?_⟩⟩
          rw [nI_clamp (by omega), q2 p hp, cont_zf (by omega) (by omega), nI_1, nI_clamp (by omega)]
          refine ⟨fun e => ih2 σ2 q1 q2 q3 ?_, fun e => ⟨hv, hv, ih2 _ (q1.set (by omega)) (fun q hq => by rw [gI_sI_ne (by omega)]; exact q2 q hq) (fun l' hl' => by rw [gI_sI_ne (by omega)]; exact q3 l' hl') ?_⟩⟩
          · unfold cntU; rw [if_neg (by rw [e]; decide)]; rw [q4]; omega
          · rw [gI_sI_same]
            unfold cntU; rw [if_pos (by simpa using e)]
            rw [ti_sub] <;> rw [q4, show (1 : Int32).toInt = 1 by decide] <;> omega
      refine inn 0 (by omega) _ (m1.set (by omega)) (fun q hq => by rw [gI_sI_ne (by omega)]; exact m2 q hq) (fun l' hl' => by rw [gI_sI_ne (by omega)]; exact m3 l' hl') ?_
      rw [gI_sI_same, nI_toInt (by omega)]; unfold cntU; omega
  exact outer 0 (by omega) σ hX hH (fun l' h => absurd h (by omega))
theorem TbC.wor {σ : St} {p N b : Nat} {L : Nat → Bool} {V : Nat → Int} (h : TbC σ p N L V) (hb : b < 2 ^ N) : (gI σ (p + 2) b).toInt = V b := (h.1 b hb).1
theorem TbC.law {σ : St} {p N b : Nat} {L : Nat → Bool} {V : Nat → Int} (h : TbC σ p N L V) (hb : b < 2 ^ N) : gI σ (p + 3) b = 0 ↔ L b = false := by
  rw [(h.1 b hb).2]; cases L b <;> simp
theorem canTake_spec {d n : Nat} {σ : St} {w : Wd} {pd : Nat → Nat} {t : Tb} {h : Nat → Nat} {p l : Nat} (hn : FIX ≤ n) (hd : 1 ≤ d) (hW : CW σ n w pd t h) (hw : WW w) (hh : hOk w h) (hp : p < w.P) (hl : l < w.N) : Cn d n M_X10_canTake md_X10_canTake [.ref 8, .int (nI p), .int (nI l)] σ (liI (fun v σ' => σ' = σ ∧ (v = 1 ∧ ((h p).testBit l = false ∧ 0 < spN w h l ∧ t.1 p (h p ||| 2 ^ l) = true) ∨ v = 0 ∧ ¬ ((h p).testBit l = false ∧ 0 < spN w h l ∧ t.1 p (h p ||| 2 ^ l) = true)))) := by
  have hN := hw.N
  have hP := hw.P
  have hpw := pow10 hN
  have hb := hh p
  have h2 := or2_lt hb hl
  obtain ⟨c1, c2, c3⟩ := hW
  obtain ⟨b1, b2, b3, b4⟩ := c1.2.2 p hp
  have hv : vp_in (nI p) 8 := vp_in_nI (by omega) (by decide)
  have hs := c3 l hl
  have z0 : (0 : Int32).toInt = 0 := by decide
  have no : ¬ ((h p).testBit l = false ∧ 0 < spN w h l ∧ t.1 p (h p ||| 2 ^ l) = true) → (fun (v : Int32) (σ' : St) => σ' = σ ∧ (v = 1 ∧ ((h p).testBit l = false ∧ 0 < spN w h l ∧ t.1 p (h p ||| 2 ^ l) = true) ∨ v = 0 ∧ ¬ ((h p).testBit l = false ∧ 0 < spN w h l ∧ t.1 p (h p ||| 2 ^ l) = true))) 0 σ := fun z => ⟨rfl, Or.inr ⟨rfl, z⟩⟩
  refine S_X10_canTake hn hd ⟨vp_in_nI (by omega) (by decide), ?_⟩
  rw [nI_clamp (by omega), nI_clamp (by omega), c2 p hp, cont_zf (by omega) (by omega), shl1 (by omega), nI_or, nI_clamp (by omega)]
  refine ⟨fun hle => ⟨fun _ => no (fun z => ?_), fun z => absurd rfl z⟩, fun hle => ⟨hv, fun hz => ⟨fun _ => no (fun z => ?_), fun z => absurd rfl z⟩, fun hz => ⟨fun z => absurd z (by decide), fun _ => ⟨hv, pd p, b1, b2, hv, vp_in_nI (by omega) (by decide), ?_⟩⟩⟩⟩
  · have := le_ti.mp hle
    have := z.2.1
    omega
  · rw [Ne, cont_zf (by omega) (by omega)] at hz
    exact hz z.1
  · rw [b4.law h2]
    refine ⟨fun e => no (fun z => by rw [e] at z; cases z.2.2), fun e => ⟨rfl, Or.inl ⟨rfl, hz, ?_, by simpa using e⟩⟩⟩
    have : ¬ _ ≤ _ := fun z => hle (le_ti.mpr z)
    omega
theorem CW.set34 {σ : St} {n : Nat} {w : Wd} {pd : Nat → Nat} {t : Tb} {h : Nat → Nat} {p x : Nat} (hX : CX σ n w pd t.1 t.2) (hH : Hld σ w h) : CX (sI σ 34 p (nI x)) n w pd t.1 t.2 ∧ Hld (sI σ 34 p (nI x)) w (puh h p x) := ⟨hX.set (by omega), fun q hq => by
  rw [gI_sI]
  by_cases e : q = p
  · rw [if_pos ⟨rfl, e⟩, e, puh_same]
  · rw [if_neg (fun z => e z.2), puh_ne e]; exact hH q hq⟩
theorem take_spec {d n : Nat} {σ : St} {w : Wd} {pd : Nat → Nat} {t : Tb} {h : Nat → Nat} {p b : Nat} (hn : FIX ≤ n) (hd : 1 ≤ d) (hW : CW σ n w pd t h) (hw : WW w) (hh : hOk w h) (hp : p < w.P) (hb : b < 2 ^ w.N) (hdis : ∀ l, (h p).testBit l = true → b.testBit l = false) : Cn d n M_X10_take md_X10_take [.ref 8, .int (nI p), .int (nI b)] σ (liV (fun σ' => CW σ' n w pd t (puh h p (h p ||| b)))) := by
  have hN := hw.N
  have hP := hw.P
  have hpw := pow10 hN
  have hpb := hh p
  obtain ⟨c1, c2, c3⟩ := hW
  have hv : vp_in (nI p) 8 := vp_in_nI (by omega) (by decide)
  refine S_X10_take hn hd ⟨hv, hv, ?_⟩
  rw [nI_clamp (by omega), c2 p hp, nI_or]
  obtain ⟨d1, d2⟩ := CW.set34 (t := t) (p := p) (x := h p ||| b) c1 c2
  generalize hQ : (fun (σ' : St) => CW σ' n w pd t (puh h p (h p ||| b))) = Q
  have bts : ∀ l, spN w (puh h p (h p ||| b)) l = spN w h l - bt b l := fun l => by
    rw [spN_upd hp]
    unfold bt
    rw [Nat.testBit_or]
    cases e : (h p).testBit l with
    | true => rw [hdis l e]; simp
    | false => cases b.testBit l <;> simp
  have loop : ∀ l, l ≤ w.N → ∀ σ1 : St, CX σ1 n w pd t.1 t.2 → Hld σ1 w (puh h p (h p ||| b)) → (∀ l', l' < w.N → (gI σ1 35 l').toInt = if l' < l then spN w (puh h p (h p ||| b)) l' else spN w h l') → K_X10_take_12 d n σ Q σ1 (nI b) (nI l) := by
    refine up_ind (N := w.N) ?_ ?_
    · intro σ1 m1 m2 m3
      refine B_X10_take_12 hn hd ⟨fun _ => by rw [← hQ]; exact ⟨m1, m2, fun l hl => by rw [m3 l hl, if_pos hl]⟩, fun z => absurd (by rw [m1.1.N]; exact nI_le (Nat.le_refl _) (by omega)) z⟩
    · intro l hl ih σ1 m1 m2 m3
      have hv : vp_in (nI l) 10 := vp_in_nI (by omega) (by decide)
      refine B_X10_take_12 hn hd ⟨fun z => absurd z (by rw [m1.1.N]; exact nI_ge hl (by omega)), fun _ => ?_⟩
      rw [cont_zf (by omega) (by omega), nI_1, nI_clamp (by omega)]
      refine ⟨fun e => ih σ1 m1 m2 (fun l' hl' => ?_), fun e => ⟨hv, hv, ih _ (m1.set (by omega)) (fun q hq => by rw [gI_sI_ne (by omega)]; exact m2 q hq) (fun l' hl' => ?_)⟩⟩
      · rw [m3 l' hl']
        by_cases e2 : l' = l
        · rw [e2, if_neg (by omega), if_pos (by omega), bts]; unfold bt; rw [e]; simp
        · have e3 : l' < l + 1 ↔ l' < l := by omega
          simp only [e3]
      · by_cases e2 : l' = l
        · have hr := spN_rng hw h l
          have hx := m3 l hl
          rw [if_neg (by omega)] at hx
          rw [e2, gI_sI_same, if_pos (by omega), bts]
          unfold bt; rw [if_pos (by simpa using e)]
          rw [ti_sub] <;> rw [hx, show (1 : Int32).toInt = 1 by decide] <;> omega
        · rw [gI_sI_ne (by omega), m3 l' hl']
          have e3 : l' < l + 1 ↔ l' < l := by omega
          simp only [e3]
  exact loop 0 (by omega) _ d1 d2 (fun l' hl' => by rw [gI_sI_ne (by omega), if_neg (by omega)]; exact c3 l' hl')
theorem addFor_spec {d n : Nat} {σ : St} {w : Wd} {pd : Nat → Nat} {t : Tb} {h : Nat → Nat} {p : Nat} (hn : FIX ≤ n) (hd : 2 ≤ d) (hW : CW σ n w pd t h) (hw : WW w) (hh : hOk w h) (hp : p < w.P) : Cn d n M_X10_addFor md_X10_addFor [.ref 8, .int (nI p)] σ (liI (fun v σ' => CW σ' n w pd t (addT w t h p) ∧ v = bI (addB w t h p))) := by
  have hN := hw.N
  have hP := hw.P
  have hpw := pow10 hN
  have hb := hh p
  obtain ⟨c1, c2, c3⟩ := hW
  obtain ⟨b1, b2, b3, b4⟩ := c1.2.2 p hp
  have hv : vp_in (nI p) 8 := vp_in_nI (by omega) (by decide)
  refine S_X10_addFor hn (by omega) ?_
  rw [nI_clamp (by omega), c2 p hp, nI_clamp (by omega)]
  refine ⟨hv, pd p, b1, b2, hv, vp_in_nI (by omega) (by decide), ?_⟩
  generalize hQ : (fun (v : Int32) (σ' : St) => CW σ' n w pd t (addT w t h p) ∧ v = bI (addB w t h p)) = Q
  have loop : ∀ l, l ≤ w.N → ∀ x : Int32, x.toInt = (match amx (addOk w t h p) (fun l => t.2 p (h p ||| 2 ^ l)) l with
      | none => t.2 p (h p)
      | some z => t.2 p (h p ||| 2 ^ z)) → K_X10_addFor_28 d n σ Q σ (nI p) (pd p) x (optI (amx (addOk w t h p) (fun l => t.2 p (h p ||| 2 ^ l)) l)) (nI l) := by
    refine up_ind (N := w.N) ?_ ?_
    · intro x hx
      have eo : amx (addOk w t h p) (fun l => t.2 p (h p ||| 2 ^ l)) w.N = addO w t h p := rfl
      refine B_X10_addFor_28 hn (by omega) b2 ⟨fun _ => ?_, fun z => absurd (by rw [c1.1.N]; exact nI_le (Nat.le_refl _) (by omega)) z⟩
      rw [eo, ← hQ]
      cases ho : addO w t h p with
      | none =>
        refine ⟨fun z => absurd rfl z, fun _ => ⟨?_, ?_⟩⟩
        · unfold addT; rw [ho]; exact ⟨c1, c2, c3⟩
        · unfold addB; rw [ho]; rfl
      | some l =>
        have hl := amx_lt ho
        have hok := addOk_iff.mp hl.2
        refine ⟨fun _ => ?_, fun z => absurd z (optI_ne (by omega))⟩
        have ei : optI (some l) = nI l := rfl
        rw [ei, shl1 (by omega)]
        refine ⟨_, take_spec hn (by omega) ⟨c1, c2, c3⟩ hw hh hp (Nat.pow_lt_pow_right (by decide) hl.1) (fun i hi => ?_), fun σ2 r1 hf => ⟨?_, ?_⟩⟩
        · rw [Nat.testBit_two_pow]
          refine decide_eq_false (fun e => ?_)
          rw [← e, hok.1] at hi; cases hi
        · unfold addT; rw [ho]; exact r1
        · unfold addB; rw [ho]; rfl
    · intro l hl ih x hx
      have h2 := or2_lt hb hl
      refine B_X10_addFor_28 hn (by omega) b2 ⟨fun z => absurd z (by rw [c1.1.N]; exact nI_ge hl (by omega)), fun _ => ⟨hv, ?_⟩⟩
      rw [nI_clamp (by omega), c2 p hp, shl1 (by omega), nI_or, nI_clamp (by omega), nI_1]
      refine ⟨_, canTake_spec hn (by omega) ⟨c1, c2, c3⟩ hw hh hp hl, ?_⟩
      rintro v σ2 ⟨rfl, hv2⟩ hf
      have hwo := b4.wor h2
      have no : (addOk w t h p l = true → ∃ z, amx (addOk w t h p) (fun l => t.2 p (h p ||| 2 ^ l)) l = some z ∧ ¬ t.2 p (h p ||| 2 ^ z) < t.2 p (h p ||| 2 ^ l)) → K_X10_addFor_28 d n σ2 Q σ2 (nI p) (pd p) x (optI (amx (addOk w t h p) (fun l => t.2 p (h p ||| 2 ^ l)) l)) (nI (l + 1)) := fun hy => by
        have e := amx_no hy
        have := ih x (by rw [e]; exact hx)
        rw [e] at this; exact this
      refine ⟨fun hz => no (fun hy => ?_), fun hz => ⟨vp_in_nI (by omega) (by decide), fun hle => no (fun hy => ?_), fun hle => ⟨vp_in_nI (by omega) (by decide), ?_⟩⟩⟩
      · have hy' := addOk_iff.mp hy
        rcases hv2 with ⟨z, -⟩ | ⟨-, z⟩
        · rw [hz] at z; cases z
        · exact absurd ⟨hy'.1, hy'.2.1, hy'.2.2.1⟩ z
      · have h5 := le_ti.mp hle
        rw [hwo, hx] at h5
        have hy' := addOk_iff.mp hy
        cases ho : amx (addOk w t h p) (fun l => t.2 p (h p ||| 2 ^ l)) l with
        | none => rw [ho] at h5; have := hy'.2.2.2; simp only at h5; omega
        | some z => rw [ho] at h5; exact ⟨z, rfl, by simp only at h5; omega⟩
      · have h5 : ¬ _ ≤ _ := fun z => hle (le_ti.mpr z)
        rw [hwo, hx] at h5
        have hct : (h p).testBit l = false ∧ 0 < spN w h l ∧ t.1 p (h p ||| 2 ^ l) = true := by
          rcases hv2 with ⟨-, z⟩ | ⟨z, -⟩
          · exact z
          · exact absurd z hz
        have hgt : t.2 p (h p) < t.2 p (h p ||| 2 ^ l) := by
          cases ho : amx (addOk w t h p) (fun l => t.2 p (h p ||| 2 ^ l)) l with
          | none => rw [ho] at h5; simp only at h5; omega
          | some z =>
            rw [ho] at h5; simp only at h5
            have := (addOk_iff.mp (amx_lt ho).2).2.2.2
            omega
        have hok : addOk w t h p l = true := addOk_iff.mpr ⟨hct.1, hct.2.1, hct.2.2, hgt⟩
        have e := amx_yes hok (W := fun l => t.2 p (h p ||| 2 ^ l)) (fun z hz => by rw [hz] at h5; simp only at h5 ⊢; omega)
        have := ih _ (by rw [e]; exact hwo)
        rw [e] at this; exact this
  exact loop 0 (by omega) _ (b4.wor hb)
theorem round_spec {d n : Nat} {σ : St} {w : Wd} {pd : Nat → Nat} {t : Tb} {h : Nat → Nat} {b : Bool} (hn : FIX ≤ n) (hd : 3 ≤ d) (hW : CW σ n w pd t h) (hw : WW w) (hh : hOk w h) : Cn d n M_X10_roundOfAdding md_X10_roundOfAdding [.ref 8, .int (bI (!b))] σ (liI (fun v σ' => CW σ' n w pd t (rnd w t b h).1 ∧ v = bI (rnd w t b h).2)) := by
  have hP := hw.P
  refine S_X10_roundOfAdding hn (by omega) ?_
  generalize hQ : (fun (v : Int32) (σ' : St) => CW σ' n w pd t (rnd w t b h).1 ∧ v = bI (rnd w t b h).2) = Q
  have b01 : ∀ x : Bool, bI x = 0 ∨ bI x = 1 := fun x => by cases x <;> simp [bI]
  have loop : ∀ k, k ≤ w.P → ∀ σ1 : St, CW σ1 n w pd t (rndT w t (ordN w b) h k).1 → K_X10_roundOfAdding_4 d n σ Q σ1 (bI (!b)) (bI (rndT w t (ordN w b) h k).2) (nI k) := by
    refine up_ind (N := w.P) ?_ ?_
    · intro σ1 m
      refine B_X10_roundOfAdding_4 hn (by omega) ⟨fun _ => ⟨b01 _, ?_⟩, fun z => absurd (by rw [m.1.2.1]; exact nI_le (Nat.le_refl _) (by omega)) z⟩
      rw [← hQ]; exact ⟨m, rfl⟩
    · intro k hk ih σ1 m
      have tail : ∃ Q3 : Int32 → St → Prop, Cn (d - 1) n M_X10_addFor md_X10_addFor [.ref 8, .int (nI (ordN w b k))] σ1 (liI Q3) ∧ ∀ (v6 : Int32) (σ5 : St), Q3 v6 σ5 → Fr md_X10_addFor σ1 σ5 → ((v6 = 0 → K_X10_roundOfAdding_4 d n σ Q σ5 (bI (!b)) (bI (rndT w t (ordN w b) h k).2) (nI k + 1)) ∧ (¬ v6 = 0 → K_X10_roundOfAdding_4 d n σ Q σ5 (bI (!b)) 1 (nI k + 1))) := by
        refine ⟨_, addFor_spec hn (by omega) m hw (rndT_ok hh k) (ordN_lt hk), ?_⟩
        rintro v σ5 ⟨h1, h2⟩ hf
        have := ih σ5 h1
        rw [nI_1]
        have e : (rndT w t (ordN w b) h (k + 1)).2 = (addB w t (rndT w t (ordN w b) h k).1 (ordN w b k) || (rndT w t (ordN w b) h k).2) := rfl
        rw [e] at this
        cases ea : addB w t (rndT w t (ordN w b) h k).1 (ordN w b k) with
        | true =>
          rw [ea] at this h2
          refine ⟨fun z => ?_, fun _ => this⟩
          rw [z] at h2; exact absurd h2 (by decide)
        | false =>
          rw [ea, Bool.false_or] at this
          rw [ea] at h2
          exact ⟨fun _ => this, fun z => absurd h2 z⟩
      refine B_X10_roundOfAdding_4 hn (by omega) ⟨fun z => absurd z (by rw [m.1.2.1]; exact nI_ge hk (by omega)), fun _ => ⟨fun hb => ?_, fun hb => ?_⟩⟩
      · have eb : b = true := by cases b; exact absurd hb (by decide); rfl
        have eo : ordN w b k = w.P - 1 - k := by unfold ordN; rw [eb]; rfl
        rw [eo] at tail
        rw [m.1.2.1, show (1 : Int32) = nI 1 from rfl, nI_sub (by omega), nI_sub (by omega)]
        exact tail
      · have eb : b = false := by cases b; rfl; exact absurd rfl hb
        have eo : ordN w b k = k := by unfold ordN; rw [eb]; rfl
        rw [eo] at tail
        exact tail
  exact loop 0 (by omega) σ hW
theorem byTurns_spec {d n : Nat} {σ : St} {w : Wd} {pd : Nat → Nat} {t : Tb} {h : Nat → Nat} (hn : FIX ≤ n) (hd : 4 ≤ d) (hW : CW σ n w pd t h) (hw : WW w) (hh : hOk w h) : Cn d n M_X10_byTurns md_X10_byTurns [.ref 8] σ (liV (fun σ' => CW σ' n w pd t (addsN w t true 81 false h))) := by
  refine S_X10_byTurns hn (by omega) ?_
  generalize hR : addsN w t true 81 false h = R
  generalize hQ : (fun (σ' : St) => CW σ' n w pd t R) = Q
  have loop : ∀ i (b : Bool) (h1 : Nat → Nat) (σ1 : St), i ≤ 81 → hOk w h1 → CW σ1 n w pd t h1 → addsN w t true i b h1 = R → K_X10_byTurns_4 d n σ Q σ1 (bI (!b)) (nI (81 - i)) := by
    intro i
    induction i with
    | zero =>
      intro b h1 σ1 e1 e2 e3 e4
      refine B_X10_byTurns_4 hn (by omega) ⟨fun _ => ?_, fun z => absurd (by decide) z⟩
      rw [← hQ]; show CW σ1 n w pd t R; rw [← e4]; exact e3
    | succ i ih =>
      intro b h1 σ1 e1 e2 e3 e4
      refine B_X10_byTurns_4 hn (by omega) ⟨fun z => ?_, fun _ => ⟨_, round_spec hn (by omega) e3 hw e2, ?_⟩⟩
      · have := lt_ti.mp z
        rw [nI_toInt (by omega), show (80 : Int32).toInt = 80 by decide] at this; omega
      · rintro v σ2 ⟨f1, f2⟩ hf
        unfold addsN at e4
        cases er : (rnd w t b h1).2 with
        | false =>
          rw [er] at e4 f2
          refine ⟨fun z => absurd f2 z, fun _ => ?_⟩
          rw [← hQ]; show CW σ2 n w pd t R; rw [← e4]; exact f1
        | true =>
          rw [if_pos er] at e4
          rw [er] at f2
          have := ih (xor true b) (rnd w t b h1).1 σ2 (by omega) (rndT_ok e2 _) f1 e4
          rw [show 81 - i = 81 - (i + 1) + 1 by omega] at this
          refine ⟨fun _ => ?_, fun z => by rw [f2] at z; exact absurd z (by decide)⟩
          rw [nI_1]
          refine ⟨fun hx => ?_, fun hx => ?_⟩
          · cases b with
            | false => exact this
            | true => exact absurd rfl hx
          · cases b with
            | false => exact absurd hx (by decide)
            | true => exact this
  exact loop 81 false h σ (by omega) hh hW hR
