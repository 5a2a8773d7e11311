/-! ===== the component: the search ===== -/
theorem copy_spec {d n q1 q2 : Nat} {σ : St} (hd : 1 ≤ d) (h1 : Ar n q1 20 10) (h2 : Ar n q2 20 10) : Cn d n M_X8_copy (md_X8_copy q2) [.ref q1, .ref q2] σ (liV (fun σ' => (∀ l, l < 10 → gI σ' q2 l = gI σ q1 l) ∧ (∀ q k, q ≠ q2 → gI σ' q k = gI σ q k) ∧ gR σ' = gR σ)) := by
  refine S_X8_copy hd h1 h2 ⟨⟨by decide, by omega, by omega⟩, fun l hl => ?_, fun q k hq => ?_, rfl⟩
  · rw [gI_sA_same]; unfold va_cpy; rw [if_pos (by omega)]; congr 1; omega
  · rw [gI_sA_ne hq]
/-- the search as the component keeps it -/
def CS (σ : St) (n : Nat) (w : Wd) (pd : Nat → Nat) (t : Tb) (s : Se) : Prop := CX σ n w pd t.1 t.2 ∧ (gI σ 26 0 = 0 ∧ gI σ 27 0 = 0) ∧ gI σ 6 3 = nI w.sp ∧ gI σ 7 4 = nI s.g ∧ (∀ k, k ≤ s.g → s.g < k + 8 → ∀ l, l < 10 → gI σ (75 + k % 8) l = nI (s.r k l)) ∧ (∀ l, l < 10 → gI σ 29 l = nI (s.r s.g l)) ∧ (∀ l, l < 10 → gI σ 28 l = nI (s.b l)) ∧ (gI σ 7 3).toInt = s.q
def okZ (m : Md) : Bool := okC m && (cellFree m 6 3 && (cellFree m 7 3 && (cellFree m 7 4 && (rowFree m 28 && (rowFree m 29 && ((List.range 8).all (fun j => rowFree m (75 + j))))))))
theorem CS.st {m : Md} {σ σ' : St} {n : Nat} {w : Wd} {pd : Nat → Nat} {t : Tb} {s : Se} (h : CS σ n w pd t s) (hf : Fr m σ σ') (ho : okZ m = true) (h0 : gI σ' 26 0 = 0 ∧ gI σ' 27 0 = 0) : CS σ' n w pd t s := by
  simp only [okZ, Bool.and_eq_true] at ho
  obtain ⟨o1, o2, o3, o4, o5, o6, o7⟩ := ho
  obtain ⟨a1, a2, a3, a4, a5, a6, a7, a8⟩ := h
  refine ⟨a1.st hf o1, h0, by rw [hf.cell o2]; exact a3, by rw [hf.cell o4]; exact a4, fun k hk hk2 l hl => ?_, fun l hl => by rw [hf.row o6]; exact a6 l hl, fun l hl => by rw [hf.row o5]; exact a7 l hl, by rw [hf.cell o3]; exact a8⟩
  have := List.all_eq_true.mp o7 (k % 8) (by rw [List.mem_range]; omega)
  rw [hf.row this]; exact a5 k hk hk2 l hl
theorem CS.set {σ : St} {n : Nat} {w : Wd} {pd : Nat → Nat} {t : Tb} {s : Se} (h : CS σ n w pd t s) {q k : Nat} {v : Int32} (hq : q = 31 ∨ q = 30 ∨ q = 32 ∨ q = 25 ∨ q = 7 ∧ k = 9) : CS (sI σ q k v) n w pd t s := by
  obtain ⟨a1, a2, a3, a4, a5, a6, a7, a8⟩ := h
  refine ⟨a1.set (by omega), by rw [gI_sI_ne (by omega), gI_sI_ne (by omega)]; exact a2, by rw [gI_sI_ne (by omega)]; exact a3, by rw [gI_sI_ne (by omega)]; exact a4, fun k' hk hk2 l hl => by rw [gI_sI_ne (by omega)]; exact a5 k' hk hk2 l hl, fun l hl => by rw [gI_sI_ne (by omega)]; exact a6 l hl, fun l hl => by rw [gI_sI_ne (by omega)]; exact a7 l hl, by rw [gI_sI_ne (by omega)]; exact a8⟩
theorem CX.mv {σ σ' : St} {n : Nat} {w : Wd} {pd : Nat → Nat} {L : Nat → Nat → Bool} {V : Nat → Nat → Int} (h : CX σ n w pd L V) (q0 : Nat) (hq : q0 < 83 ∧ q0 ≠ 1 ∧ q0 ≠ 3 ∧ (q0 < 12 ∨ 16 < q0)) (h1 : ∀ q k, q ≠ q0 → gI σ' q k = gI σ q k) (h2 : gR σ' = gR σ) : CX σ' n w pd L V :=
  h.fr (h.1.fr (fun k' _ => h1 _ _ (by omega)) (fun q' k' _ _ => h1 _ _ (by omega))) (h1 _ _ (by omega)) h2 (fun q' k' hq => h1 _ _ (by omega))
theorem CS.mv {σ σ' : St} {n : Nat} {w : Wd} {pd : Nat → Nat} {t : Tb} {s : Se} (h : CS σ n w pd t s) (q0 : Nat) (hq : q0 = 31 ∨ q0 = 30 ∨ q0 = 32) (h1 : ∀ q k, q ≠ q0 → gI σ' q k = gI σ q k) (h2 : gR σ' = gR σ) : CS σ' n w pd t s := by
  obtain ⟨a1, a2, a3, a4, a5, a6, a7, a8⟩ := h
  refine ⟨a1.mv q0 (by omega) h1 h2, by rw [h1 _ _ (by omega), h1 _ _ (by omega)]; exact a2, by rw [h1 _ _ (by omega)]; exact a3, by rw [h1 _ _ (by omega)]; exact a4, fun k' hk hk2 l hl => by rw [h1 _ _ (by omega)]; exact a5 k' hk hk2 l hl, fun l hl => by rw [h1 _ _ (by omega)]; exact a6 l hl, fun l hl => by rw [h1 _ _ (by omega)]; exact a7 l hl, by rw [h1 _ _ (by omega)]; exact a8⟩
theorem isTrial_spec {d n q : Nat} {σ : St} {w : Wd} {r c : Nat → Nat} (hn : FIX ≤ n) (ha : Ar n q 20 10) (hN : gI σ 1 0 = nI w.N) (hw : WW w) (hr : ∀ l, l < 10 → gI σ q l = nI (r l)) (hc : ∀ l, l < 10 → gI σ 31 l = nI (c l)) (hrb : cP r) (hcb : cP c) : Cn d n M_X8_isTrial md_X8_isTrial [.ref 7, .ref q] σ (liI (fun v σ' => σ' = σ ∧ (v = 1 ∧ (∀ l, l < w.N → r l = c l) ∨ v = 0 ∧ ¬ ∀ l, l < w.N → r l = c l))) := by
  have hN10 := hw.N
  refine S_X8_isTrial hn ha ?_
  generalize hQ : (fun (v : Int32) (σ' : St) => σ' = σ ∧ (v = 1 ∧ (∀ l, l < w.N → r l = c l) ∨ v = 0 ∧ ¬ ∀ l, l < w.N → r l = c l)) = Q
  have loop : ∀ l, l ≤ w.N → (∀ i, i < l → r i = c i) → K_X8_isTrial_2 d n σ Q σ q 10 (nI l) := by
    refine up_ind (N := w.N) ?_ ?_
    · intro h
      exact B_X8_isTrial_2 hn ha ⟨fun _ => by rw [← hQ]; exact ⟨rfl, Or.inl ⟨rfl, h⟩⟩, fun z => absurd (by rw [hN]; exact nI_le (Nat.le_refl _) (by omega)) z⟩
    · intro l hl ih h
      have b1 := hrb l
      have b2 := hcb l
      have hv : vp_in (nI l) 10 := vp_in_nI (by omega) (by decide)
      refine B_X8_isTrial_2 hn ha ⟨fun z => absurd z (by rw [hN]; exact nI_ge hl (by omega)), fun _ => ⟨hv, hv, ?_⟩⟩
      rw [nI_clamp (by omega), hr l (by omega), hc l (by omega), nI_1]
      refine ⟨fun e => ih (fun i hi => ?_), fun e => ?_⟩
      · by_cases ei : i = l
        · rw [ei]; exact (nI_eq (by omega) (by omega)).mp e
        · exact h i (by omega)
      · rw [← hQ]; exact ⟨rfl, Or.inr ⟨rfl, fun z => e (by rw [z l hl])⟩⟩
  exact loop 0 (by omega) (fun i hi => absurd hi (by omega))
theorem isGone_spec {d n : Nat} {σ : St} {w : Wd} {pd : Nat → Nat} {t : Tb} {s : Se} {c : Nat → Nat} (hn : FIX ≤ n) (hd : 1 ≤ d) (hS : CS σ n w pd t s) (hw : WW w) (hs : SeOk s) (hg : s.g ≤ 60) (hc : ∀ l, l < 10 → gI σ 31 l = nI (c l)) (hcb : cP c) : Cn d n M_X8_isGone md_X8_isGone [.ref 7] σ (liI (fun v σ' => σ' = σ ∧ (v = 1 ∧ isGoneS w s c ∨ v = 0 ∧ ¬ isGoneS w s c))) := by
  refine S_X8_isGone hn hd ?_
  generalize hQ : (fun (v : Int32) (σ' : St) => σ' = σ ∧ (v = 1 ∧ isGoneS w s c ∨ v = 0 ∧ ¬ isGoneS w s c)) = Q
  obtain ⟨a1, a2, a3, a4, a5, a6, a7, a8⟩ := hS
  have pick : ∀ i, i < 8 → i ≤ s.g → ∃ k, k ≤ s.g ∧ s.g < k + 8 ∧ k % 8 = i := fun i hi hg2 => ⟨s.g - (s.g - i) % 8, by omega, by omega, by omega⟩
  have loop : ∀ i, i ≤ 8 → (∀ k, k ≤ s.g → s.g < k + 8 → k % 8 < i → ¬ ∀ l, l < w.N → s.r k l = c l) → K_X8_isGone_2 d n σ Q σ (nI i) := by
    refine up_ind (N := 8) ?_ ?_
    · intro h
      refine B_X8_isGone_2 hn hd ⟨fun _ => ?_, fun z => absurd (by decide) z⟩
      rw [← hQ]; refine ⟨rfl, Or.inr ⟨rfl, ?_⟩⟩
      rintro ⟨k, k1, k2, k3⟩
      exact h k k1 k2 (by omega) k3
    · intro i hi ih h
      refine B_X8_isGone_2 hn hd ⟨fun z => absurd z (by rw [show (8 : Int32) = nI 8 from rfl]; exact nI_ge hi (by decide)), fun _ => ⟨fun hlt => ?_, fun hlt => ⟨vp_in_nI (by omega) (by decide), ?_⟩⟩⟩
      · rw [a4] at hlt
        have := lt_ti.mp hlt
        rw [nI_toInt (by omega), nI_toInt (by omega)] at this
        rw [← hQ]; refine ⟨rfl, Or.inr ⟨rfl, ?_⟩⟩
        rintro ⟨k, k1, k2, k3⟩
        exact h k k1 k2 (by omega) k3
      · rw [a4] at hlt
        have hge : i ≤ s.g := by
          have : ¬ _ < _ := fun z => hlt (lt_ti.mpr z)
          rw [nI_toInt (by omega), nI_toInt (by omega)] at this; omega
        obtain ⟨k, k1, k2, k3⟩ := pick i hi hge
        rw [nI_clamp (by omega)]
        have hrow : ∀ l, l < 10 → gI σ (GONE0 + i) l = nI (s.r k l) := fun l hl => by
          have := a5 k k1 k2 l hl
          rw [k3] at this; exact this
        refine ⟨_, isTrial_spec hn (Ar.gone hn hi) a1.1.N hw hrow hc (hs.1 k) hcb, ?_⟩
        rintro v σ' ⟨rfl, hv⟩ hf
        refine ⟨fun hv0 => ?_, fun hv0 => ?_⟩
        · rw [nI_1]
          refine ih (fun k' k1' k2' k3' => ?_)
          by_cases e : k' % 8 = i
          · have : k' = k := by omega
            rw [this]
            rcases hv with ⟨z, -⟩ | ⟨-, z⟩
            · rw [hv0] at z; cases z
            · exact z
          · exact h k' k1' k2' (by omega)
        · rw [← hQ]; refine ⟨rfl, Or.inl ⟨rfl, k, k1, k2, ?_⟩⟩
          rcases hv with ⟨-, z⟩ | ⟨z, -⟩
          · exact z
          · exact absurd z hv0
  exact loop 0 (by omega) (fun k _ _ h => absurd h (by omega))
/-- what was chosen so far -/
def Cho (σ : St) (w : Wd) (t : Tb) (s : Se) (o : Option Nat) : Prop := (o = none → gI σ 7 9 = -1) ∧ ∀ z, o = some z → (gI σ 7 9).toInt = sqN w t (tryC w t (s.r s.g) z) ∧ ∀ l, l < 10 → gI σ 32 l = nI (tryC w t (s.r s.g) z l)
theorem Cho.mv {σ σ' : St} {w : Wd} {t : Tb} {s : Se} {o : Option Nat} (h : Cho σ w t s o) (h1 : gI σ' 7 9 = gI σ 7 9) (h2 : ∀ l, gI σ' 32 l = gI σ 32 l) : Cho σ' w t s o := ⟨fun e => by rw [h1]; exact h.1 e, fun z hz => ⟨by rw [h1]; exact (h.2 z hz).1, fun l hl => by rw [h2]; exact (h.2 z hz).2 l hl⟩⟩
theorem consider_spec {d n : Nat} {σ : St} {w : Wd} {pd : Nat → Nat} {t : Tb} {s : Se} {k : Nat} (hn : FIX ≤ n) (hd : 3 ≤ d) (hS : CS σ n w pd t s) (hw : WW w) (hV : vW t.2) (hs : SeOk s) (hg : s.g ≤ 60) (hc : ∀ l, l < 10 → gI σ 31 l = nI (tryC w t (s.r s.g) k l)) (hov : k < w.N → ovN w t (s.r s.g) k ≠ 0) (hch : Cho σ w t s (chU w t s k)) : Cn d n M_X8_consider md_X8_consider [.ref 7] σ (liV (fun σ' => CS σ' n w pd t s ∧ Cho σ' w t s (chU w t s (k + 1)))) := by
  have hcb : cP (tryC w t (s.r s.g) k) := tryC_ok (hs.1 _)
  refine S_X8_consider hn (by omega) ⟨_, isGone_spec hn (by omega) hS hw hs hg hc hcb, ?_⟩
  rintro v σ1 ⟨rfl, hv⟩ hf
  have n1 : (-1 : Int32).toInt = -1 := by decide
  refine ⟨fun hv0 => ⟨_, squareAt_spec hn (by omega) hS.1 hw hV hcb.ok (Or.inr (Or.inr rfl)) hc hS.2.1, ?_⟩, fun hv0 => ⟨hS, ?_⟩⟩
  · have hcand : candS w t s k := ⟨hov, by
      rcases hv with ⟨z, -⟩ | ⟨-, z⟩
      · rw [hv0] at z; cases z
      · exact z⟩
    rintro v2 σ2 ⟨g1, g2, g3⟩ hf2
    have sq : v2.toInt = sqN w t (tryC w t (s.r s.g) k) := g1
    have rr := sqN_rng hw t (tryC w t (s.r s.g) k)
    have hS2 := hS.st hf2 (by decide) g2.z
    have hch2 : Cho σ2 w t s (chU w t s k) := hch.mv (hf2.cell (by decide)) (hf2.row (by decide))
    have hc2 : ∀ l, l < 10 → gI σ2 31 l = nI (tryC w t (s.r s.g) k l) := fun l hl => by rw [hf2.row (by decide)]; exact hc l hl
    have yes : (∀ z, chU w t s k = some z → sqN w t (tryC w t (s.r s.g) k) < sqN w t (tryC w t (s.r s.g) z)) → ∃ Q15 : St → Prop, Cn (d - 1) n M_X8_copy (md_X8_copy 32) [.ref 31, .ref 32] (sI σ2 7 9 v2) (liV Q15) ∧ ∀ (σ17 : St), Q15 σ17 → Fr (md_X8_copy 32) (sI σ2 7 9 v2) σ17 → (fun σ' => CS σ' n w pd t s ∧ Cho σ' w t s (chU w t s (k + 1))) σ17 := fun hy => by
      refine ⟨_, copy_spec (by omega) (ar_31 hn) (Ar.fx hn ⟨rfl, by decide⟩), ?_⟩
      rintro σ3 ⟨q1, q2, q3⟩ hf3
      refine ⟨(hS2.set (by omega)).mv 32 (by omega) q2 q3, ?_⟩
      rw [chU_yes hcand hy]
      refine ⟨fun e => (by cases e), fun z hz => ?_⟩
      cases hz
      refine ⟨by rw [q2 _ _ (by decide), gI_sI_same]; exact sq, fun l hl => ?_⟩
      rw [q1 l hl, gI_sI_ne (by omega)]; exact hc2 l hl
    refine ⟨fun hx => yes (fun z hz => ?_), fun hx => ⟨fun hle => ⟨hS2, ?_⟩, fun hle => yes (fun z hz => ?_)⟩⟩
    · have := (hch2.2 z hz).1
      have r2 := sqN_rng hw t (tryC w t (s.r s.g) z)
      rw [hx, n1] at this; omega
    · have e : chU w t s (k + 1) = chU w t s k := chU_no (fun _ => by
        rcases hc : chU w t s k with _ | z
        · exact absurd (hch2.1 hc) hx
        · refine ⟨z, rfl, ?_⟩
          have := le_ti.mp hle
          rw [(hch2.2 z hc).1, sq] at this; omega)
      rw [e]; exact hch2
    · have : ¬ _ ≤ _ := fun z => hle (le_ti.mpr z)
      rw [(hch2.2 z hz).1, sq] at this; omega
  · have e : chU w t s (k + 1) = chU w t s k := chU_no (fun h => by
      rcases hv with ⟨-, z⟩ | ⟨z, -⟩
      · exact absurd z h.2
      · exact absurd z hv0)
    rw [e]; exact hch
theorem held_mx (x : Int32) : mxI 0 (mnI 250 x) = nI (heldP x.toInt) := by
  have : heldP x.toInt ≤ 250 := heldP_le _
  rw [eq_ti, mxI_ti, mnI_ti, nI_toInt (by omega), show (0 : Int32).toInt = 0 by decide, show (250 : Int32).toInt = 250 by decide]
  unfold heldP; omega
theorem change_spec {d n : Nat} {σ : St} {w : Wd} {pd : Nat → Nat} {t : Tb} {s : Se} {l : Nat} {a : Int32} (hn : FIX ≤ n) (hd : 1 ≤ d) (hS : CS σ n w pd t s) (hw : WW w) (hs : SeOk s) (hl : l < 10) (ha : -9 ≤ a.toInt ∧ a.toInt ≤ 8) : Cn d n M_X8_change md_X8_change [.ref 7, .int (nI l), .int a] σ (liV (fun σ' => σ' = sI σ 31 l (nI (heldP ((s.r s.g l : Int) + a.toInt * w.sp))))) := by
  have hv : vp_in (nI l) 10 := vp_in_nI (by omega) (by decide)
  have hsp := hw.sp
  have hr := hs.1 s.g l
  obtain ⟨a1, a2, a3, a4, a5, a6, a7, a8⟩ := hS
  refine S_X8_change hn hd ⟨hv, hv, ?_⟩
  rw [nI_clamp (by omega), a6 l hl, a3, held_mx]
  have m := mulsp (sp := w.sp) ha hsp.2
  have em : (a * nI w.sp).toInt = a.toInt * w.sp := by
    rw [ti_mul] <;> rw [nI_toInt (by omega)] <;> omega
  rw [ti_add] <;> rw [em, nI_toInt (by omega)] <;> omega
theorem goToChosen_spec {d n : Nat} {σ : St} {w : Wd} {pd : Nat → Nat} {t : Tb} {s : Se} {k : Nat} (hn : FIX ≤ n) (hd : 3 ≤ d) (hS : CS σ n w pd t s) (hw : WW w) (hs : SeOk s) (hg : s.g + 1 ≤ 60) (hk : (gI σ 7 9).toInt = sqN w t (tryC w t (s.r s.g) k) ∧ ∀ l, l < 10 → gI σ 32 l = nI (tryC w t (s.r s.g) k l)) : Cn d n M_X8_goToChosen md_X8_goToChosen [.ref 7] σ (liV (fun σ' => CS σ' n w pd t (goS w t s k))) := by
  obtain ⟨a1, a2, a3, a4, a5, a6, a7, a8⟩ := hS
  obtain ⟨k1, k2⟩ := hk
  generalize hct : tryC w t (s.r s.g) k = ct at k1 k2
  have er : ∀ i l, (goS w t s k).r i l = if i = s.g + 1 then ct l else s.r i l := fun i l => by
    show (if i = s.g + 1 then tryC w t (s.r s.g) k else s.r i) l = _
    rw [hct]; split <;> rfl
  have eg : (goS w t s k).g = s.g + 1 := rfl
  have eb : ∀ l, (goS w t s k).b l = if sqN w t ct < s.q then ct l else s.b l := fun l => by
    show (if sqN w t (tryC w t (s.r s.g) k) < s.q then tryC w t (s.r s.g) k else s.b) l = _
    rw [hct]; split <;> rfl
  have eq : (goS w t s k).q = min s.q (sqN w t ct) := by
    show min s.q (sqN w t (tryC w t (s.r s.g) k)) = _
    rw [hct]
  refine S_X8_goToChosen hn (by omega) ⟨_, copy_spec (by omega) (Ar.fx hn ⟨rfl, by decide⟩) (ar_29 hn), ?_⟩
  rintro σ1 ⟨p1, p2, p3⟩ hf1
  have e4 : gI σ1 7 4 = nI (s.g + 1) := by rw [p2 _ _ (by decide), gI_sI_same, a4, nI_1]
  rw [e4, show (8 : Int32) = nI 8 from rfl, nI_mod (by omega) (by decide), nI_clamp (by omega)]
  refine ⟨vp_in_nI (by omega) (by decide), ?_⟩
  refine ⟨_, copy_spec (by omega) (Ar.fx hn ⟨rfl, by decide⟩) (Ar.gone hn (by omega)), ?_⟩
  rintro σ2 ⟨r1, r2, r3⟩ hf2
  have f : ∀ q k, q ≠ 29 → q ≠ GONE0 + (s.g + 1) % 8 → ¬ (q = 7 ∧ k = 4) → gI σ2 q k = gI σ q k := fun q k h1 h2 h3 => by
    rw [r2 _ _ h2, p2 _ _ h1, gI_sI_ne (by omega)]
  have fR : gR σ2 = gR σ := by rw [r3, p3]; rfl
  have hCX : CX σ2 n w pd t.1 t.2 := a1.fr (a1.1.fr (fun k' _ => f _ _ (by omega) (by simp only [GONE0]; omega) (by omega)) (fun q' k' _ _ => f _ _ (by omega) (by simp only [GONE0]; omega) (by omega))) (f _ _ (by omega) (by simp only [GONE0]; omega) (by omega)) fR (fun q' k' hq => f _ _ (by omega) (by simp only [GONE0]; omega) (by omega))
  have c29 : ∀ l, l < 10 → gI σ2 29 l = nI (ct l) := fun l hl => by
    rw [r2 _ _ (by simp only [GONE0]; omega), p1 l hl, gI_sI_ne (by omega)]; exact k2 l hl
  have cg : ∀ i, i ≤ s.g + 1 → s.g + 1 < i + 8 → ∀ l, l < 10 → gI σ2 (75 + i % 8) l = nI ((goS w t s k).r i l) := fun i h1 h2 l hl => by
    rw [er]
    by_cases e : i = s.g + 1
    · rw [if_pos e, e]
      show gI σ2 (GONE0 + (s.g + 1) % 8) l = _
      rw [r1 l hl, p2 _ _ (by decide), gI_sI_ne (by omega)]; exact k2 l hl
    · rw [if_neg e, f _ _ (by omega) (by simp only [GONE0]; omega) (by omega)]
      exact a5 i (by omega) (by omega) l hl
  have c7 : gI σ2 7 4 = nI (s.g + 1) := by rw [r2 _ _ (by simp only [GONE0]; omega)]; exact e4
  have c73 : (gI σ2 7 3).toInt = s.q := by rw [f _ _ (by omega) (by simp only [GONE0]; omega) (by omega)]; exact a8
  have c79 : (gI σ2 7 9).toInt = sqN w t ct := by rw [f _ _ (by omega) (by simp only [GONE0]; omega) (by omega)]; exact k1
  have c32 : ∀ l, l < 10 → gI σ2 32 l = nI (ct l) := fun l hl => by rw [f _ _ (by omega) (by simp only [GONE0]; omega) (by omega)]; exact k2 l hl
  have e29 : ∀ l, (goS w t s k).r (goS w t s k).g l = ct l := fun l => by rw [er, eg, if_pos rfl]
  refine ⟨fun hle => ?_, fun hle => ?_⟩
  · have h1 := le_ti.mp hle
    rw [c73, c79] at h1
    refine ⟨hCX, ?_, ?_, c7, cg, fun l hl => by rw [e29]; exact c29 l hl, fun l hl => ?_, ?_⟩
    · rw [f _ _ (by omega) (by simp only [GONE0]; omega) (by omega), f _ _ (by omega) (by simp only [GONE0]; omega) (by omega)]; exact a2
    · rw [f _ _ (by omega) (by simp only [GONE0]; omega) (by omega)]; exact a3
    · rw [eb, if_neg (by omega), f _ _ (by omega) (by simp only [GONE0]; omega) (by omega)]; exact a7 l hl
    · rw [eq, c73]; omega
  · have h1 : ¬ _ ≤ _ := fun z => hle (le_ti.mpr z)
    rw [c73, c79] at h1
    refine ⟨_, copy_spec (by omega) (Ar.fx hn ⟨rfl, by decide⟩) (ar_28 hn), ?_⟩
    rintro σ3 ⟨s1, s2, s3⟩ hf3
    have g : ∀ q k, q ≠ 28 → ¬ (q = 7 ∧ k = 3) → gI σ3 q k = gI σ2 q k := fun q k h1 h2 => by rw [s2 _ _ h1, gI_sI_ne (by omega)]
    refine ⟨(hCX.set (by omega)).mv 28 (by omega) s2 s3, ?_, ?_, by rw [g _ _ (by omega) (by omega)]; exact c7, fun i h1 h2 l hl => by rw [g _ _ (by omega) (by omega)]; exact cg i h1 h2 l hl, fun l hl => by rw [e29, g _ _ (by omega) (by omega)]; exact c29 l hl, fun l hl => ?_, ?_⟩
    · rw [g _ _ (by omega) (by omega), g _ _ (by omega) (by omega), f _ _ (by omega) (by simp only [GONE0]; omega) (by omega), f _ _ (by omega) (by simp only [GONE0]; omega) (by omega)]; exact a2
    · rw [g _ _ (by omega) (by omega), f _ _ (by omega) (by simp only [GONE0]; omega) (by omega)]; exact a3
    · rw [eb, if_pos (by omega), s1 l hl, gI_sI_ne (by omega)]; exact c32 l hl
    · rw [s2 _ _ (by decide), gI_sI_same, c79, eq]; omega
