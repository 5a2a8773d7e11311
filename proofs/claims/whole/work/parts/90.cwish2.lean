/-! ===== the component: wish, falsely ===== -/
theorem read_fr {σ σ' : St} (hf : Fr md_X7_read σ σ') (q k : Nat) (a : ¬ (20 ≤ q ∧ q ≤ 23)) (b : ¬ (q = 4 ∧ (k = 0 ∨ k = 2))) (c : q ≠ 5) : gI σ' q k = gI σ q k := hf.1 q k (by
  rintro (z | z | z | z) <;> simp [md_X7_read] at z <;> omega)
theorem read_frR {σ σ' : St} (hf : Fr md_X7_read σ σ') : gR σ' = gR σ := funext fun k => hf.2.2 k (by
  rintro (z | z | z | z) <;> simp [md_X7_read] at z)
theorem wishFor_C {d n : Nat} {σ : St} {p L : Nat} (hn : FIX ≤ n) (hd : 1 ≤ d) (hp : IsP n p) (hL : L ≤ 400) : Cn d n M_X5_wishFor (md_X5_wishFor p) [.ref p, .ref 23, .int (nI L)] σ (liV (fun σ' => gI σ' p 4 = nI L ∧ (∀ k, k < L → gI σ' (p + 1) k = gI σ 23 k) ∧ gI σ' p 5 = 0 ∧ gR σ' = gR σ ∧ ∀ q k, ¬ (q = p ∧ (k = 4 ∨ k = 5)) → q ≠ p + 1 → gI σ' q k = gI σ q k)) := by
  have hp8 : 83 ≤ p := hp.1
  refine S_X5_wishFor hd hp (ar_23 hn) ?_
  rw [show mnI (nI L) 400 = nI L by rw [show (400 : Int32) = nI 400 from rfl, mnI_nI (by omega) (by decide), Nat.min_eq_left hL]]
  rw [gI_sI_same, nI_clamp (by omega)]
  refine ⟨⟨nI_pos (by omega), hL, hL⟩, ?_, fun k hk => ?_, gI_sI_same _ _ _ _, rfl, fun q k h1 h2 => ?_⟩
  · rw [gI_sI_ne (by omega), gI_sA, if_neg (by omega), gI_sI_same]
  · rw [gI_sI_ne (by omega), gI_sA, if_pos rfl]
    unfold va_cpy
    rw [if_pos (by omega), gI_sI_ne (by omega)]
    congr 1; omega
  · rw [gI_sI_ne (by omega), gI_sA, if_neg h2, gI_sI_ne (by omega)]
theorem fail_RC {σ τ : St} {n : Nat} {w : Wd} {f : Nat} (hR : RC σ n w) (h0 : gI τ 4 0 = 0) (h12 : gI τ 0 12 = nI f) (hR2 : gR τ = gR σ) (g : ∀ q k, ¬ (20 ≤ q ∧ q ≤ 23) → ¬ (q = 4 ∧ (k = 0 ∨ k = 2)) → q ≠ 5 → ¬ (q = 0 ∧ k = 12) → gI τ q k = gI σ q k) : RC τ n (failW w f) := by
  obtain ⟨⟨a1, a2, a3, a4⟩, hK, ⟨t1, t2⟩, ⟨t3, t4⟩, t5, t6⟩ := hR
  refine ⟨⟨a1.fr (fun k _ => g _ _ (by omega) (by omega) (by omega) (by omega)) (fun q k x y => g _ _ (by omega) (by omega) (by omega) (by omega)), by rw [g _ _ (by omega) (by omega) (by omega) (by omega)]; exact a2, fun j hj => ?_, a4⟩, hK.w rfl rfl (fun q k hq => g _ _ (by omega) (by omega) (by omega) (by omega)), ⟨h0, fun i hi => absurd hi (Nat.not_lt_zero _)⟩, ⟨t3, t4.fr (g _ _ (by omega) (by omega) (by omega) (by omega)) (fun k => g _ _ (by omega) (by omega) (by omega) (by omega))⟩, by rw [g _ _ (by omega) (by omega) (by omega) (by omega)]; exact t5, h12⟩
  obtain ⟨d1, d2, c⟩ := a3 j hj
  have hp : 83 ≤ pdJ j := d2.1
  obtain ⟨c1, c2, c3, c4, c5⟩ := c.fr (σ' := τ) (fun q k x y => g q k (by omega) (by omega) (by omega) (by omega))
  refine ⟨by rw [hR2]; exact d1, d2, c1, c2, c3, c4, fun hf => ?_⟩
  rw [law_ext (w := w) (w' := failW w f) (j := j) rfl rfl rfl rfl rfl rfl rfl rfl rfl rfl, wth_ext (w := w) (w' := failW w f) (j := j) rfl rfl rfl rfl rfl]
  exact c5 hf
theorem said_RC {σ τ : St} {n : Nat} {w : Wd} {r : Nat} {S : List Stm} (hR : RC σ n w) (hw : WW w) (hr : r < w.P) (h0 : gI τ 4 0 = 0) (h12 : gI τ 0 12 = -1) (h5 : gI τ (pdJ r) 5 = 0) (hS : PC τ (pdJ r) S) (hR2 : gR τ = gR σ) (g : ∀ q k, ¬ (20 ≤ q ∧ q ≤ 23) → ¬ (q = 4 ∧ (k = 0 ∨ k = 2)) → q ≠ 5 → ¬ (q = 0 ∧ k = 12) → ¬ (q = pdJ r ∧ (k = 4 ∨ k = 5)) → q ≠ pdJ r + 1 → gI τ q k = gI σ q k) : RC τ n (saidW w r S w.lie) := by
  have hP := hw.P
  have lo : ∀ q k, q < 88 → ¬ (20 ≤ q ∧ q ≤ 23) → ¬ (q = 4 ∧ (k = 0 ∨ k = 2)) → q ≠ 5 → ¬ (q = 0 ∧ k = 12) → gI τ q k = gI σ q k := fun q k a b c d e => g q k b c d e (by unfold pdJ; omega) (by unfold pdJ; omega)
  obtain ⟨⟨a1, a2, a3, a4⟩, hK, ⟨t1, t2⟩, ⟨t3, t4⟩, t5, t6⟩ := hR
  refine ⟨⟨a1.fr (fun k _ => lo _ _ (by omega) (by omega) (by omega) (by omega) (by omega)) (fun q k x y => lo _ _ (by omega) (by omega) (by omega) (by omega) (by omega)), by rw [lo _ _ (by omega) (by omega) (by omega) (by omega) (by omega)]; exact a2, fun j hj => ?_, a4⟩, hK.w rfl rfl (fun q k hq => lo _ _ (by omega) (by omega) (by omega) (by omega) (by omega)), ⟨h0, fun i hi => absurd hi (Nat.not_lt_zero _)⟩, ⟨t3, ?_⟩, by rw [lo _ _ (by omega) (by omega) (by omega) (by omega) (by omega)]; exact t5, h12⟩
  · obtain ⟨d1, d2, c1, c2, c3, c4, c5⟩ := a3 j hj
    refine ⟨by rw [hR2]; exact d1, d2, ?_⟩
    have gj : ∀ q k, pdJ j ≤ q → q < pdJ j + 5 → ¬ (q = pdJ r ∧ (k = 4 ∨ k = 5)) → q ≠ pdJ r + 1 → gI τ q k = gI σ q k := fun q k x y z1 z2 => g q k (by unfold pdJ at x; omega) (by unfold pdJ at x; omega) (by unfold pdJ at x; omega) (by unfold pdJ at x; omega) z1 z2
    by_cases e : j = r
    · subst e
      refine ⟨?_, ?_, ?_, ?_, fun hf => absurd h5 hf⟩
      · rw [gj _ _ (by omega) (by omega) (by omega) (by omega)]; exact c1
      · rw [gj _ _ (by omega) (by omega) (by omega) (by omega)]; exact c2
      · rw [gj _ _ (by omega) (by omega) (by omega) (by omega)]; exact c3
      · show PC τ (pdJ j) (puS w.ws j S j)
        rw [puS_same]; exact hS
    · have gk : ∀ q k, pdJ j ≤ q → q < pdJ j + 5 → gI τ q k = gI σ q k := fun q k x y => gj q k x y (by unfold pdJ at x y ⊢; omega) (by unfold pdJ at x y ⊢; omega)
      have eW : (saidW w r S w.lie).ws j = w.ws j := puS_ne e
      refine ⟨?_, ?_, ?_, ?_, fun hf => ?_⟩
      · rw [gk _ _ (by omega) (by omega)]; exact c1
      · rw [gk _ _ (by omega) (by omega)]; exact c2
      · rw [gk _ _ (by omega) (by omega)]; exact c3
      · show PC τ (pdJ j) ((saidW w r S w.lie).ws j)
        rw [eW]; exact c4.fr (gk _ _ (by omega) (by omega)) (fun k => gk _ _ (by omega) (by omega))
      · rw [gk _ _ (by omega) (by omega)] at hf
        show TbC τ (pdJ j) w.N (law (saidW w r S w.lie) j j) (wth (saidW w r S w.lie) j j)
        rw [law_ext (w := w) (w' := saidW w r S w.lie) (j := j) (r := j) rfl rfl rfl rfl eW rfl rfl rfl rfl rfl, wth_ext (w := w) (w' := saidW w r S w.lie) (j := j) (r := j) rfl rfl rfl rfl eW]
        exact (c5 hf).fr (gk _ _ (by omega) (by omega)) (fun q k x y => gk q k (by omega) (by omega))
  · show PC τ 83 (puS w.ws r S 8)
    rw [puS_ne (by omega)]
    exact t4.fr (lo _ _ (by omega) (by omega) (by omega) (by omega) (by omega)) (fun k => lo _ _ (by omega) (by omega) (by omega) (by omega) (by omega))
theorem lied_RC {σ τ : St} {n : Nat} {w : Wd} {S : List Stm} (hR : RC σ n w) (hw : WW w) (h0 : gI τ 4 0 = 0) (h12 : gI τ 0 12 = -1) (h11 : gI τ 0 11 = 1) (hS : PC τ 83 S) (hR2 : gR τ = gR σ) (g : ∀ q k, ¬ (20 ≤ q ∧ q ≤ 23) → ¬ (q = 4 ∧ (k = 0 ∨ k = 2)) → q ≠ 5 → ¬ (q = 0 ∧ (k = 11 ∨ k = 12)) → ¬ (q = 83 ∧ (k = 4 ∨ k = 5)) → q ≠ 83 + 1 → gI τ q k = gI σ q k) : RC τ n (saidW w 8 S true) := by
  have hP := hw.P
  obtain ⟨⟨a1, a2, a3, a4⟩, hK, ⟨t1, t2⟩, ⟨t3, t4⟩, t5, t6⟩ := hR
  refine ⟨⟨a1.fr (fun k _ => g _ _ (by omega) (by omega) (by omega) (by omega) (by omega) (by omega)) (fun q k x y => g _ _ (by omega) (by omega) (by omega) (by omega) (by omega) (by omega)), by rw [g _ _ (by omega) (by omega) (by omega) (by omega) (by omega) (by omega)]; exact a2, fun j hj => ?_, a4⟩, hK.w rfl rfl (fun q k hq => g _ _ (by omega) (by omega) (by omega) (by omega) (by omega) (by omega)), ⟨h0, fun i hi => absurd hi (Nat.not_lt_zero _)⟩, ⟨t3, ?_⟩, h11, h12⟩
  · obtain ⟨d1, d2, c⟩ := a3 j hj
    have hp : 88 ≤ pdJ j := by unfold pdJ; omega
    replace hj : j < w.P := hj
    have eW : (saidW w 8 S true).ws j = w.ws j := puS_ne (by omega)
    obtain ⟨c1, c2, c3, c4, c5⟩ := c.fr (σ' := τ) (fun q k x y => g q k (by omega) (by omega) (by omega) (by omega) (by omega) (by omega))
    refine ⟨by rw [hR2]; exact d1, d2, c1, c2, c3, ?_, fun hf => ?_⟩
    · show PC τ (pdJ j) ((saidW w 8 S true).ws j)
      rw [eW]; exact c4
    · show TbC τ (pdJ j) w.N (law (saidW w 8 S true) j j) (wth (saidW w 8 S true) j j)
      rw [law_ext (w := w) (w' := saidW w 8 S true) (j := j) (r := j) rfl rfl rfl rfl eW rfl rfl rfl rfl rfl, wth_ext (w := w) (w' := saidW w 8 S true) (j := j) (r := j) rfl rfl rfl rfl eW]
      exact c5 hf
  · show PC τ 83 (puS w.ws 8 S 8)
    rw [puS_same]; exact hS
theorem rd_len {w : Wd} {e : Nat} (he : e ≤ 400) (h : (rdT w e).1 = true) : (rdT w e).2.2.length ≤ 16 := (rdT_WR he h).1.2.1
theorem wish_C {d n : Nat} {σ : St} {w : Wd} {a b : Int32} (hn : FIX ≤ n) (hd : 27 ≤ d) (hR : RC σ n w) (hw : WW w) : Cn d n M_X11_wish md_X11_wish [.ref 0, .int a, .int b] σ (liI (fun v σ' => v = wishV w a b ∧ RC σ' n (wishW w a b))) := by
  have hT := hw.T
  have hP := hw.P
  have no : ¬ (inP a w.P ∧ inP b (w.T + 1)) → (fun (v : Int32) (σ' : St) => v = wishV w a b ∧ RC σ' n (wishW w a b)) (-2) σ := fun h => by
    unfold wishV wishW; rw [if_neg h, if_neg h]; exact ⟨rfl, hR⟩
  have lo : b < 0 → ¬ inP b (w.T + 1) := fun h z => by have := lt0.mp h; have := z.1; omega
  have t4 := hR.2.2.1.1
  refine S_X11_wish hn (by omega) ⟨fun h => no (fun z => ze.mp h ((hR.1.per hw).mpr z.1)), fun h => ⟨fun h2 => no (fun z => lo h2 z.2), fun h2 => ⟨fun h3 => ?_, fun h3 => no (fun z => h3 (by rw [t4, le_ti, nI_toInt (by omega)]; have := z.2.2; omega))⟩⟩⟩
  have g1 := (hR.1.per hw).mp h
  have g2 : inP b (w.T + 1) := by
    rw [t4, le_ti, nI_toInt (by omega)] at h3
    have : ¬ b.toInt < 0 := fun z => h2 (lt0.mpr z)
    unfold inP; omega
  obtain ⟨r, hr, rfl⟩ := inP_ex (by omega) g1
  obtain ⟨e, he, rfl⟩ := inP_ex (by omega) g2
  have ev : wishV w (nI r) (nI e) = if (rdT w e).1 = true then nI (rdT w e).2.2.length else -1 := by unfold wishV; rw [if_pos ⟨g1, g2⟩, tn_nI (by omega)]
  have ew : wishW w (nI r) (nI e) = if (rdT w e).1 = true then saidW w r (rdT w e).2.2 w.lie else failW w (sT w.tp e (rdT w e).2.1) := by unfold wishW; rw [if_pos ⟨g1, g2⟩, tn_nI (by omega), tn_nI (by omega)]
  rw [ev, ew]
  refine ⟨_, read_C (tx := w.tp) hn (by omega) t4 (by omega) hT (fun k hk => hR.2.2.1.2 k (by omega)) hw.tp, ?_⟩
  rintro v σ1 ⟨o0, o⟩ hf
  have f1 := read_fr hf
  have fR := read_frR hf
  rcases o with ⟨y1, y2, y3, y4, y5⟩ | ⟨y1, y2, y3⟩
  · have hlen := rd_len (w := w) (e := e) (by omega) y1
    have hWR := (rdT_WR (w := w) (e := e) (by omega) y1).2
    rw [Nat.zero_add] at y2
    rw [if_pos (show (rdT w e).1 = true from y1), if_pos (show (rdT w e).1 = true from y1)]
    refine ⟨fun z => ?_, fun _ => ?_⟩
    · rw [y2] at z
      have := congrArg Int32.toInt z
      have hl2 : (rdS (KT w.tp e) (VT w.tp e) 16 0).2.2.length ≤ 16 := hlen
      rw [nI_toInt (by omega), show (-1 : Int32).toInt = -1 by decide] at this
      omega
    · obtain ⟨b1, b2, b3⟩ := hR.1.2.2.1 r hr
      rw [gI_sI_ne (show ¬ (5 = 0 ∧ 3 = 12) by omega), y4, y3]
      refine ⟨vp_in_nI (by omega) (by decide), pdJ r, ?_, b2, _, wishFor_C (L := (enc (rdT w e).2.2).length) hn (by omega) b2 hWR, ?_⟩
      · rw [nI_clamp (by omega)]
        show gR σ1 r = _
        rw [fR]; exact b1
      · rintro σ2 ⟨p4, p1, p5, pR, pf⟩ hf2
        refine ⟨y2, said_RC hR hw hr ?_ ?_ p5 ⟨p4, hWR, fun i c hi => ?_⟩ (by rw [pR]; exact fR) (fun q k x1 x2 x3 x4 x5 x6 => ?_)⟩
        · rw [pf _ _ (by unfold pdJ; omega) (by unfold pdJ; omega), gI_sI_ne (by omega)]; exact o0
        · rw [pf _ _ (by unfold pdJ; omega) (by unfold pdJ; omega), gI_sI_same]
        · rw [p1 i (List.getElem?_eq_some_iff.mp hi).1, gI_sI_ne (by omega)]
          exact y5 i c hi
        · rw [pf _ _ x5 x6, gI_sI_ne (by omega)]; exact f1 q k x1 x2 x3
  · have nf : ¬ (rdT w e).1 = true := by rw [show (rdT w e).1 = false from y1]; decide
    rw [if_neg nf, if_neg nf]
    refine ⟨fun _ => ⟨y2, ?_⟩, fun z => absurd y2 z⟩
    exact fail_RC hR (by rw [gI_sI_ne (by omega)]; exact o0) (by rw [gI_sI_same]; exact y3) fR (fun q k x1 x2 x3 x4 => by rw [gI_sI_ne (by omega)]; exact f1 q k x1 x2 x3)
theorem falsely_C {d n : Nat} {σ : St} {w : Wd} {b : Int32} (hn : FIX ≤ n) (hd : 27 ≤ d) (hR : RC σ n w) (hw : WW w) : Cn d n M_X11_falsely md_X11_falsely [.ref 0, .int b] σ (liI (fun v σ' => v = falsV w b ∧ RC σ' n (falsW w b))) := by
  have hT := hw.T
  have no : ¬ inP b (w.T + 1) → (fun (v : Int32) (σ' : St) => v = falsV w b ∧ RC σ' n (falsW w b)) (-2) σ := fun h => by
    unfold falsV falsW; rw [if_neg h, if_neg h]; exact ⟨rfl, hR⟩
  have lo : b < 0 → ¬ inP b (w.T + 1) := fun h z => by have := lt0.mp h; have := z.1; omega
  have t4 := hR.2.2.1.1
  refine S_X11_falsely hn (by omega) ⟨fun h2 => no (lo h2), fun h2 => ⟨fun h3 => ?_, fun h3 => no (fun z => h3 (by rw [t4, le_ti, nI_toInt (by omega)]; have := z.2; omega))⟩⟩
  have g2 : inP b (w.T + 1) := by
    rw [t4, le_ti, nI_toInt (by omega)] at h3
    have : ¬ b.toInt < 0 := fun z => h2 (lt0.mpr z)
    unfold inP; omega
  obtain ⟨e, he, rfl⟩ := inP_ex (by omega) g2
  have ev : falsV w (nI e) = if (rdT w e).1 = true then nI (rdT w e).2.2.length else -1 := by unfold falsV; rw [if_pos g2, tn_nI (by omega)]
  have ew : falsW w (nI e) = if (rdT w e).1 = true then saidW w 8 (rdT w e).2.2 true else failW w (sT w.tp e (rdT w e).2.1) := by unfold falsW; rw [if_pos g2, tn_nI (by omega)]
  rw [ev, ew]
  refine ⟨_, read_C (tx := w.tp) hn (by omega) t4 (by omega) hT (fun k hk => hR.2.2.1.2 k (by omega)) hw.tp, ?_⟩
  rintro v σ1 ⟨o0, o⟩ hf
  have f1 := read_fr hf
  have fR := read_frR hf
  rcases o with ⟨y1, y2, y3, y4, y5⟩ | ⟨y1, y2, y3⟩
  · have hlen := rd_len (w := w) (e := e) (by omega) y1
    have hWR := (rdT_WR (w := w) (e := e) (by omega) y1).2
    rw [Nat.zero_add] at y2
    rw [if_pos (show (rdT w e).1 = true from y1), if_pos (show (rdT w e).1 = true from y1)]
    refine ⟨fun z => ?_, fun _ => ?_⟩
    · rw [y2] at z
      have := congrArg Int32.toInt z
      have hl2 : (rdS (KT w.tp e) (VT w.tp e) 16 0).2.2.length ≤ 16 := hlen
      rw [nI_toInt (by omega), show (-1 : Int32).toInt = -1 by decide] at this
      omega
    · have b2 := hR.2.2.2.1.1
      rw [gI_sI_ne (show ¬ (5 = 0 ∧ 3 = 12) by omega), y4, y3]
      refine ⟨_, wishFor_C (L := (enc (rdT w e).2.2).length) hn (by omega) b2 hWR, ?_⟩
      rintro σ2 ⟨p4, p1, p5, pR, pf⟩ hf2
      refine ⟨y2, lied_RC hR hw ?_ ?_ (gI_sI_same _ _ _ _) ⟨?_, hWR, fun i c hi => ?_⟩ (show gR σ2 = _ by rw [pR]; exact fR) (fun q k x1 x2 x3 x4 x5 x6 => ?_)⟩
      · rw [gI_sI_ne (by omega), pf _ _ (by omega) (by omega), gI_sI_ne (by omega)]; exact o0
      · rw [gI_sI_ne (by omega), pf _ _ (by omega) (by omega), gI_sI_same]
      · rw [gI_sI_ne (by omega)]; exact p4
      · rw [gI_sI_ne (by omega), p1 i (List.getElem?_eq_some_iff.mp hi).1, gI_sI_ne (by omega)]
        exact y5 i c hi
      · rw [gI_sI_ne (by omega), pf _ _ x5 x6, gI_sI_ne (by omega)]; exact f1 q k x1 x2 x3
  · have nf : ¬ (rdT w e).1 = true := by rw [show (rdT w e).1 = false from y1]; decide
    rw [if_neg nf, if_neg nf]
    refine ⟨fun _ => ⟨y2, ?_⟩, fun z => absurd y2 z⟩
    exact fail_RC hR (by rw [gI_sI_ne (by omega)]; exact o0) (by rw [gI_sI_same]; exact y3) fR (fun q k x1 x2 x3 x4 => by rw [gI_sI_ne (by omega)]; exact f1 q k x1 x2 x3)
