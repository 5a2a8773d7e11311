/-! ===== the component: what is told to it ===== -/
theorem forget_C {d n : Nat} {σ : St} {P : Nat} (hn : FIX ≤ n) (hP8 : P ≤ 8) (h3 : gI σ 3 2 = nI P) (hs : ∀ j, j < P → gR σ j = some (pdJ j) ∧ IsP n (pdJ j)) : Cn d n M_X1_forgetAll md_X1_forgetAll [.ref 3] σ (liV (fun σ' => (∀ j, j < P → gI σ' (pdJ j) 5 = 0) ∧ (∀ q k, ¬ (88 ≤ q ∧ (q - 88) % 5 = 0 ∧ k = 5) → gI σ' q k = gI σ q k) ∧ gR σ' = gR σ)) := by
  refine S_X1_forgetAll hn ?_
  generalize hQ : (fun (σ' : St) => (∀ j, j < P → gI σ' (pdJ j) 5 = 0) ∧ (∀ q k, ¬ (88 ≤ q ∧ (q - 88) % 5 = 0 ∧ k = 5) → gI σ' q k = gI σ q k) ∧ gR σ' = gR σ) = Q
  have loop : ∀ j, j ≤ P → ∀ σ1 : St, (∀ i, i < j → gI σ1 (pdJ i) 5 = 0) → (∀ q k, ¬ (88 ≤ q ∧ (q - 88) % 5 = 0 ∧ k = 5) → gI σ1 q k = gI σ q k) → gR σ1 = gR σ → K_X1_forgetAll_2 d n σ Q σ1 (nI j) := by
    refine up_ind (N := P) ?_ ?_
    · intro σ1 m1 m2 m3
      exact B_X1_forgetAll_2 hn ⟨fun _ => by rw [← hQ]; exact ⟨m1, m2, m3⟩, fun z => absurd (by rw [m2 _ _ (by omega), h3]; exact nI_le (Nat.le_refl _) (by omega)) z⟩
    · intro j hj ih σ1 m1 m2 m3
      obtain ⟨b1, b2⟩ := hs j hj
      refine B_X1_forgetAll_2 hn ⟨fun z => absurd z (by rw [m2 _ _ (by omega), h3]; exact nI_ge hj (by omega)), fun _ => ⟨vp_in_nI (by omega) (by decide), pdJ j, by rw [nI_clamp (by omega), m3]; exact b1, b2, ?_⟩⟩
      rw [nI_1]
      refine ih _ (fun i hi => ?_) (fun q k hq => by rw [gI_sI_ne (by unfold pdJ; omega)]; exact m2 q k hq) m3
      rw [gI_sI]
      by_cases e : i = j
      · rw [if_pos ⟨by rw [e], rfl⟩]
      · rw [if_neg (fun z => e (by have := z.1; unfold pdJ at this; omega))]; exact m1 i (by omega)
  exact loop 0 (by omega) σ (fun i h => absurd h (by omega)) (fun _ _ _ => rfl) rfl
theorem SX.seats {σ : St} {n : Nat} {w : Wd} {rr : Nat → Nat} {hv : Nat → Int32} (h : SX σ n w pdJ rr hv) : ∀ j, j < w.P → gR σ j = some (pdJ j) ∧ IsP n (pdJ j) := fun j hj => ⟨(h.2.2.1 j hj).1, (h.2.2.1 j hj).2.1⟩
/-- nobody is fresh: another world with the same people -/
theorem SX.renew {σ σ' : St} {n : Nat} {w w' : Wd} {hv : Nat → Int32} (hS : SX σ n w pdJ id hv) (hP : w'.P = w.P) (hpu : w'.pu = w.pu) (hdn : w'.dn = w.dn) (hws : w'.ws = w.ws) (hRP : RP σ' w') (h3 : gI σ' 3 2 = gI σ 3 2) (hR : gR σ' = gR σ) (h5 : ∀ j, j < w.P → gI σ' (pdJ j) 5 = 0) (hrest : ∀ q k, 88 ≤ q → ¬ ((q - 88) % 5 = 0 ∧ k = 5) → gI σ' q k = gI σ q k) : SX σ' n w' pdJ id hv := by
  obtain ⟨a1, a2, a3, a4⟩ := hS
  refine ⟨hRP, by rw [h3, hP]; exact a2, fun j hj => ?_, fun i j hi hj hij => by unfold pdJ; omega⟩
  rw [hP] at hj
  obtain ⟨b1, b2, c1, c2, c3, c4, c5⟩ := a3 j hj
  have g : ∀ q k, pdJ j ≤ q → q < pdJ j + 5 → k ≠ 5 ∨ q ≠ pdJ j → gI σ' q k = gI σ q k := fun q k x y z => hrest q k (by unfold pdJ at x; omega) (by unfold pdJ at x y z; omega)
  refine ⟨by rw [hR]; exact b1, b2, ?_, ?_, ?_, ?_, fun hf => absurd (h5 j hj) hf⟩
  · rw [g _ _ (by omega) (by omega) (by omega), hpu]; exact c1
  · rw [g _ _ (by omega) (by omega) (by omega), hdn]; exact c2
  · rw [g _ _ (by omega) (by omega) (by omega)]; exact c3
  · rw [hws]; exact c4.fr (g _ _ (by omega) (by omega) (by omega)) (fun k => g _ _ (by omega) (by omega) (by omega))
theorem TL.mv {σ σ' : St} {n : Nat} {w w' : Wd} (h : TL σ n w) (hT : w'.T = w.T) (htp : w'.tp = w.tp) (hws : w'.ws 8 = w.ws 8) (hl : w'.lie = w.lie) (hf : w'.fa = w.fa) (h1 : ∀ q k, q = 4 ∧ k = 0 ∨ q = 19 ∨ q = 0 ∨ (q = 83 ∧ k = 4) ∨ q = 84 → gI σ' q k = gI σ q k) : TL σ' n w' := by
  obtain ⟨⟨a1, a2⟩, ⟨a3, a4⟩, a5, a6⟩ := h
  exact ⟨⟨by rw [h1 _ _ (by omega), hT]; exact a1, fun i hi => by rw [h1 _ _ (by omega), htp]; exact a2 i (by rw [hT] at hi; exact hi)⟩, ⟨a3, by rw [hws]; exact a4.fr (h1 _ _ (by omega)) (fun k => h1 _ _ (by omega))⟩, by rw [h1 _ _ (by omega), hl]; exact a5, by rw [h1 _ _ (by omega), hf]; exact a6⟩
theorem MK.w {σ σ' : St} {w w' : Wd} (h : MK σ w) (hs : w'.sp = w.sp) (hp : w'.pr = w.pr) (h1 : ∀ q k, q = 26 ∨ q = 27 ∨ q = 6 ∨ q = 24 → gI σ' q k = gI σ q k) : MK σ' w' := ⟨by rw [h1 _ _ (by omega), h1 _ _ (by omega)]; exact h.1, by rw [h1 _ _ (by omega), hs]; exact h.2.1, fun l hl => by rw [h1 _ _ (by omega), hp]; exact h.2.2 l hl⟩
theorem places_C {d n : Nat} {σ : St} {w : Wd} {a1 a2 : Int32} (hn : FIX ≤ n) (hd : 2 ≤ d) (hR : RC σ n w) (hw : WW w) : Cn d n M_X11_places md_X11_places [.ref 0, .int a1, .int a2] σ (liI (fun v σ' => v = placesV w a1 a2 ∧ RC σ' n (placesW w a1 a2))) := by
  have hN := hw.N
  have no : ¬ (inP a1 w.N ∧ inP a2 10) → (fun (v : Int32) (σ' : St) => v = placesV w a1 a2 ∧ RC σ' n (placesW w a1 a2)) 0 σ := fun h => by
    unfold placesV placesW; rw [if_neg h, if_neg h]; exact ⟨rfl, hR⟩
  have o9 : (9 : Int32).toInt = 9 := by decide
  refine S_X11_places hn (by omega) ⟨fun h => no (fun z => ze.mp h ((hR.1.les hw).mpr z.1)), fun h => ⟨fun h2 => no (fun z => by have := lt0.mp h2; have := z.2.1; omega), fun h2 => ⟨fun h3 => ?_, fun h3 => no (fun z => h3 (le_ti.mpr (by rw [o9]; have := z.2.2; omega)))⟩⟩⟩
  have g1 := (hR.1.les hw).mp h
  have g2 : inP a2 10 := ⟨by have : ¬ _ := fun z => h2 (lt0.mpr z); omega, by have := le_ti.mp h3; rw [o9] at this; omega⟩
  obtain ⟨l, hl, rfl⟩ := inP_ex (by omega) g1
  obtain ⟨x, hx, rfl⟩ := inP_ex (by decide) g2
  unfold placesV placesW
  rw [if_pos ⟨g1, g2⟩, if_pos ⟨g1, g2⟩, tn_nI (by omega), tn_nI (by omega), nI_clamp (by omega)]
  refine ⟨vp_in_nI (by omega) (by decide), rfl, ?_⟩
  have f : ∀ q k, q ≠ 12 → gI (sI σ 12 l (nI x)) q k = gI σ q k := fun q k hq => gI_sI_ne (by omega)
  obtain ⟨⟨⟨r1, r2, r3, r4, r5, r6⟩, a2, a3, a4⟩, hK, hT⟩ := hR
  refine ⟨⟨⟨?_, ?_, ?_, fun l' hl' => ?_, fun l' hl' => ?_, fun l' h1 h2 => ?_⟩, by rw [f _ _ (by decide)]; exact a2, fun j hj => ?_, a4⟩, hK.w rfl rfl (fun q k hq => f _ _ (by omega)), hT.mv rfl rfl rfl rfl rfl (fun q k hq => f _ _ (by omega))⟩
  · rw [f _ _ (by decide)]; exact r1
  · rw [f _ _ (by decide)]; exact r2
  · rw [f _ _ (by decide)]; exact r3
  · rw [f 13 _ (by decide), f 14 _ (by decide)]
    refine ⟨?_, (r4 l' hl').2⟩
    rw [gI_sI]
    show _ = nI (puh w.pl l x l')
    by_cases e : l' = l
    · rw [if_pos ⟨rfl, e⟩, e, puh_same]
    · rw [if_neg (fun z => e z.2), puh_ne e]; exact (r4 l' hl').1
  · rw [f _ _ (by decide), f _ _ (by decide)]; exact r5 l' hl'
  · rw [f _ _ (by decide), f _ _ (by decide)]; exact r6 l' h1 h2
  · obtain ⟨b1, b2, b3⟩ := a3 j hj
    obtain ⟨c1, c2, c3, c4, c5⟩ := b3.fr (σ' := sI σ 12 l (nI x)) (fun q k x y => f _ _ (by unfold pdJ at x; omega))
    refine ⟨b1, b2, c1, c2, c3, c4, fun hf => ?_⟩
    rw [law_ext (w := w) (w' := setPl w l x) (j := j) rfl rfl rfl rfl rfl rfl rfl rfl rfl rfl, wth_ext (w := w) (w' := setPl w l x) (j := j) rfl rfl rfl rfl rfl]
    exact c5 hf
theorem price_C {d n : Nat} {σ : St} {w : Wd} {a1 a2 : Int32} (hn : FIX ≤ n) (hd : 2 ≤ d) (hR : RC σ n w) (hw : WW w) : Cn d n M_X11_price md_X11_price [.ref 0, .int a1, .int a2] σ (liI (fun v σ' => v = priceV w a1 a2 ∧ RC σ' n (priceW w a1 a2))) := by
  have hN := hw.N
  have no : ¬ (inP a1 w.N ∧ inP a2 251) → (fun (v : Int32) (σ' : St) => v = priceV w a1 a2 ∧ RC σ' n (priceW w a1 a2)) 0 σ := fun h => by
    unfold priceV priceW; rw [if_neg h, if_neg h]; exact ⟨rfl, hR⟩
  have o9 : (250 : Int32).toInt = 250 := by decide
  refine S_X11_price hn (by omega) ⟨fun h => no (fun z => ze.mp h ((hR.1.les hw).mpr z.1)), fun h => ⟨fun h2 => no (fun z => by have := lt0.mp h2; have := z.2.1; omega), fun h2 => ⟨fun h3 => ?_, fun h3 => no (fun z => h3 (le_ti.mpr (by rw [o9]; have := z.2.2; omega)))⟩⟩⟩
  have g1 := (hR.1.les hw).mp h
  have g2 : inP a2 251 := ⟨by have : ¬ _ := fun z => h2 (lt0.mpr z); omega, by have := le_ti.mp h3; rw [o9] at this; omega⟩
  obtain ⟨l, hl, rfl⟩ := inP_ex (by omega) g1
  obtain ⟨x, hx, rfl⟩ := inP_ex (by decide) g2
  unfold priceV priceW
  rw [if_pos ⟨g1, g2⟩, if_pos ⟨g1, g2⟩, tn_nI (by omega), tn_nI (by omega), nI_clamp (by omega)]
  refine ⟨vp_in_nI (by omega) (by decide), rfl, ?_⟩
  have f : ∀ q k, q ≠ 24 → gI (sI σ 24 l (nI x)) q k = gI σ q k := fun q k hq => gI_sI_ne (by omega)
  refine ⟨(hR.1.fr (hR.1.1.fr (fun k _ => f _ _ (by decide)) (fun q k x y => f _ _ (by omega))) (f _ _ (by decide)) rfl (fun q k hq => f _ _ (by omega))).pr, ⟨by rw [f _ _ (by decide), f _ _ (by decide)]; exact hR.2.1.1, by rw [f _ _ (by decide)]; exact hR.2.1.2.1, fun l' hl' => ?_⟩, hR.2.2.mv rfl rfl rfl rfl rfl (fun q k hq => f _ _ (by omega))⟩
  rw [gI_sI]
  show _ = nI (puh w.pr l x l')
  by_cases e : l' = l
  · rw [if_pos ⟨rfl, e⟩, e, puh_same]
  · rw [if_neg (fun z => e z.2), puh_ne e]; exact hR.2.1.2.2 l' hl'
theorem step_C {d n : Nat} {σ : St} {w : Wd} {a : Int32} (hn : FIX ≤ n) (hR : RC σ n w) (hw : WW w) : Cn d n M_X11_step md_X11_step [.ref 0, .int a] σ (liI (fun v σ' => v = stepV a ∧ RC σ' n (stepW w a))) := by
  have no : ¬ (1 ≤ a.toInt ∧ a.toInt ≤ 50) → (fun (v : Int32) (σ' : St) => v = stepV a ∧ RC σ' n (stepW w a)) 0 σ := fun h => by
    unfold stepV stepW; rw [if_neg h, if_neg h]; exact ⟨rfl, hR⟩
  have o : (1 : Int32).toInt = 1 := by decide
  have s : (50 : Int32).toInt = 50 := by decide
  refine S_X11_step hn ⟨fun h => no (fun z => by have := lt_ti.mp h; rw [o] at this; omega), fun h => ⟨fun h2 => ?_, fun h2 => no (fun z => h2 (le_ti.mpr (by rw [s]; omega)))⟩⟩
  have g1 : ¬ _ < _ := fun z => h (lt_ti.mpr z)
  have g2 := le_ti.mp h2
  rw [o] at g1
  rw [s] at g2
  have hg : 1 ≤ a.toInt ∧ a.toInt ≤ 50 := by omega
  have ea := nI_tn (a := a) (by omega)
  unfold stepV stepW
  rw [if_pos hg, if_pos hg]
  refine ⟨rfl, ?_⟩
  have f : ∀ q k, ¬ (q = 6 ∧ k = 3) → gI (sI σ 6 3 a) q k = gI σ q k := fun q k hq => gI_sI_ne (by omega)
  obtain ⟨a1, a2, a3, a4⟩ := hR.1.fr (σ' := sI σ 6 3 a) (hR.1.1.fr (fun k _ => f _ _ (by omega)) (fun q k x y => f _ _ (by omega))) (f _ _ (by decide)) rfl (fun q k hq => f _ _ (by omega))
  refine ⟨⟨a1, a2, fun j hj => ?_, a4⟩, ⟨by rw [f _ _ (by decide), f _ _ (by decide)]; exact hR.2.1.1, by rw [gI_sI_same]; exact ea.symm, fun l hl => by rw [f _ _ (by omega)]; exact hR.2.1.2.2 l hl⟩, hR.2.2.mv rfl rfl rfl rfl rfl (fun q k hq => f _ _ (by omega))⟩
  obtain ⟨b1, b2, c1, c2, c3, c4, c5⟩ := a3 j hj
  refine ⟨b1, b2, c1, c2, c3, c4, fun hf => ?_⟩
  rw [law_ext (w := w) (w' := setSp w (tn a)) (j := j) rfl rfl rfl rfl rfl rfl rfl rfl rfl rfl, wth_ext (w := w) (w' := setSp w (tn a)) (j := j) rfl rfl rfl rfl rfl]
  exact c5 hf
theorem most_C {d n : Nat} {σ : St} {w : Wd} {a : Int32} (hn : FIX ≤ n) (hd : 2 ≤ d) (hR : RC σ n w) (hw : WW w) : Cn d n M_X11_most md_X11_most [.ref 0, .int a] σ (liI (fun v σ' => v = mostV a ∧ RC σ' n (mostW w a))) := by
  have hP := hw.P
  have no : ¬ (1 ≤ a.toInt ∧ a.toInt ≤ 6) → (fun (v : Int32) (σ' : St) => v = mostV a ∧ RC σ' n (mostW w a)) 0 σ := fun h => by
    unfold mostV mostW; rw [if_neg h, if_neg h]; exact ⟨rfl, hR⟩
  have o : (1 : Int32).toInt = 1 := by decide
  have s : (6 : Int32).toInt = 6 := by decide
  refine S_X11_most hn (by omega) ⟨fun h => no (fun z => by have := lt_ti.mp h; rw [o] at this; omega), fun h => ⟨fun h2 => ?_, fun h2 => no (fun z => h2 (le_ti.mpr (by rw [s]; omega)))⟩⟩
  have g1 : ¬ _ < _ := fun z => h (lt_ti.mpr z)
  have g2 := le_ti.mp h2
  rw [o] at g1
  rw [s] at g2
  have hg : 1 ≤ a.toInt ∧ a.toInt ≤ 6 := by omega
  have ea := nI_tn (a := a) (by omega)
  unfold mostV mostW
  rw [if_pos hg, if_pos hg]
  have f : ∀ q k, ¬ (q = 1 ∧ k = 1) → gI (sI σ 1 1 a) q k = gI σ q k := fun q k hq => gI_sI_ne (by omega)
  refine ⟨_, forget_C hn hP (by rw [f _ _ (by decide)]; exact hR.1.2.1) (fun j hj => hR.1.seats j hj), ?_⟩
  rintro σ1 ⟨e1, e2, e3⟩ hf1
  have g : ∀ q k, ¬ (q = 1 ∧ k = 1) → ¬ (88 ≤ q ∧ (q - 88) % 5 = 0 ∧ k = 5) → gI σ1 q k = gI σ q k := fun q k x y => by rw [e2 q k y, f q k x]
  refine ⟨rfl, hR.1.renew rfl rfl rfl rfl ?_ (g _ _ (by decide) (by omega)) e3 e1 (fun q k x y => g _ _ (by omega) (by omega)), hR.2.1.w rfl rfl (fun q k hq => g _ _ (by omega) (by omega)), hR.2.2.mv rfl rfl rfl rfl rfl (fun q k hq => g _ _ (by omega) (by omega))⟩
  obtain ⟨r1, r2, r3, r4, r5, r6⟩ := hR.1.1
  refine ⟨by rw [g _ _ (by decide) (by omega)]; exact r1, by rw [e2 _ _ (by omega), gI_sI_same]; exact ea.symm, by rw [g _ _ (by decide) (by omega)]; exact r3, fun l hl => ?_, fun l hl => ?_, fun l h1 h2 => ?_⟩
  · rw [g 12 _ (by omega) (by omega), g 13 _ (by omega) (by omega), g 14 _ (by omega) (by omega)]; exact r4 l hl
  · rw [g 15 _ (by omega) (by omega), g 16 _ (by omega) (by omega)]; exact r5 l hl
  · rw [g 15 _ (by omega) (by omega), g 16 _ (by omega) (by omega)]; exact r6 l h1 h2
theorem purse_C {d n : Nat} {σ : St} {w : Wd} {a1 a2 : Int32} (hn : FIX ≤ n) (hd : 2 ≤ d) (hR : RC σ n w) (hw : WW w) : Cn d n M_X11_purse md_X11_purse [.ref 0, .int a1, .int a2] σ (liI (fun v σ' => v = purseV w a1 a2 ∧ RC σ' n (purseW w a1 a2))) := by
  have hP := hw.P
  have no : ¬ (inP a1 w.P ∧ inP a2 201) → (fun (v : Int32) (σ' : St) => v = purseV w a1 a2 ∧ RC σ' n (purseW w a1 a2)) 0 σ := fun h => by
    unfold purseV purseW; rw [if_neg h, if_neg h]; exact ⟨rfl, hR⟩
  have pg : fn_X11_isPurse a2 ≠ 0 ↔ inP a2 201 := by
    unfold fn_X11_isPurse
    have e : ((200 : Int32) < a2) ↔ ((201 : Int32) ≤ a2) := by rw [lt_ti, le_ti, show (200 : Int32).toInt = 200 by decide, show (201 : Int32).toInt = 201 by decide]; omega
    have := gateN (a := a2) (x := 201) (K := 201) (by decide) rfl
    rw [← this]
    by_cases h1 : a2 < 0
    · rw [if_pos h1, if_pos h1]
    · rw [if_neg h1, if_neg h1]
      by_cases h2 : (200 : Int32) < a2
      · rw [if_pos h2, if_pos (e.mp h2)]
      · rw [if_neg h2, if_neg (fun z => h2 (e.mpr z))]
  refine S_X11_purse hn (by omega) ⟨fun h => no (fun z => ze.mp h ((hR.1.per hw).mpr z.1)), fun h => ⟨fun h2 => ?_, fun h2 => no (fun z => ze.mp h2 (pg.mpr z.2))⟩⟩
  have g1 := (hR.1.per hw).mp h
  have g2 := pg.mp h2
  obtain ⟨p, hp, rfl⟩ := inP_ex (by omega) g1
  obtain ⟨x, hx, rfl⟩ := inP_ex (by decide) g2
  unfold purseV purseW
  rw [if_pos ⟨g1, g2⟩, if_pos ⟨g1, g2⟩, tn_nI (by omega), tn_nI (by omega), nI_clamp (by omega)]
  obtain ⟨b1, b2, b3⟩ := hR.1.2.2.1 p hp
  refine ⟨vp_in_nI (by omega) (by decide), pdJ p, b1, b2, rfl, ?_⟩
  generalize hτ : sI (sI σ (pdJ p) 0 (nI x)) (pdJ p) 5 0 = τ
  have f : ∀ q k, ¬ (q = pdJ p ∧ (k = 0 ∨ k = 5)) → gI τ q k = gI σ q k := fun q k hq => by subst hτ; rw [gI_sI_ne (by omega), gI_sI_ne (by omega)]
  have f0 : gI τ (pdJ p) 0 = nI x := by subst hτ; rw [gI_sI_ne (by omega), gI_sI_same]
  have f5 : gI τ (pdJ p) 5 = 0 := by subst hτ; rw [gI_sI_same]
  have fR : gR τ = gR σ := by subst hτ; rfl
  have lo : ∀ q k, q < 88 → gI τ q k = gI σ q k := fun q k hq => f q k (by unfold pdJ; omega)
  obtain ⟨⟨a1, a2, a3, a4⟩, hK, hT⟩ := hR
  refine ⟨⟨a1.fr (fun k _ => lo _ _ (by omega)) (fun q k x y => lo _ _ (by omega)), by rw [lo _ _ (by omega)]; exact a2, fun j hj => ?_, a4⟩, hK.w rfl rfl (fun q k hq => lo _ _ (by omega)), hT.mv rfl rfl rfl rfl rfl (fun q k hq => lo _ _ (by omega))⟩
  obtain ⟨d1, d2, c1, c2, c3, c4, c5⟩ := a3 j hj
  refine ⟨by rw [fR]; exact d1, d2, ?_⟩
  by_cases e : j = p
  · subst e
    refine ⟨?_, ?_, ?_, ?_, fun hf => absurd f5 hf⟩
    · rw [f0]; show nI x = nI (puh w.pu j x j); rw [puh_same]
    · rw [f _ _ (by omega)]; exact c2
    · rw [f _ _ (by omega)]; exact c3
    · exact c4.fr (f _ _ (by omega)) (fun k => f _ _ (by omega))
  · have g : ∀ q k, pdJ j ≤ q → q < pdJ j + 5 → gI τ q k = gI σ q k := fun q k x y => f q k (by unfold pdJ at x y ⊢; omega)
    have eP : (setPu w p x).pu j = w.pu j := puh_ne e
    refine ⟨?_, ?_, ?_, ?_, fun hf => ?_⟩
    · rw [g _ _ (by omega) (by omega), eP]; exact c1
    · rw [g _ _ (by omega) (by omega)]; exact c2
    · rw [g _ _ (by omega) (by omega)]; exact c3
    · exact c4.fr (g _ _ (by omega) (by omega)) (fun k => g _ _ (by omega) (by omega))
    · rw [g _ _ (by omega) (by omega)] at hf
      rw [law_ext (w := w) (w' := setPu w p x) (j := j) rfl rfl rfl eP rfl rfl rfl rfl rfl rfl, wth_ext (w := w) (w' := setPu w p x) (j := j) rfl rfl rfl eP rfl]
      exact (c5 hf).fr (g _ _ (by omega) (by omega)) (fun q k x y => g q k (by omega) (by omega))
theorem give_C {d n : Nat} {σ : St} {w : Wd} {a1 a2 : Int32} (hn : FIX ≤ n) (hd : 2 ≤ d) (hR : RC σ n w) (hw : WW w) : Cn d n M_X11_give md_X11_give [.ref 0, .int a1, .int a2] σ (liI (fun v σ' => v = giveV w a1 a2 ∧ RC σ' n (giveW w a1 a2))) := by
  have hN := hw.N
  have hP := hw.P
  have hpw := pow10 hN
  have no : ¬ (inP a1 w.P ∧ inP a2 (2 ^ w.N)) → (fun (v : Int32) (σ' : St) => v = giveV w a1 a2 ∧ RC σ' n (giveW w a1 a2)) 0 σ := fun h => by
    unfold giveV giveW; rw [if_neg h, if_neg h]; exact ⟨rfl, hR⟩
  refine S_X11_give hn (by omega) ⟨fun h => no (fun z => ze.mp h ((hR.1.per hw).mpr z.1)), fun h => ⟨fun h2 => no (fun z => ze.mp h2 (bunC.mpr ⟨z.2.1, by have := z.2.2; omega⟩)), fun h2 => ?_⟩⟩
  have g1 := (hR.1.per hw).mp h
  have g2 := bunC.mp h2
  obtain ⟨p, hp, rfl⟩ := inP_ex (by omega) g1
  obtain ⟨x, hx, rfl⟩ := inP_ex (by decide) g2
  rw [hR.1.1.N, shrN (by omega) (by omega)]
  have hq : x / 2 ^ w.N ≤ x := Nat.div_le_self _ _
  have ez : nI (x / 2 ^ w.N) = 0 ↔ x < 2 ^ w.N := by
    rw [nI_z (by generalize x / 2 ^ w.N = q at hq; omega)]
    exact Nat.div_eq_zero_iff_lt (Nat.two_pow_pos _)
  rw [ez]
  refine ⟨fun h3 => ?_, fun h3 => no (fun z => h3 (by have := z.2.2; rw [nI_toInt (by omega)] at this; omega))⟩
  have g3 : inP (nI x) (2 ^ w.N) := inP_nI h3 (by omega)
  unfold giveV giveW
  rw [if_pos ⟨g1, g3⟩, if_pos ⟨g1, g3⟩, tn_nI (by omega), tn_nI (by omega), nI_clamp (by omega)]
  obtain ⟨b1, b2, b3⟩ := hR.1.2.2.1 p hp
  refine ⟨vp_in_nI (by omega) (by decide), pdJ p, b1, b2, rfl, ?_⟩
  have f : ∀ q k, ¬ (q = pdJ p ∧ k = 2) → gI (sI σ (pdJ p) 2 (nI x)) q k = gI σ q k := fun q k hq => gI_sI_ne (by omega)
  have lo : ∀ q k, q < 88 → gI (sI σ (pdJ p) 2 (nI x)) q k = gI σ q k := fun q k hq => f q k (by unfold pdJ; omega)
  obtain ⟨⟨a1, a2, a3, a4⟩, hK, hT⟩ := hR
  refine ⟨⟨a1.fr (fun k _ => lo _ _ (by omega)) (fun q k x y => lo _ _ (by omega)), by rw [lo _ _ (by omega)]; exact a2, fun j hj => ?_, a4⟩, hK.w rfl rfl (fun q k hq => lo _ _ (by omega)), hT.mv rfl rfl rfl rfl rfl (fun q k hq => lo _ _ (by omega))⟩
  obtain ⟨d1, d2, c1, c2, c3, c4, c5⟩ := a3 j hj
  have el : law (setHd w p x) j j = law w j j := law_ext (w := w) (w' := setHd w p x) (j := j) rfl rfl rfl rfl rfl rfl rfl rfl rfl rfl
  have ev : wth (setHd w p x) j j = wth w j j := wth_ext (w := w) (w' := setHd w p x) (j := j) rfl rfl rfl rfl rfl
  refine ⟨d1, d2, by rw [f _ _ (by omega)]; exact c1, by rw [f _ _ (by omega)]; exact c2, ?_, c4.fr (f _ _ (by omega)) (fun k => f _ _ (by unfold pdJ; omega)), fun hf => ?_⟩
  · rw [gI_sI]
    show _ = nI (puh w.hd p x j)
    by_cases e : j = p
    · rw [if_pos ⟨by rw [e], rfl⟩, e, puh_same]
    · rw [if_neg (fun z => e (by have := z.1; unfold pdJ at this; omega)), puh_ne e]; exact c3
  · rw [f _ _ (by omega)] at hf
    show TbC _ (pdJ j) w.N (law (setHd w p x) j j) (wth (setHd w p x) j j)
    rw [el, ev]
    exact (c5 hf).fr (f _ _ (by omega)) (fun q k x y => f _ _ (by unfold pdJ at x y ⊢; omega))
theorem fault_C {d n : Nat} {σ : St} {w : Wd} (hn : FIX ≤ n) (hR : RC σ n w) : Cn d n M_X11_fault md_X11_fault [.ref 0] σ (liI (fun v σ' => v = Int32.ofInt w.fa ∧ RC σ' n w)) := S_X11_fault hn ⟨hR.2.2.2.2.2, hR⟩
