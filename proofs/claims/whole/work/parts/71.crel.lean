/-! ===== the component between calls; all fresh; a way run ===== -/
/-- one of the people: seat j, wishes of row r -/
def PX (σ : St) (w : Wd) (p r j : Nat) (hv : Int32) : Prop := gI σ p 0 = nI (w.pu j) ∧ gI σ p 1 = nI (w.dn j) ∧ gI σ p 2 = hv ∧ PC σ p (w.ws r) ∧ (¬ gI σ p 5 = 0 → TbC σ p w.N (law w r j) (wth w r j))
theorem PC.fr {σ σ' : St} {p : Nat} {S : List Stm} (h : PC σ p S) (h1 : gI σ' p 4 = gI σ p 4) (h2 : ∀ k, gI σ' (p + 1) k = gI σ (p + 1) k) : PC σ' p S := ⟨by rw [h1]; exact h.1, h.2.1, fun i c hi => by rw [h2]; exact h.2.2 i c hi⟩
theorem PX.fr {σ σ' : St} {w : Wd} {p r j : Nat} {hv : Int32} (h : PX σ w p r j hv) (h1 : ∀ q k, p ≤ q → q < p + 5 → gI σ' q k = gI σ q k) : PX σ' w p r j hv := by
  obtain ⟨a1, a2, a3, a4, a5⟩ := h
  refine ⟨by rw [h1 _ _ (by omega) (by omega)]; exact a1, by rw [h1 _ _ (by omega) (by omega)]; exact a2, by rw [h1 _ _ (by omega) (by omega)]; exact a3, a4.fr (h1 _ _ (by omega) (by omega)) (fun k => h1 _ _ (by omega) (by omega)), fun hf => ?_⟩
  rw [h1 _ _ (by omega) (by omega)] at hf
  exact (a5 hf).fr (h1 _ _ (by omega) (by omega)) (fun q k x y => h1 q k (by omega) (by omega))
/-- plan and seats -/
def SX (σ : St) (n : Nat) (w : Wd) (pd rr : Nat → Nat) (hv : Nat → Int32) : Prop := RP σ w ∧ gI σ 3 2 = nI w.P ∧ (∀ j, j < w.P → gR σ j = some (pd j) ∧ IsP n (pd j) ∧ PX σ w (pd j) (rr j) j (hv j)) ∧ ∀ i j, i < w.P → j < w.P → i ≠ j → pd i + 5 ≤ pd j ∨ pd j + 5 ≤ pd i
def tR (w : Wd) (rr : Nat → Nat) : Tb := (fun j => law w (rr j) j, fun j => wth w (rr j) j)
theorem tR_w (w : Wd) (rr : Nat → Nat) : vW (tR w rr).2 := fun j b => wth_rng w (rr j) j b
theorem SX.fr {σ σ' : St} {n : Nat} {w : Wd} {pd rr : Nat → Nat} {hv : Nat → Int32} (h : SX σ n w pd rr hv) (h1 : RP σ' w) (h2 : gI σ' 3 2 = gI σ 3 2) (h3 : gR σ' = gR σ) (h4 : ∀ q k, 83 ≤ q → gI σ' q k = gI σ q k) : SX σ' n w pd rr hv := by
  obtain ⟨a1, a2, a3, a4⟩ := h
  refine ⟨h1, by rw [h2]; exact a2, fun j hj => ?_, a4⟩
  obtain ⟨b1, b2, b3⟩ := a3 j hj
  have b5 : 83 ≤ pd j := b2.1
  exact ⟨by rw [h3]; exact b1, b2, b3.fr (fun q k x y => h4 q k (by omega))⟩
theorem SX.st {m : Md} {σ σ' : St} {n : Nat} {w : Wd} {pd rr : Nat → Nat} {hv : Nat → Int32} (h : SX σ n w pd rr hv) (hf : Fr m σ σ') (ho : okC m = true) : SX σ' n w pd rr hv := by
  simp only [okC, Bool.and_eq_true] at ho
  obtain ⟨o1, o2, o3, o4⟩ := ho
  exact h.fr (h.1.st hf o1) (hf.cell o2) (funext fun k => hf.2.2 k (rowFree_spec o3 k)) (fun q k hq => hf.per o4 hq k)
theorem fresh_low {p q k : Nat} (hp : 83 ≤ p) (hq : q < 83) (h : q ≠ 17 ∧ q ≠ 2) : ¬ inMd (md_X5_freshen p) q k := by
  rintro (z | z | z | z)
  · simp [md_X5_freshen, mdP] at z; omega
  · simp [md_X5_freshen, mdP] at z; omega
  · simp [md_X5_freshen, mdP] at z
  · simp [md_X5_freshen, mdP] at z
theorem fresh_18 {p k : Nat} (hp : 83 ≤ p) : ¬ inMd (md_X5_freshen p) 18 k := fresh_low hp (by decide) (by decide)
/-- who has no seat is left alone -/
def UN (σ σ' : St) (w : Wd) (pd : Nat → Nat) : Prop := ∀ q k, 83 ≤ q → (∀ j, j < w.P → q < pd j ∨ pd j + 5 ≤ q) → gI σ' q k = gI σ q k
theorem UN.st {m : Md} {σ σ1 σ2 : St} {w : Wd} {pd : Nat → Nat} (h : UN σ σ1 w pd) (hf : Fr m σ1 σ2) (ho : noP m = true) : UN σ σ2 w pd := fun q k hq hu => by rw [hf.per ho hq]; exact h q k hq hu
/-- one of the people is fresh now -/
theorem SX.fresh1 {σ σ' : St} {n : Nat} {w : Wd} {pd rr : Nat → Nat} {hv : Nat → Int32} {j : Nat} (h : SX σ n w pd rr hv) (hj : j < w.P) (hf : Fr (md_X5_freshen (pd j)) σ σ') (hT : TbC σ' (pd j) w.N (law w (rr j) j) (wth w (rr j) j)) : SX σ' n w pd rr hv := by
  obtain ⟨a1, a2, a3, a4⟩ := h
  have hpj : 83 ≤ pd j := (a3 j hj).2.1.1
  have fl : ∀ q k, q < 83 → q ≠ 17 → q ≠ 2 → gI σ' q k = gI σ q k := fun q k x y z => hf.1 q k (fresh_low hpj x ⟨y, z⟩)
  refine ⟨a1.fr (fun k _ => fl _ _ (by omega) (by omega) (by omega)) (fun q k x y => fl _ _ (by omega) (by omega) (by omega)), by rw [fl _ _ (by omega) (by omega) (by omega)]; exact a2, fun i hi => ?_, a4⟩
  obtain ⟨b1, b2, b3⟩ := a3 i hi
  have hpi : 83 ≤ pd i := b2.1
  refine ⟨by rw [hf.2.2 i (fresh_18 hpj)]; exact b1, b2, ?_⟩
  by_cases e : i = j
  · subst e
    obtain ⟨c1, c2, c3, c4, c5⟩ := b3
    have g : ∀ k, k ≠ 5 → k ≠ 8 → gI σ' (pd i) k = gI σ (pd i) k := fun k x y => hf.1 _ _ (freshen_not hpj hpj (Or.inl ⟨rfl, x, y⟩))
    exact ⟨by rw [g _ (by decide) (by decide)]; exact c1, by rw [g _ (by decide) (by decide)]; exact c2, by rw [g _ (by decide) (by decide)]; exact c3, c4.fr (g _ (by decide) (by decide)) (fun k => hf.1 _ _ (freshen_not hpj (by omega) (Or.inr (Or.inl rfl)))), fun _ => hT⟩
  · have hd := a4 i j hi hj e
    exact b3.fr (fun q k x y => hf.1 _ _ (freshen_not hpj (by omega) (by omega)))
theorem freshened_spec {d n : Nat} {σ : St} {w : Wd} {pd rr : Nat → Nat} {hv : Nat → Int32} {j : Nat} (hn : FIX ≤ n) (hd : 7 ≤ d) (hS : SX σ n w pd rr hv) (hw : WW w) (hj : j < w.P) : Cn d n M_X1_freshened md_X1_freshened [.ref 3, .int (nI j)] σ (liR (fun x σ' => x = pd j ∧ SX σ' n w pd rr hv ∧ CJ σ' n w pd (tR w rr).1 (tR w rr).2 j ∧ ∀ q k, q < 83 → q ≠ 17 → q ≠ 2 → gI σ' q k = gI σ q k)) := by
  have hP := hw.P
  obtain ⟨b1, b2, b3⟩ := hS.2.2.1 j hj
  have hpj : 83 ≤ pd j := b2.1
  have hvj : vp_in (nI j) 8 := vp_in_nI (by omega) (by decide)
  refine S_X1_freshened hn (by omega) ⟨hvj, pd j, by rw [nI_clamp (by omega)]; exact b1, b2, _, freshen_spec (r := rr j) (j := j) hn (by omega) hw b2 hS.1 b3.1 b3.2.1 b3.2.2.2.1 b3.2.2.2.2, ?_⟩
  rintro σ1 ⟨hT, hf5⟩ hf
  have hS1 := hS.fresh1 hj hf hT
  refine ⟨hvj, pd j, by rw [nI_clamp (by omega)]; exact (hS1.2.2.1 j hj).1, b2, rfl, hS1, ⟨(hS1.2.2.1 j hj).1, b2, (hS1.2.2.1 j hj).2.2.1, hT⟩, fun q k x y z => hf.1 q k (fresh_low hpj x ⟨y, z⟩)⟩
theorem freshenAll_spec {d n : Nat} {σ : St} {w : Wd} {pd rr : Nat → Nat} {hv : Nat → Int32} (hn : FIX ≤ n) (hd : 7 ≤ d) (hS : SX σ n w pd rr hv) (hw : WW w) : Cn d n M_X1_freshenAll md_X1_freshenAll [.ref 3] σ (liV (fun σ' => SX σ' n w pd rr hv ∧ CX σ' n w pd (tR w rr).1 (tR w rr).2 ∧ (∀ q k, q < 83 → q ≠ 17 → q ≠ 2 → gI σ' q k = gI σ q k) ∧ gR σ' = gR σ ∧ UN σ σ' w pd)) := by
  have hP := hw.P
  refine S_X1_freshenAll hn (by omega) ?_
  generalize hQ : (fun (σ' : St) => SX σ' n w pd rr hv ∧ CX σ' n w pd (tR w rr).1 (tR w rr).2 ∧ (∀ q k, q < 83 → q ≠ 17 → q ≠ 2 → gI σ' q k = gI σ q k) ∧ gR σ' = gR σ ∧ UN σ σ' w pd) = Q
  have loop : ∀ j, j ≤ w.P → ∀ σ1 : St, SX σ1 n w pd rr hv → (∀ i, i < j → TbC σ1 (pd i) w.N (law w (rr i) i) (wth w (rr i) i)) → (∀ q k, q < 83 → q ≠ 17 → q ≠ 2 → gI σ1 q k = gI σ q k) → gR σ1 = gR σ → UN σ σ1 w pd → K_X1_freshenAll_2 d n σ Q σ1 (nI j) := by
    refine up_ind (N := w.P) ?_ ?_
    · intro σ1 m1 m2 m3 m4 m5
      refine B_X1_freshenAll_2 hn (by omega) ⟨fun _ => ?_, fun z => absurd (by rw [m1.2.1]; exact nI_le (Nat.le_refl _) (by omega)) z⟩
      rw [← hQ]
      exact ⟨m1, ⟨m1.1, m1.2.1, fun j hj => ⟨(m1.2.2.1 j hj).1, (m1.2.2.1 j hj).2.1, (m1.2.2.1 j hj).2.2.1, m2 j hj⟩⟩, m3, m4, m5⟩
    · intro j hj ih σ1 m1 m2 m3 m4 m5
      obtain ⟨b1, b2, b3⟩ := m1.2.2.1 j hj
      have hpj : 83 ≤ pd j := b2.1
      refine B_X1_freshenAll_2 hn (by omega) ⟨fun z => absurd z (by rw [m1.2.1]; exact nI_ge hj (by omega)), fun _ => ⟨vp_in_nI (by omega) (by decide), pd j, by rw [nI_clamp (by omega)]; exact b1, b2, _, freshen_spec (r := rr j) (j := j) hn (by omega) hw b2 m1.1 b3.1 b3.2.1 b3.2.2.2.1 b3.2.2.2.2, ?_⟩⟩
      rintro σ2 ⟨hT, hf5⟩ hf
      rw [nI_1]
      refine ih σ2 (m1.fresh1 hj hf hT) (fun i hi => ?_) (fun q k x y z => by rw [hf.1 q k (fresh_low hpj x ⟨y, z⟩)]; exact m3 q k x y z) (by rw [← m4]; exact funext fun k => hf.2.2 k (fresh_18 hpj)) (fun q k hq hu => by rw [hf.1 q k (freshen_not hpj hq (by have := hu j hj; omega))]; exact m5 q k hq hu)
      by_cases e : i = j
      · rw [e]; exact hT
      · have hi' : i < w.P := by omega
        have hpi : 83 ≤ pd i := (m1.2.2.1 i hi').2.1.1
        have hd := m1.2.2.2 i j hi' hj e
        exact (m2 i (by omega)).fr (hf.1 _ _ (freshen_not hpj hpi (by omega))) (fun q k x y => hf.1 _ _ (freshen_not hpj (by omega) (by omega)))
  exact loop 0 (by omega) σ hS (fun i h => absurd h (by omega)) (fun _ _ _ _ _ => rfl) rfl (fun _ _ _ _ => rfl)
/-- the market -/
def MK (σ : St) (w : Wd) : Prop := (gI σ 26 0 = 0 ∧ gI σ 27 0 = 0) ∧ gI σ 6 3 = nI w.sp ∧ ∀ l, l < 10 → gI σ 24 l = nI (w.pr l)
theorem MK.mv {σ σ' : St} {w : Wd} (h : MK σ w) (h1 : gI σ' 26 0 = 0 ∧ gI σ' 27 0 = 0) (h2 : gI σ' 6 3 = gI σ 6 3) (h3 : ∀ k, gI σ' 24 k = gI σ 24 k) : MK σ' w := ⟨h1, by rw [h2]; exact h.2.1, fun l hl => by rw [h3]; exact h.2.2 l hl⟩
theorem MK.st {m : Md} {σ σ' : St} {w : Wd} (h : MK σ w) (hf : Fr m σ σ') (ho : (rowFree m 26 && (rowFree m 27 && (cellFree m 6 3 && rowFree m 24))) = true) : MK σ' w := by
  simp only [Bool.and_eq_true] at ho
  obtain ⟨o1, o2, o3, o4⟩ := ho
  exact h.mv (by rw [hf.row o1, hf.row o2]; exact h.1) (hf.cell o3) (hf.row o4)
theorem MK.st0 {m : Md} {σ σ' : St} {w : Wd} (h : MK σ w) (hf : Fr m σ σ') (h1 : gI σ' 26 0 = 0 ∧ gI σ' 27 0 = 0) (ho : (cellFree m 6 3 && rowFree m 24) = true) : MK σ' w := by
  simp only [Bool.and_eq_true] at ho
  exact h.mv h1 (hf.cell ho.1) (hf.row ho.2)
theorem ways_spec {d n : Nat} {σ : St} {w : Wd} {pd rr : Nat → Nat} {hv : Nat → Int32} {k : Nat} (hn : FIX ≤ n) (hd : 8 ≤ d) (hS : SX σ n w pd rr hv) (hK : MK σ w) (hw : WW w) (hk : k < 6) (hh : k = 5 → ∀ j, hv j = nI (w.hd j)) : Cn d n M_X10_run md_X10_run [.ref 8, .int (nI k)] σ (liV (fun σ' => SX σ' n w pd rr hv ∧ MK σ' w ∧ CW σ' n w pd (tR w rr) (wayT w (tR w rr) k) ∧ UN σ σ' w pd)) := by
  have hP := hw.P
  have hV := tR_w w rr
  have hk2 : (nI k).toInt = k := nI_toInt (by omega)
  refine S_X10_run hn (by omega) ⟨_, freshenAll_spec hn (by omega) hS hw, ?_⟩
  rintro σ1 ⟨s1, x1, f1, r1, u1⟩ hf1
  have k1 : MK σ1 w := hK.mv (by rw [f1 _ _ (by omega) (by omega) (by omega), f1 _ _ (by omega) (by omega) (by omega)]; exact hK.1) (f1 _ _ (by omega) (by omega) (by omega)) (fun k => f1 _ _ (by omega) (by omega) (by omega))
  refine ⟨_, fill_spec (ar_34 hn) (by decide), ?_⟩
  rintro σ2 ⟨p1, p2, p3⟩ hf2
  have s2 := s1.st hf2 (by decide)
  have x2 := x1.st hf2 (by decide)
  have k2 := k1.st hf2 (by decide)
  refine ⟨_, countSpare_spec (t := tR w rr) (h := fun _ => 0) hn (by omega) x2 (fun p hp => p1 p (by omega)) hw (zero_ok w), fun σ3 w3 hf3 => ?_⟩
  have s3 := s2.st hf3 (by decide)
  have k3 := k2.st hf3 (by decide)
  have u3 := (u1.st hf2 (by decide)).st hf3 (by decide)
  have wt : ∀ j, j = k → wayT w (tR w rr) k = wayT w (tR w rr) j := fun j e => by rw [e]
  refine ⟨fun e => ?_, fun e => ?_, fun e => ?_, fun e => ?_, fun e => ?_, fun e => ?_⟩
  · have ek : wayT w (tR w rr) k = buyB w (tR w rr).1 (tR w rr).2 w.pr := wt 0 (by omega)
    rw [ek]
    refine ⟨_, byPrices_spec hn (by omega) ⟨w3.1, k3⟩ hw hV, fun σ4 b4 hf4 => ⟨s3.st hf4 (by decide), k3.st0 hf4 b4.2.1.z (by decide), b4.1, u3.st hf4 (by decide)⟩⟩
  · have ek : wayT w (tR w rr) k = addsN w (tR w rr) false 81 false (buyB w (tR w rr).1 (tR w rr).2 (mndC w (tR w rr))) := wt 1 (by omega)
    rw [ek]
    refine ⟨_, mended_spec hn (by omega) ⟨w3.1, k3⟩ hw hV, fun σ4 ⟨b4, z4⟩ hf4 => ⟨s3.st hf4 (by decide), k3.st0 hf4 z4 (by decide), b4, u3.st hf4 (by decide)⟩⟩
  · have ek : wayT w (tR w rr) k = addsN w (tR w rr) true 81 false (fun _ => 0) := wt 2 (by omega)
    rw [ek]
    exact ⟨_, byTurns_spec hn (by omega) w3 hw (zero_ok w), fun σ4 b4 hf4 => ⟨s3.st hf4 (by decide), k3.st hf4 (by decide), b4, u3.st hf4 (by decide)⟩⟩
  · have ek : wayT w (tR w rr) k = bidN w (tR w rr) 80 (fun _ => false) (fun _ => 0) := wt 3 (by omega)
    rw [ek]
    exact ⟨_, byBids_spec hn (by omega) w3 hw hV, fun σ4 b4 hf4 => ⟨s3.st hf4 (by decide), k3.st hf4 (by decide), b4, u3.st hf4 (by decide)⟩⟩
  · have ek : wayT w (tR w rr) k = serN w (tR w rr) w.P (fun _ => 0) := wt 4 (by omega)
    rw [ek]
    exact ⟨_, serial_spec hn (by omega) w3 hw hV, fun σ4 b4 hf4 => ⟨s3.st hf4 (by decide), k3.st hf4 (by decide), b4, u3.st hf4 (by decide)⟩⟩
  · have ek : wayT w (tR w rr) k = w.hd := wt 5 (by omega)
    rw [ek]
    exact ⟨_, byHand_spec hn (by omega) w3.1 hw (fun p hp => by rw [← hh (by omega) p]; exact (s3.2.2.1 p hp).2.2.2.2.1), fun σ4 b4 hf4 => ⟨s3.st hf4 (by decide), k3.st hf4 (by decide), b4, u3.st hf4 (by decide)⟩⟩
