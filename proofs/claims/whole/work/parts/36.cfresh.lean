/-! ===== the component: what somebody thinks of each bundle ===== -/
def keyN (V : Nat → Int) (b : Nat) : Nat := (1000000 - V b).toNat * 1024 + b
/-- a person's tables -/
def TbC (σ : St) (p N : Nat) (L : Nat → Bool) (V : Nat → Int) : Prop :=
  (∀ b, b < 2 ^ N → (gI σ (p + 2) b).toInt = V b ∧ gI σ (p + 3) b = if L b = true then 1 else 0) ∧ ∃ (m : Nat) (β : Nat → Nat), gI σ p 8 = nI m ∧ m ≤ 1024 ∧ (∀ r, r < m → β r < 2 ^ N ∧ L (β r) = true ∧ gI σ (p + 4) r = nI (keyN V (β r))) ∧ (∀ r r', r < r' → r' < m → keyN V (β r) < keyN V (β r')) ∧ ∀ b, b < 2 ^ N → L b = true → ∃ r, r < m ∧ β r = b
theorem TbC.fr {σ σ' : St} {p N : Nat} {L : Nat → Bool} {V : Nat → Int} (h : TbC σ p N L V) (h1 : gI σ' p 8 = gI σ p 8) (h2 : ∀ q k, p + 2 ≤ q → q ≤ p + 4 → gI σ' q k = gI σ q k) : TbC σ' p N L V := by
  obtain ⟨a1, m, β, a2, a3, a4, a5, a6⟩ := h
  refine ⟨fun b hb => ?_, m, β, by rw [h1]; exact a2, a3, fun r hr => ?_, a5, a6⟩
  · rw [h2 (p + 2) b (by omega) (by omega), h2 (p + 3) b (by omega) (by omega)]; exact a1 b hb
  · rw [h2 (p + 4) r (by omega) (by omega)]; exact a4 r hr
theorem law_lt {w : Wd} {r j b : Nat} (h : law w r j b = true) : bar w r j b = 0 := of_decide_eq_true h
theorem wth_rng (w : Wd) (r j b : Nat) : -1000000 ≤ wth w r j b ∧ wth w r j b ≤ 1000000 := wthL_rng _ _ _
theorem keyN_inj {V : Nat → Int} {a b : Nat} (ha : a < 1024) (hb : b < 1024) (h : keyN V a = keyN V b) : a = b := by unfold keyN at h; omega
theorem keyN_lt {V : Nat → Int} {b : Nat} (h : -1000000 ≤ V b ∧ V b ≤ 1000000) (hb : b < 1024) : keyN V b < 2 ^ 31 := by unfold keyN; omega
theorem freshen_not {p q k : Nat} (hp : 83 ≤ p) (hq : 83 ≤ q) (h : (q = p ∧ k ≠ 5 ∧ k ≠ 8) ∨ q = p + 1 ∨ q < p ∨ p + 5 ≤ q) : ¬ inMd (md_X5_freshen p) q k := by
  rintro (z | z | z | z)
  · simp [md_X5_freshen, mdP] at z; omega
  · simp [md_X5_freshen, mdP] at z; omega
  · simp [md_X5_freshen, mdP] at z
  · simp [md_X5_freshen, mdP] at z
theorem sort_not {p q k : Nat} (hq : q ≠ p + 4) : ¬ inMd (md_X5_sortRanked p) q k := by
  rintro (z | z | z | z)
  · simp [md_X5_sortRanked, mdP] at z; omega
  · simp [md_X5_sortRanked, mdP] at z
  · simp [md_X5_sortRanked, mdP] at z
  · simp [md_X5_sortRanked, mdP] at z
theorem key_eq {x : Int32} {v : Int} {b : Nat} (hx : x.toInt = v) (hv : -1000000 ≤ v ∧ v ≤ 1000000) (hb : b < 1024) : (1000000 - x) * 1024 + nI b = nI ((1000000 - v).toNat * 1024 + b) := by
  have ev : x = Int32.ofInt v := ii hx
  have e1 : (1000000 : Int32) = Int32.ofInt 1000000 := by decide
  have e2 : (1024 : Int32) = Int32.ofInt 1024 := by decide
  have e3 : ∀ n : Nat, nI n = Int32.ofInt n := fun n => Int32.ofInt_eq_ofNat.symm
  rw [ev, e1, e2, e3, e3, ← Int32.ofInt_sub, ← Int32.ofInt_mul, ← Int32.ofInt_add]
  congr 1
  have : ((1000000 - v).toNat : Int) = 1000000 - v := Int.toNat_of_nonneg (by omega)
  rw [Int.natCast_add, Int.natCast_mul, this]; rfl
theorem freshen_spec {d n : Nat} {σ : St} {w : Wd} {r j p : Nat} (hn : FIX ≤ n) (hd : 6 ≤ d) (hw : WW w) (hp : IsP n p) (hR : RP σ w) (hmo : gI σ p 0 = nI (w.pu j)) (hdn : gI σ p 1 = nI (w.dn j)) (hpc : PC σ p (w.ws r)) (hfr : ¬ gI σ p 5 = 0 → TbC σ p w.N (law w r j) (wth w r j)) :
    Cn d n M_X5_freshen (md_X5_freshen p) [.ref p, .ref 2] σ (liV (fun σ' => TbC σ' p w.N (law w r j) (wth w r j) ∧ ¬ gI σ' p 5 = 0)) := by
  have hN := hw.N
  have hpw := pow10 hN
  have hp83 : 83 ≤ p := hp.1
  refine S_X5_freshen hn (by omega) hp ⟨fun h0 => ?_, fun h0 => ⟨hfr h0, h0⟩⟩
  generalize hL : law w r j = L
  generalize hV : wth w r j = V
  have hVr : ∀ b, -1000000 ≤ V b ∧ V b ≤ 1000000 := fun b => by rw [← hV]; exact wth_rng w r j b
  generalize hQ : (fun σ' : St => TbC σ' p w.N L V ∧ ¬ gI σ' p 5 = 0) = Q
  rw [gI_sI_ne (by omega), hR.N, shl1 (by omega)]
  -- the end: sorted
  have fin : ∀ σ1 : St, ∀ m (β : Nat → Nat), gI σ1 p 8 = nI m → m ≤ 1024 → (∀ b, b < 2 ^ w.N → (gI σ1 (p + 2) b).toInt = V b ∧ gI σ1 (p + 3) b = if L b = true then 1 else 0) → (∀ x, x < m → β x < 2 ^ w.N ∧ L (β x) = true ∧ gI σ1 (p + 4) x = nI (keyN V (β x))) → (∀ x y, x < y → y < m → β x < β y) → (∀ b, b < 2 ^ w.N → L b = true → ∃ x, x < m ∧ β x = b) →
      ∃ Q2 : St → Prop, Cn (d - 1) n M_X5_sortRanked (md_X5_sortRanked p) [.ref p] σ1 (liV Q2) ∧ ∀ (σ4 : St), Q2 σ4 → Fr (md_X5_sortRanked p) σ1 σ4 → Q (sI σ4 p 5 1) := by
    intro σ1 m β h1 h2 h3 h4 h5 h6
    refine ⟨_, sort_spec hp h1 h2, ?_⟩
    rintro σ4 ⟨hperm, hsort⟩ hf
    have nin : ∀ q k, q ≠ p + 4 → ¬ inMd (md_X5_sortRanked p) q k := fun q k hq => sort_not hq
    rw [← hQ]
    refine ⟨?_, by rw [gI_sI_same]; decide⟩
    have key4 : ∀ x, x < m → ∃ y, y < m ∧ gI σ4 (p + 4) x = nI (keyN V (β y)) := by
      intro x hx
      have c1 := cntF_ge1 (f := gI σ4 (p + 4)) (x := gI σ4 (p + 4) x) hx rfl
      rw [hperm] at c1
      obtain ⟨y, hy, e⟩ := cntF_pos c1
      exact ⟨y, hy, by rw [← e, (h4 y hy).2.2]⟩
    obtain ⟨γ, hγ⟩ : ∃ γ : Nat → Nat, ∀ x, x < m → γ x < m ∧ gI σ4 (p + 4) x = nI (keyN V (β (γ x))) := by
      refine ⟨fun x => if hx : x < m then (key4 x hx).choose else 0, fun x hx => ?_⟩
      simp only [dif_pos hx]
      exact (key4 x hx).choose_spec
    refine ⟨fun b hb => ?_, m, fun x => β (γ x), ?_, h2, fun x hx => ?_, fun x y hxy hy => ?_, fun b hb hLb => ?_⟩
    · rw [gI_sI_ne (by omega), gI_sI_ne (by omega), hf.1 _ _ (nin _ _ (by omega)), hf.1 _ _ (nin _ _ (by omega))]; exact h3 b hb
    · rw [gI_sI_ne (by omega), hf.1 _ _ (nin _ _ (by omega))]; exact h1
    · obtain ⟨g1, g2⟩ := hγ x hx
      rw [gI_sI_ne (by omega)]
      exact ⟨(h4 _ g1).1, (h4 _ g1).2.1, g2⟩
    · obtain ⟨g1, g2⟩ := hγ x (by omega)
      obtain ⟨k1, k2⟩ := hγ y hy
      have b1 := (h4 _ g1).1
      have b2 := (h4 _ k1).1
      have l1 := keyN_lt (hVr (β (γ x))) (by omega)
      have l2 := keyN_lt (hVr (β (γ y))) (by omega)
      have hs := hsort x y hxy hy
      rw [g2, k2, nI_toInt l1, nI_toInt l2] at hs
      rcases Nat.lt_or_ge (keyN V (β (γ x))) (keyN V (β (γ y))) with z | z
      · exact z
      · exfalso
        have e : keyN V (β (γ x)) = keyN V (β (γ y)) := by omega
        have c2 := cntF_ge2 (f := gI σ4 (p + 4)) (x := nI (keyN V (β (γ x)))) hxy hy g2 (by rw [k2, e])
        rw [hperm] at c2
        have c3 : cntF (gI σ1 (p + 4)) (nI (keyN V (β (γ x)))) m ≤ 1 := by
          refine cntF_le1 (fun u v huv hv e1 e2 => ?_)
          rw [(h4 u (by omega)).2.2] at e1
          rw [(h4 v hv).2.2] at e2
          have q1 := (h4 u (by omega)).1
          have q2 := (h4 v hv).1
          have w1 := keyN_lt (hVr (β u)) (by omega)
          have w2 := keyN_lt (hVr (β v)) (by omega)
          have e3 := (nI_eq w1 w2).mp (e1.trans e2.symm)
          have e4 := keyN_inj (by omega) (by omega) e3
          have := h5 u v huv hv
          omega
        omega
    · obtain ⟨x, hx, ex⟩ := h6 b hb hLb
      have c1 := cntF_ge1 (f := gI σ1 (p + 4)) (x := nI (keyN V b)) hx (by rw [(h4 x hx).2.2, ex])
      rw [← hperm] at c1
      obtain ⟨y, hy, ey⟩ := cntF_pos c1
      obtain ⟨g1, g2⟩ := hγ y hy
      refine ⟨y, hy, ?_⟩
      show β (γ y) = b
      have b1 := (h4 _ g1).1
      have w1 := keyN_lt (hVr (β (γ y))) (by omega)
      have w2 := keyN_lt (hVr b) (by omega)
      exact keyN_inj (by omega) (by omega) ((nI_eq w1 w2).mp (g2.symm.trans ey))
  -- bundle by bundle
  have loop : ∀ b, b ≤ 2 ^ w.N → ∀ σ1 : St, RP σ1 w → gI σ1 p 0 = nI (w.pu j) → gI σ1 p 1 = nI (w.dn j) → PC σ1 p (w.ws r) → ∀ m (β : Nat → Nat), gI σ1 p 8 = nI m → m ≤ b → (∀ b', b' < b → (gI σ1 (p + 2) b').toInt = V b' ∧ gI σ1 (p + 3) b' = if L b' = true then 1 else 0) → (∀ x, x < m → β x < b ∧ L (β x) = true ∧ gI σ1 (p + 4) x = nI (keyN V (β x))) → (∀ x y, x < y → y < m → β x < β y) → (∀ b', b' < b → L b' = true → ∃ x, x < m ∧ β x = b') → K_X5_freshen_25 d n σ Q p σ1 (nI (2 ^ w.N)) (nI b) := by
    refine up_ind (N := 2 ^ w.N) ?_ ?_
    · intro σ1 h1 h2 h3 h4 m β h5 h6 h7 h8 h9 h10
      refine B_X5_freshen_25 hn (by omega) hp ⟨fun _ => fin σ1 m β h5 (by omega) h7 h8 h9 h10, fun h => absurd (nI_le (Nat.le_refl _) (by omega)) h⟩
    · intro b hb ih σ1 h1 h2 h3 h4 m β h5 h6 h7 h8 h9 h10
      have hvb : vp_in (nI b) 1024 := vp_in_nI (by omega) (by decide)
      refine B_X5_freshen_25 hn (by omega) hp ⟨fun h => absurd h (nI_ge hb (by omega)), fun _ => ⟨fun h => absurd h (nI_ge (b := 1024) (by omega) (by decide)), fun _ => ⟨_, ask_spec hn (by omega) hw (by omega) hp h1 h2 h3 h4, ?_⟩⟩⟩
      rintro σ2 ⟨ht, hbar⟩ hf
      rw [hV] at ht
      have hbl : bar w r j b < 2 ^ 31 := by unfold bar; repeat' split
                                            all_goals decide
      have hLb : (L b = true) ↔ bar w r j b = 0 := by rw [← hL]; exact ⟨fun h => of_decide_eq_true h, fun h => decide_eq_true h⟩
      have fp : ∀ q k, 83 ≤ q → gI σ2 q k = gI σ1 q k := fun q k hq => hf.per (by decide) hq k
      rw [nI_clamp (by omega)]
      -- what stays, whatever is stored
      have stay : ∀ (lw : Int32) (σ3 : St), (∀ q k, q ≠ p + 2 → q ≠ p + 3 → q ≠ p + 4 → ¬ (q = p ∧ k = 8) → gI σ3 q k = gI σ2 q k) → RP σ3 w ∧ gI σ3 p 0 = nI (w.pu j) ∧ gI σ3 p 1 = nI (w.dn j) ∧ PC σ3 p (w.ws r) := by
        intro lw σ3 hs
        refine ⟨(h1.st hf (by decide)).fr (fun k hk => hs 1 k (by omega) (by omega) (by omega) (by omega)) (fun q k a b => hs q k (by omega) (by omega) (by omega) (by omega)), ?_, ?_, ?_, h4.2.1, fun i c hi => ?_⟩
        · rw [hs p 0 (by omega) (by omega) (by omega) (by omega), fp p 0 hp83]; exact h2
        · rw [hs p 1 (by omega) (by omega) (by omega) (by omega), fp p 1 hp83]; exact h3
        · rw [hs p 4 (by omega) (by omega) (by omega) (by omega), fp p 4 hp83]; exact h4.1
        · rw [hs (p + 1) i (by omega) (by omega) (by omega) (by omega), fp (p + 1) i (by omega)]; exact h4.2.2 i c hi
      refine ⟨hvb, fun hz => ⟨hvb, fun hz2 => ?_, fun hz2 => absurd ?_ hz⟩, fun hz => ⟨hvb, fun hz2 => absurd ?_ hz2, fun hz2 => ?_⟩⟩
      · -- barred
        rw [gI_sI_ne (by omega), hbar] at hz
        have hLf : ¬ L b = true := fun e => hz (by rw [hLb.mp e]; rfl)
        rw [nz0, nI_1]
        obtain ⟨k1, k2, k3, k4⟩ := stay 0 (sI (sI σ2 (p + 2) b (gI σ2 2 1)) (p + 3) b 0) (fun q k a1 a2 a3 a4 => by rw [gI_sI_ne (by omega), gI_sI_ne (by omega)])
        refine ih _ k1 k2 k3 k4 m β ?_ (by omega) ?_ ?_ h9 ?_
        · rw [gI_sI_ne (by omega), gI_sI_ne (by omega), fp p 8 hp83]; exact h5
        · intro b' hb'
          rw [gI_sI_ne (j := p + 2) (by omega), gI_sI (j := p + 2), gI_sI (j := p + 3), gI_sI_ne (j := p + 3) (by omega), fp (p + 2) b' (by omega), fp (p + 3) b' (by omega)]
          by_cases e : b' = b
          · subst e; rw [if_pos ⟨rfl, rfl⟩, if_pos ⟨rfl, rfl⟩, if_neg hLf]; exact ⟨ht, rfl⟩
          · have e' : ¬ (p + 2 = p + 2 ∧ b' = b) := fun q => e q.2
            have e'' : ¬ (p + 3 = p + 3 ∧ b' = b) := fun q => e q.2
            rw [if_neg e', if_neg e'']; exact h7 b' (by omega)
        · intro x hx
          rw [gI_sI_ne (by omega), gI_sI_ne (by omega), fp (p + 4) x (by omega)]
          have := h8 x hx
          exact ⟨by omega, this.2⟩
        · intro b' hb' hl
          rcases Nat.lt_or_ge b' b with q | q
          · exact h10 b' q hl
          · rw [show b' = b by omega] at hl; exact absurd hl hLf
      · rw [gI_sI_ne (by omega), gI_sI_ne (by omega)] at hz2
        rw [gI_sI_ne (by omega)]; exact hz2
      · rw [gI_sI_ne (by omega)] at hz
        rw [gI_sI_ne (by omega), gI_sI_ne (by omega)]; exact hz
      · -- lawful
        rw [gI_sI_ne (by omega), hbar] at hz
        have hLt : L b = true := hLb.mpr ((nI_eq (b := 0) hbl (by decide)).mp hz)
        have e8 : gI (sI (sI σ2 (p + 2) b (gI σ2 2 1)) (p + 3) b (vp_nar .boolean 1)) p 8 = nI m := by
          rw [gI_sI_ne (by omega), gI_sI_ne (by omega), fp p 8 hp83]; exact h5
        have e21 : gI (sI (sI σ2 (p + 2) b (gI σ2 2 1)) (p + 3) b (vp_nar .boolean 1)) 2 1 = gI σ2 2 1 := by
          rw [gI_sI_ne (by omega), gI_sI_ne (by omega)]
        rw [e8, e21, nz1, nI_clamp (by omega), nI_1]
        refine ⟨vp_in_nI (by omega) (by decide), ?_⟩
        have ekey : ((1000000 - gI σ2 2 1) * 1024 + nI b) = nI (keyN V b) := key_eq ht (hVr b) (by omega)
        rw [ekey, gI_sI_ne (j := p) (by omega), gI_sI_ne (j := p) (by omega), gI_sI_ne (j := p) (by omega), fp p 8 hp83, h5, nI_1]
        obtain ⟨k1, k2, k3, k4⟩ := stay 0 (sI (sI (sI (sI σ2 (p + 2) b (gI σ2 2 1)) (p + 3) b 1) (p + 4) m (nI (keyN V b))) p 8 (nI (m + 1))) (fun q k a1 a2 a3 a4 => by rw [gI_sI_ne (by omega), gI_sI_ne (by omega), gI_sI_ne (by omega), gI_sI_ne (by omega)])
        refine ih _ k1 k2 k3 k4 (m + 1) (fun x => if x = m then b else β x) ?_ (by omega) ?_ ?_ ?_ ?_
        · rw [gI_sI_same]
        · intro b' hb'
          rw [gI_sI_ne (j := p + 2) (by omega), gI_sI_ne (j := p + 2) (by omega), gI_sI_ne (j := p + 2) (by omega), gI_sI (j := p + 2), gI_sI_ne (j := p + 3) (by omega), gI_sI_ne (j := p + 3) (by omega), gI_sI (j := p + 3), gI_sI_ne (j := p + 3) (by omega), fp (p + 2) b' (by omega), fp (p + 3) b' (by omega)]
          by_cases e : b' = b
          · subst e; rw [if_pos ⟨rfl, rfl⟩, if_pos ⟨rfl, rfl⟩, if_pos hLt]; exact ⟨ht, rfl⟩
          · have e' : ¬ (p + 2 = p + 2 ∧ b' = b) := fun q => e q.2
            have e'' : ¬ (p + 3 = p + 3 ∧ b' = b) := fun q => e q.2
            rw [if_neg e', if_neg e'']; exact h7 b' (by omega)
        · intro x hx
          rw [gI_sI_ne (by omega), gI_sI]
          by_cases e : x = m
          · subst e; rw [if_pos rfl, if_pos ⟨rfl, rfl⟩]; exact ⟨by omega, hLt, rfl⟩
          · rw [if_neg e, if_neg (fun q => e q.2), gI_sI_ne (by omega), gI_sI_ne (by omega), fp (p + 4) x (by omega)]
            have := h8 x (by omega)
            exact ⟨by omega, this.2⟩
        · intro x y hxy hy
          have hx1 : ¬ x = m := by omega
          rw [if_neg hx1]
          by_cases e : y = m
          · rw [if_pos e]; exact (h8 x (by omega)).1
          · rw [if_neg e]; exact h9 x y hxy (by omega)
        · intro b' hb' hl
          rcases Nat.lt_or_ge b' b with q | q
          · obtain ⟨x, hx, ex⟩ := h10 b' q hl
            exact ⟨x, by omega, by rw [if_neg (by omega)]; exact ex⟩
          · exact ⟨m, by omega, by rw [if_pos rfl]; omega⟩
  refine loop 0 (Nat.zero_le _) (sI σ p 8 0) ?_ ?_ ?_ ?_ 0 (fun _ => 0) ?_ (Nat.le_refl _) (fun b' h => absurd h (by omega)) (fun x h => absurd h (by omega)) (fun x y _ h => absurd h (by omega)) (fun b' h => absurd h (by omega))
  · exact hR.fr (fun k hk => gI_sI_ne (by omega)) (fun q k a b => gI_sI_ne (by omega))
  · rw [gI_sI_ne (by omega)]; exact hmo
  · rw [gI_sI_ne (by omega)]; exact hdn
  · exact ⟨by rw [gI_sI_ne (by omega)]; exact hpc.1, hpc.2.1, fun i c hi => by rw [gI_sI_ne (by omega)]; exact hpc.2.2 i c hi⟩
  · rw [gI_sI_same]; rfl
