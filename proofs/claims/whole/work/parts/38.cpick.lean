/-! ===== what somebody buys: the model's best is the component's pick ===== -/
theorem bestU_none0 {L : Nat → Bool} {V : Nat → Int} {c : Nat → Nat} {m : Nat} : ∀ {k : Nat}, bestU L V c m k = none → ∀ y, y < k → L y = true → c y ≤ m → False
  | 0, _, y, hy, _, _ => by omega
  | k + 1, h, y, hy, hL, hc => by
    unfold bestU at h
    split at h
    · cases h
    · rename_i hcond
      by_cases e : y = k
      · subst e
        exact hcond ⟨hL, hc, fun z hz => by rw [h] at hz; cases hz⟩
      · exact bestU_none0 h y (by omega) hL hc
theorem bestU_some {L : Nat → Bool} {V : Nat → Int} {c : Nat → Nat} {m : Nat} : ∀ {k x : Nat}, bestU L V c m k = some x → ∀ y, y < k → L y = true → c y ≤ m → y ≠ x → (V y < V x ∨ V y = V x ∧ (c x < c y ∨ c x = c y ∧ x < y))
  | 0, x, h, y, hy, _, _, _ => by omega
  | k + 1, x, h, y, hy, hL, hc, hne => by
    unfold bestU at h
    by_cases hcond : L k = true ∧ c k ≤ m ∧ ∀ z, bestU L V c m k = some z → ¬ (V k < V z ∨ V k = V z ∧ c z ≤ c k)
    · rw [if_pos hcond] at h
      cases h
      have hyk : y < k := by omega
      cases hb : bestU L V c m k with
      | none =>
        exfalso
        exact bestU_none0 hb y hyk hL hc
      | some z =>
        have h1 := hcond.2.2 z hb
        by_cases e : y = z
        · subst e; omega
        · have h2 := bestU_some hb y hyk hL hc e
          omega
    · rw [if_neg hcond] at h
      by_cases e : y = k
      · subst e
        have hx := bestU_lt h
        have : ∃ z, bestU L V c m y = some z ∧ (V y < V z ∨ V y = V z ∧ c z ≤ c y) := by
          apply Classical.byContradiction
          intro hn
          exact hcond ⟨hL, hc, fun z hz hh => hn ⟨z, hz, hh⟩⟩
        obtain ⟨z, hz, hh⟩ := this
        rw [h] at hz
        cases hz
        omega
      · exact bestU_some h y (by omega) hL hc hne
theorem bestU_none {L : Nat → Bool} {V : Nat → Int} {c : Nat → Nat} {m k : Nat} (h : bestU L V c m k = none) (y : Nat) (hy : y < k) (hL : L y = true) (hc : c y ≤ m) : False := bestU_none0 h y hy hL hc
theorem bestU_eq {L : Nat → Bool} {V : Nat → Int} {c : Nat → Nat} {m k x : Nat} (hx : x < k) (hL : L x = true) (hc : c x ≤ m) (h : ∀ y, y < k → L y = true → c y ≤ m → y ≠ x → (V y < V x ∨ V y = V x ∧ (c x < c y ∨ c x = c y ∧ x < y))) : bestU L V c m k = some x := by
  cases hb : bestU L V c m k with
  | none => exact (bestU_none hb x hx hL hc).elim
  | some z =>
    by_cases e : z = x
    · rw [e]
    · have hz := bestU_lt hb
      have h1 := h z hz.1 hz.2.1 hz.2.2 e
      have h2 := bestU_some hb x hx hL hc (fun q => e q.symm)
      omega
theorem bestU_no {L : Nat → Bool} {V : Nat → Int} {c : Nat → Nat} {m k : Nat} (h : ∀ y, y < k → L y = true → ¬ c y ≤ m) : bestU L V c m k = none := by
  cases hb : bestU L V c m k with
  | none => rfl
  | some z => have hz := bestU_lt hb; exact absurd hz.2.2 (h z hz.1 hz.2.1)
/-- the rank that a best bundle has; -1 without one -/
def rkO (m : Nat) (β : Nat → Nat) (o : Option Nat) (v : Int32) : Prop := match o with
  | none => v = -1
  | some b => ∃ r, r < m ∧ v = nI r ∧ β r = b
theorem pick_spec0 {d n : Nat} {σ : St} {p N m mo s0 : Nat} {L : Nat → Bool} {V : Nat → Int} {c β : Nat → Nat} (hn : FIX ≤ n) (hd : 1 ≤ d) (hp : IsP n p) (hR : Rnk σ p N L V m β) (hV : ∀ b, -1000000 ≤ V b ∧ V b ≤ 1000000) (hN : N ≤ 10) (hM : Mrk σ c) (hcm : ∀ l, l < N → c l ≤ 1000000) (hmo : gI σ p 0 = nI mo) (hmo2 : mo ≤ 1000000) (hs : s0 ≤ m) (hdear : ∀ r, r < s0 → mo < costU c (β r) N) :
    Cn d n M_X4_pick md_X4_pick [.ref 6, .ref p, .int (nI s0)] σ (liI (fun v σ' => rkO m β (bestU L V (fun b => costU c b N) mo (2 ^ N)) v ∧ ∃ f, gI σ' 6 5 = nI f ∧ f ≤ m ∧ ∀ r, r < f → mo < costU c (β r) N)) := by
  have hpw := pow10 hN
  have hp83 : 83 ≤ p := hp.1
  have hm := hR.2.1
  refine S_X4_pick hn hd hp ?_
  rw [hR.1]
  generalize hQ : (fun (v : Int32) (σ' : St) => rkO m β (bestU L V (fun b => costU c b N) mo (2 ^ N)) v ∧ ∃ f, gI σ' 6 5 = nI f ∧ f ≤ m ∧ ∀ r, r < f → mo < costU c (β r) N) = Q
  have hcost : ∀ b, b < 2 ^ N → costU c b N ≤ 10000000 := fun b _ => Nat.le_trans (costU_le (M := 1000000) (fun i hi => hcm i (by omega))) (by omega)
  have ord : ∀ x y, x < y → y < m → V (β y) < V (β x) ∨ V (β y) = V (β x) ∧ β x < β y := by
    intro x y hxy hy
    have b1 := (hR.2.2.1 x (by omega)).1
    have b2 := (hR.2.2.1 y hy).1
    exact key_ord hV (by omega) (by omega) (hR.2.2.2.1 x y hxy hy)
  have same : ∀ (σ1 : St), (∀ q k, ¬ (q = 6 ∧ k = 5) → gI σ1 q k = gI σ q k) → Rnk σ1 p N L V m β ∧ Mrk σ1 c ∧ gI σ1 p 0 = nI mo := by
    intro σ1 h1
    refine ⟨hR.fr (h1 p 8 (by omega)) (fun k => h1 (p + 4) k (by omega)), fun b hb => ?_, ?_⟩
    · rw [h1 26 b (by omega), h1 27 b (by omega)]; exact hM b hb
    · rw [h1 p 0 (by omega)]; exact hmo
  have cst : ∀ (σ1 : St) (r : Nat), Rnk σ1 p N L V m β → Mrk σ1 c → r < m → (pre_X5_bundleAt σ1 p (nI r) ∧ pre_X4_costOf σ1 (fn_X5_bundleAt σ1 p (nI r))) ∧ fn_X4_costOf σ1 (fn_X5_bundleAt σ1 p (nI r)) = nI (costU c (β r) N) := by
    intro σ1 r h1 h2 hr
    obtain ⟨a1, a2⟩ := bundleAt_in h1 hV hpw hr
    have b1 := (h1.2.2.1 r hr).1
    obtain ⟨c1, c2⟩ := costC h2 (b := β r) (by omega)
    rw [a2]
    refine ⟨⟨a1, c1⟩, ?_⟩
    rw [c2, costU_ext b1 (by omega)]
  -- somebody has found one
  have phB : ∀ r, r ≤ m → ∀ (σ1 : St) (f fp : Nat), (∀ q k, ¬ (q = 6 ∧ k = 5) → gI σ1 q k = gI σ q k) → gI σ1 6 5 = nI fp → f < r → fp ≤ f → (∀ x, x < fp → mo < costU c (β x) N) → costU c (β f) N ≤ mo → (∀ x, fp ≤ x → x < r → V (β x) = V (β f)) → (∀ x, fp ≤ x → x < r → x ≠ f → costU c (β x) N ≤ mo → costU c (β f) N < costU c (β x) N ∨ costU c (β f) N = costU c (β x) N ∧ f < x) → K_X4_pick_16 d n σ Q σ1 p (nI f) (nI (costU c (β f) N)) (nI r) := by
    refine up_ind (N := m) ?_ ?_
    · intro σ1 f fp h1 h2 h3 h4 h5 h6 h7 h8
      obtain ⟨k1, k2, k3⟩ := same σ1 h1
      refine B_X4_pick_16 hn hd hp ⟨fun _ => ?_, fun h => absurd (by rw [k1.1]; exact nI_le (Nat.le_refl _) (by omega)) h⟩
      rw [← hQ]
      have hb : bestU L V (fun b => costU c b N) mo (2 ^ N) = some (β f) := by
        refine bestU_eq (hR.2.2.1 f h3).1 (hR.2.2.1 f h3).2.1 h6 (fun y hy hLy hcy hne => ?_)
        obtain ⟨x, hx, rfl⟩ := hR.2.2.2.2 y hy hLy
        have hxf : x ≠ f := fun e => hne (by rw [e])
        have hfx : fp ≤ x := by
          rcases Nat.lt_or_ge x fp with z | z
          · have h9 := h5 x z; have hcy' : costU c (β x) N ≤ mo := hcy; omega
          · exact z
        have q1 := h7 x hfx hx
        rcases h8 x hfx hx hxf hcy with q2 | ⟨q2, q3⟩
        · exact Or.inr ⟨q1, Or.inl q2⟩
        · have q4 := ord f x q3 hx
          exact Or.inr ⟨q1, Or.inr ⟨q2, by omega⟩⟩
      refine ⟨by rw [hb]; exact ⟨f, h3, rfl, rfl⟩, fp, h2, by omega, h5⟩
    · intro r hr ih σ1 f fp h1 h2 h3 h4 h5 h6 h7 h8
      obtain ⟨k1, k2, k3⟩ := same σ1 h1
      have hne : ¬ nI f = -1 := optI_ne (x := f) (by omega)
      obtain ⟨w1, w2⟩ := worthAt_in k1 hV hpw hr
      obtain ⟨u1, u2⟩ := worthAt_in k1 hV hpw (show f < m by omega)
      obtain ⟨⟨p1, p2⟩, p3⟩ := cst σ1 r k1 k2 hr
      have hcr := hcost (β r) (hR.2.2.1 r hr).1
      have hcf := hcost (β f) (hR.2.2.1 f (by omega)).1
      have e75 : ∀ v, ∀ q k, ¬ (q = 6 ∧ k = 5) → gI (sI σ1 6 5 v) q k = gI σ q k := fun v q k hq => by rw [gI_sI_ne hq]; exact h1 q k hq
      refine B_X4_pick_16 hn hd hp ⟨fun h => absurd (by rw [k1.1] at h; exact h) (nI_ge hr (by omega)), fun _ => ⟨fun h => absurd h hne, fun _ => ⟨w1, u1, fun hle => ⟨p1, p2, ?_⟩, fun hnle => ?_⟩⟩⟩
      · have hVe : V (β r) = V (β f) := by
          have a1 := le_ti.mp hle
          rw [u2, w2] at a1
          have a2 := ord f r h3 hr
          omega
        have h7' : ∀ x, fp ≤ x → x < r + 1 → V (β x) = V (β f) := by
          intro x hx1 hx2
          rcases Nat.lt_or_ge x r with z | z
          · exact h7 x hx1 z
          · rw [show x = r by omega]; exact hVe
        rw [p3, k3, nI_1]
        refine ⟨fun hm => ih σ1 f fp h1 h2 (by omega) h4 h5 h6 h7' (fun x hx1 hx2 hx3 hx4 => ?_), fun hm => ⟨fun h => absurd h hne, fun _ => ⟨fun hle2 => ih σ1 f fp h1 h2 (by omega) h4 h5 h6 h7' (fun x hx1 hx2 hx3 hx4 => ?_), fun hlt => ⟨fun _ => ?_, fun h => absurd h hne⟩⟩⟩⟩
        · rcases Nat.lt_or_ge x r with z | z
          · exact h8 x hx1 z hx3 hx4
          · rw [show x = r by omega] at hx4
            have := (nI_ltI (by omega) (by omega)).mp hm
            omega
        · rcases Nat.lt_or_ge x r with z | z
          · exact h8 x hx1 z hx3 hx4
          · have ex : x = r := by omega
            subst ex
            have := (nI_leI (by omega) (by omega)).mp hle2
            omega
        · have hlt' : costU c (β r) N < costU c (β f) N := by
            rcases Nat.lt_or_ge (costU c (β r) N) (costU c (β f) N) with z | z
            · exact z
            · exact absurd (nI_le z (by omega)) hlt
          refine ih σ1 r fp h1 h2 (by omega) (by omega) h5 (by omega) (fun x hx1 hx2 => by rw [h7' x hx1 hx2, hVe]) (fun x hx1 hx2 hx3 hx4 => ?_)
          by_cases ef : x = f
          · rw [ef]; exact Or.inl hlt'
          · have := h8 x hx1 (by omega) ef hx4
            omega
      · have hlt : V (β r) < V (β f) := by
          have : ¬ V (β f) ≤ V (β r) := fun z => hnle (le_ti.mpr (by rw [u2, w2]; exact z))
          omega
        rw [← hQ]
        have hb : bestU L V (fun b => costU c b N) mo (2 ^ N) = some (β f) := by
          refine bestU_eq (hR.2.2.1 f (by omega)).1 (hR.2.2.1 f (by omega)).2.1 h6 (fun y hy hLy hcy hne2 => ?_)
          obtain ⟨x, hx, rfl⟩ := hR.2.2.2.2 y hy hLy
          have hxf : x ≠ f := fun e => hne2 (by rw [e])
          have hfx : fp ≤ x := by
            rcases Nat.lt_or_ge x fp with z | z
            · have h9 := h5 x z; have hcy' : costU c (β x) N ≤ mo := hcy; omega
            · exact z
          rcases Nat.lt_or_ge x r with z | z
          · have q1 := h7 x hfx z
            rcases h8 x hfx z hxf hcy with q2 | ⟨q2, q3⟩
            · exact Or.inr ⟨q1, Or.inl q2⟩
            · have q4 := ord f x q3 hx
              exact Or.inr ⟨q1, Or.inr ⟨q2, by omega⟩⟩
          · left
            by_cases er : x = r
            · rw [er]; exact hlt
            · have := ord r x (by omega) hx
              omega
        exact ⟨by rw [hb]; exact ⟨f, by omega, rfl, rfl⟩, fp, h2, by omega, h5⟩
  -- nobody yet
  have phA : ∀ r, r ≤ m → s0 ≤ r → ∀ σ1 : St, (∀ q k, ¬ (q = 6 ∧ k = 5) → gI σ1 q k = gI σ q k) → gI σ1 6 5 = nI m → (∀ x, x < r → mo < costU c (β x) N) → K_X4_pick_16 d n σ Q σ1 p (-1) 0 (nI r) := by
    refine up_ind (N := m) ?_ ?_
    · intro hsr σ1 h1 h2 h3
      obtain ⟨k1, k2, k3⟩ := same σ1 h1
      refine B_X4_pick_16 hn hd hp ⟨fun _ => ?_, fun h => absurd (by rw [k1.1]; exact nI_le (Nat.le_refl _) (by omega)) h⟩
      rw [← hQ]
      have hb : bestU L V (fun b => costU c b N) mo (2 ^ N) = none := by
        refine bestU_no (fun y hy hLy hcy => ?_)
        obtain ⟨x, hx, rfl⟩ := hR.2.2.2.2 y hy hLy
        have := h3 x hx
        have hcy' : costU c (β x) N ≤ mo := hcy
        omega
      exact ⟨by rw [hb]; rfl, m, h2, Nat.le_refl _, h3⟩
    · intro r hr ih hsr σ1 h1 h2 h3
      obtain ⟨k1, k2, k3⟩ := same σ1 h1
      obtain ⟨⟨p1, p2⟩, p3⟩ := cst σ1 r k1 k2 hr
      have hcr := hcost (β r) (hR.2.2.1 r hr).1
      refine B_X4_pick_16 hn hd hp ⟨fun h => absurd (by rw [k1.1] at h; exact h) (nI_ge hr (by omega)), fun _ => ⟨fun _ => ⟨p1, p2, ?_⟩, fun h => absurd rfl h⟩⟩
      rw [p3, k3, nI_1]
      refine ⟨fun hm => ih (by omega) σ1 h1 h2 (fun x hx => ?_), fun hm => ⟨fun _ => ⟨fun h => absurd rfl h, fun _ => ?_⟩, fun h => absurd rfl h⟩⟩
      · rcases Nat.lt_or_ge x r with z | z
        · exact h3 x z
        · rw [show x = r by omega]; exact (nI_ltI (by omega) (by omega)).mp hm
      · have hpay : costU c (β r) N ≤ mo := by
          rcases Nat.lt_or_ge mo (costU c (β r) N) with z | z
          · exact absurd (nI_lt z (by omega)) hm
          · exact z
        refine phB (r + 1) (by omega) _ r r (fun q k hq => by rw [gI_sI_ne hq]; exact h1 q k hq) (by rw [gI_sI_same]) (by omega) (Nat.le_refl _) h3 hpay (fun x hx1 hx2 => by rw [show x = r by omega]) (fun x hx1 hx2 hx3 => by omega)
  exact phA s0 hs (Nat.le_refl _) _ (fun q k hq => gI_sI_ne hq) (by rw [gI_sI_same]) hdear
theorem pick_spec {d n : Nat} {σ : St} {p N m mo s0 : Nat} {L : Nat → Bool} {V : Nat → Int} {c β : Nat → Nat} (hn : FIX ≤ n) (hd : 1 ≤ d) (hp : IsP n p) (hR : Rnk σ p N L V m β) (hV : ∀ b, -1000000 ≤ V b ∧ V b ≤ 1000000) (hN : N ≤ 10) (hM : Mrk σ c) (hcm : ∀ l, l < 10 → c l ≤ 1000000) (hmo : gI σ p 0 = nI mo) (hmo2 : mo ≤ 1000000) (hs : s0 ≤ m) (hdear : ∀ r, r < s0 → mo < costU c (β r) N) :
    Cn d n M_X4_pick md_X4_pick [.ref 6, .ref p, .int (nI s0)] σ (liI (fun v σ' => rkO m β (bestU L V (fun b => costU c b N) mo (2 ^ N)) v ∧ ∃ f, gI σ' 6 5 = nI f ∧ f ≤ m ∧ ∀ r, r < f → mo < costU c (β r) N)) := pick_spec0 hn hd hp hR hV hN hM (fun l hl => hcm l (by omega)) hmo hmo2 hs hdear
