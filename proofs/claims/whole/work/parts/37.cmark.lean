/-! ===== the component: costs; bundles and worths by rank ===== -/
theorem costU_congr {c : Nat → Nat} {a b l : Nat} (h : ∀ i, i < l → a.testBit i = b.testBit i) : costU c a l = costU c b l := by
  induction l with
  | zero => rfl
  | succ l ih => simp only [costU]; rw [ih (fun i hi => h i (by omega)), h l (by omega)]
theorem costU_congrC {c c' : Nat → Nat} {b l : Nat} (h : ∀ i, i < l → c i = c' i) : costU c b l = costU c' b l := by
  induction l with
  | zero => rfl
  | succ l ih => simp only [costU]; rw [ih (fun i hi => h i (by omega)), h l (by omega)]
theorem costU_ext {c : Nat → Nat} {b N : Nat} (hb : b < 2 ^ N) : ∀ {M : Nat}, N ≤ M → costU c b M = costU c b N
  | 0, h => by rw [show N = 0 by omega]
  | M + 1, h => by
    rcases Nat.lt_or_ge M N with z | z
    · rw [show N = M + 1 by omega]
    · simp only [costU]
      rw [costU_ext hb z, Nat.testBit_lt_two_pow (Nat.lt_of_lt_of_le hb (Nat.pow_le_pow_right (by decide) z))]
      simp
theorem costU_pow {c : Nat → Nat} {l x : Nat} (hx : x < 2 ^ l) : costU c (2 ^ l + x) (l + 1) = costU c x l + c l := by
  simp only [costU]
  rw [costU_congr (a := 2 ^ l + x) (b := x) (fun i hi => Nat.testBit_two_pow_add_gt hi x), Nat.testBit_two_pow_add_eq, Nat.testBit_lt_two_pow hx]
  simp
theorem costU_low {c : Nat → Nat} {l x : Nat} (hx : x < 2 ^ l) : costU c x (l + 1) = costU c x l := by
  simp only [costU]; rw [Nat.testBit_lt_two_pow hx]; simp
theorem costU_half (c : Nat → Nat) (b : Nat) : costU c b 10 = costU c (b % 32) 5 + costU (fun l => c (5 + l)) (b / 32) 5 := by
  have h1 : ∀ i, (b % 32).testBit i = (decide (i < 5) && b.testBit i) := fun i => by rw [show (32 : Nat) = 2 ^ 5 from rfl, Nat.testBit_mod_two_pow]
  have h2 : ∀ i, (b / 32).testBit i = b.testBit (5 + i) := fun i => by rw [show (32 : Nat) = 2 ^ 5 from rfl, Nat.testBit_div_two_pow, Nat.add_comm]
  simp only [costU, h1, h2]
  simp
  omega
/-- the costs of a row of prices are marked -/
def Mrk (σ : St) (c : Nat → Nat) : Prop := ∀ b, b < 32 → gI σ 26 b = nI (costU c b 5) ∧ gI σ 27 b = nI (costU (fun l => c (5 + l)) b 5)
theorem mark_spec {d n q : Nat} {σ : St} {c : Nat → Nat} (hn : FIX ≤ n) (ha : Ar n q 20 10) (hq1 : q ≠ 26) (hq2 : q ≠ 27) (hc : ∀ l, l < 10 → gI σ q l = nI (c l)) (h0 : gI σ 26 0 = 0 ∧ gI σ 27 0 = 0) :
    Cn d n M_X4_mark md_X4_mark [.ref 6, .ref q] σ (liV (fun σ' => Mrk σ' c)) := by
  refine S_X4_mark hn ha ?_
  have loop : ∀ l, l ≤ 5 → ∀ σ1 : St, (∀ l, l < 10 → gI σ1 q l = nI (c l)) → (∀ b, b < 2 ^ l → gI σ1 26 b = nI (costU c b l) ∧ gI σ1 27 b = nI (costU (fun l => c (5 + l)) b l)) → K_X4_mark_2 d n σ (fun σ' => Mrk σ' c) σ1 q 10 (nI l) := by
    refine up_ind (N := 5) ?_ ?_
    · intro σ1 h1 h2
      exact B_X4_mark_2 hn ha ⟨fun _ => h2, fun h => absurd (show (5 : Int32) ≤ nI 5 by decide) h⟩
    · intro l hl ih σ1 h1 h2
      have hp1 : 2 ^ l ≤ 16 := by
        have : 2 ^ l ≤ 2 ^ 4 := Nat.pow_le_pow_right (by decide) (by omega)
        exact this
      refine B_X4_mark_2 hn ha ⟨fun h => absurd h (nI_ge (b := 5) hl (by decide)), fun _ => ?_⟩
      rw [shl1 (by omega)]
      have inner : ∀ x, x ≤ 2 ^ l → ∀ σ2 : St, (∀ l, l < 10 → gI σ2 q l = nI (c l)) → (∀ b, b < 2 ^ l + x → gI σ2 26 b = nI (costU c b (l + 1)) ∧ gI σ2 27 b = nI (costU (fun l => c (5 + l)) b (l + 1))) → K_X4_mark_14 d n σ (fun σ' => Mrk σ' c) σ2 q 10 (nI l) (nI (2 ^ l)) (nI x) := by
        refine up_ind (N := 2 ^ l) ?_ ?_
        · intro σ2 g1 g2
          refine B_X4_mark_14 hn ha ⟨fun _ => ?_, fun h => absurd (nI_le (Nat.le_refl _) (by omega)) h⟩
          rw [nI_1]
          exact ih σ2 g1 (fun b hb => g2 b (by rw [Nat.pow_succ] at hb; omega))
        · intro x hx ih2 σ2 g1 g2
          obtain ⟨e1, e2⟩ := g2 x (by omega)
          rw [costU_low hx] at e1 e2
          have v1 : vp_in (nI x) 32 := vp_in_nI (by omega) (by decide)
          have v2 : vp_in (nI l) 10 := vp_in_nI (by omega) (by decide)
          have v3 : vp_in (nI (2 ^ l) + nI x) 32 := by rw [nI_add]; exact vp_in_nI (by omega) (by decide)
          have v4 : vp_in (5 + nI l) 10 := by rw [show (5 : Int32) = nI 5 from rfl, nI_add]; exact vp_in_nI (by omega) (by decide)
          refine B_X4_mark_14 hn ha ⟨fun h => absurd h (nI_ge hx (by omega)), fun _ => ⟨v1, v2, v3, v1, v4, v3, ?_⟩⟩
          rw [nI_add, show (5 : Int32) = nI 5 from rfl, nI_add, nI_clamp (by omega), nI_clamp (by omega), nI_clamp (by omega), nI_clamp (by omega), gI_sI_ne (j := 27) (by omega), gI_sI_ne (j := q) (by omega), e1, e2, g1 l (by omega), g1 (5 + l) (by omega), nI_add, nI_add, nI_1]
          refine ih2 _ (fun l' hl' => by rw [gI_sI_ne (by omega), gI_sI_ne (by omega)]; exact g1 l' hl') (fun b hb => ?_)
          rw [gI_sI_ne (j := 26) (by omega), gI_sI (j := 26), gI_sI (j := 27), gI_sI_ne (j := 27) (by omega)]
          by_cases e : b = 2 ^ l + x
          · subst e
            rw [if_pos ⟨rfl, rfl⟩, if_pos ⟨rfl, rfl⟩, costU_pow hx, costU_pow hx]
            exact ⟨rfl, rfl⟩
          · rw [if_neg (fun z => e z.2), if_neg (fun z => e z.2)]; exact g2 b (by omega)
      refine inner 0 (Nat.zero_le _) σ1 h1 (fun b hb => ?_)
      rw [costU_low (by omega), costU_low (by omega)]; exact h2 b (by omega)
  refine loop 0 (by decide) σ hc (fun b hb => ?_)
  have : b = 0 := by simpa using hb
  subst this
  exact h0
theorem Mrk.st {m : Md} {σ σ' : St} {c : Nat → Nat} (h : Mrk σ c) (hf : Fr m σ σ') (ho : (rowFree m 26 && rowFree m 27) = true) : Mrk σ' c := by
  rw [Bool.and_eq_true] at ho
  intro b hb
  rw [hf.row ho.1, hf.row ho.2]; exact h b hb
theorem Mrk.z {σ : St} {c : Nat → Nat} (h : Mrk σ c) : gI σ 26 0 = 0 ∧ gI σ 27 0 = 0 := by
  have := h 0 (by decide)
  simpa [costU, nI_0] using this
theorem costC {σ : St} {c : Nat → Nat} {b : Nat} (h : Mrk σ c) (hb : b < 1024) : pre_X4_costOf σ (nI b) ∧ fn_X4_costOf σ (nI b) = nI (costU c b 10) := by
  have e1 : nI b &&& 31 = nI (b % 32) := pk_andN (by omega) 5 (by decide)
  have e2 : (nI b >>> ((5 : Int32) &&& 31)) &&& 31 = nI (b / 32) := by
    rw [pk_shrN (by omega) ((5 : Int32) &&& 31) 5 (by decide), pk_andN (n := b / 2 ^ 5) (by omega) 5 (by decide)]
    congr 1; omega
  unfold pre_X4_costOf fn_X4_costOf
  rw [e1, e2, nI_clamp (by omega), nI_clamp (by omega), (h (b % 32) (by omega)).1, (h (b / 32) (by omega)).2, nI_add, costU_half]
  exact ⟨⟨vp_in_nI (by omega) (by decide), vp_in_nI (by omega) (by decide), trivial⟩, rfl⟩
/-- the ranking of a person's tables, opened -/
def Rnk (σ : St) (p N : Nat) (L : Nat → Bool) (V : Nat → Int) (m : Nat) (β : Nat → Nat) : Prop := gI σ p 8 = nI m ∧ m ≤ 1024 ∧ (∀ r, r < m → β r < 2 ^ N ∧ L (β r) = true ∧ gI σ (p + 4) r = nI (keyN V (β r))) ∧ (∀ r r', r < r' → r' < m → keyN V (β r) < keyN V (β r')) ∧ ∀ b, b < 2 ^ N → L b = true → ∃ r, r < m ∧ β r = b
theorem Rnk.fr {σ σ' : St} {p N m : Nat} {L : Nat → Bool} {V : Nat → Int} {β : Nat → Nat} (h : Rnk σ p N L V m β) (h1 : gI σ' p 8 = gI σ p 8) (h2 : ∀ k, gI σ' (p + 4) k = gI σ (p + 4) k) : Rnk σ' p N L V m β :=
  ⟨by rw [h1]; exact h.1, h.2.1, fun r hr => by rw [h2]; exact h.2.2.1 r hr, h.2.2.2⟩
theorem key_ord {V : Nat → Int} {a b : Nat} (hV : ∀ b, -1000000 ≤ V b ∧ V b ≤ 1000000) (ha : a < 1024) (hb : b < 1024) (h : keyN V a < keyN V b) : V b < V a ∨ V b = V a ∧ a < b := by
  have h1 := hV a
  have h2 := hV b
  unfold keyN at h
  omega
theorem bundleAt_in {σ : St} {p N m r : Nat} {L : Nat → Bool} {V : Nat → Int} {β : Nat → Nat} (h : Rnk σ p N L V m β) (hV : ∀ b, -1000000 ≤ V b ∧ V b ≤ 1000000) (hN : 2 ^ N ≤ 1024) (hr : r < m) : pre_X5_bundleAt σ p (nI r) ∧ fn_X5_bundleAt σ p (nI r) = nI (β r) := by
  obtain ⟨h1, h2, h3, -, -⟩ := h
  obtain ⟨a1, a2, a3⟩ := h3 r hr
  have hk := keyN_lt (hV (β r)) (b := β r) (by omega)
  unfold pre_X5_bundleAt fn_X5_bundleAt
  rw [if_neg (nI_pos (by omega)), h1, if_pos (nI_lt hr (by omega)), nI_clamp (by omega), a3, pk_andN (n := keyN V (β r)) (by omega) 10 (by decide)]
  refine ⟨⟨fun _ => trivial, fun _ => ⟨fun _ => ⟨vp_in_nI (by omega) (by decide), trivial⟩, fun _ => trivial⟩⟩, ?_⟩
  congr 1
  unfold keyN; omega
theorem bundleAt_no {σ : St} {p : Nat} : pre_X5_bundleAt σ p (-1) ∧ fn_X5_bundleAt σ p (-1) = 0 := by
  unfold pre_X5_bundleAt fn_X5_bundleAt
  rw [if_pos (by decide)]
  exact ⟨⟨fun _ => trivial, fun h => absurd (by decide) h⟩, rfl⟩
theorem pk_sub_toInt' {v : Int} (hv : -1000000 ≤ v ∧ v ≤ 1000000) : (nI 1000000 - nI (1000000 - v).toNat).toInt = v := by
  rw [ti_sub] <;> rw [nI_toInt (by omega), nI_toInt (by omega)] <;> omega
theorem worthAt_in {σ : St} {p N m r : Nat} {L : Nat → Bool} {V : Nat → Int} {β : Nat → Nat} (h : Rnk σ p N L V m β) (hV : ∀ b, -1000000 ≤ V b ∧ V b ≤ 1000000) (hN : 2 ^ N ≤ 1024) (hr : r < m) : pre_X5_worthAt σ p (nI r) ∧ (fn_X5_worthAt σ p (nI r)).toInt = V (β r) := by
  obtain ⟨h1, h2, h3, -, -⟩ := h
  obtain ⟨a1, a2, a3⟩ := h3 r hr
  have hv := hV (β r)
  have hk := keyN_lt (hV (β r)) (b := β r) (by omega)
  unfold pre_X5_worthAt fn_X5_worthAt
  rw [if_neg (nI_pos (by omega)), h1, if_pos (nI_lt hr (by omega)), nI_clamp (by omega), a3, show (1024 : Int32) = nI 1024 from rfl, pk_div hk (by decide) (by decide)]
  refine ⟨⟨fun _ => trivial, fun _ => ⟨fun _ => ⟨vp_in_nI (by omega) (by decide), trivial⟩, fun _ => trivial⟩⟩, ?_⟩
  have e : keyN V (β r) / 1024 = (1000000 - V (β r)).toNat := by unfold keyN; omega
  rw [e, show (1000000 : Int32) = nI 1000000 from rfl, pk_sub_toInt' hv]
theorem worthAt_no {σ : St} {p : Nat} : pre_X5_worthAt σ p (-1) ∧ fn_X5_worthAt σ p (-1) = 0 := by
  unfold pre_X5_worthAt fn_X5_worthAt
  rw [if_pos (by decide)]
  exact ⟨⟨fun _ => trivial, fun h => absurd (by decide) h⟩, rfl⟩
