/-! ===== the component: waste ===== -/
def gvb (x : Nat) : Nat := if x < 10 then 2 ^ x else 0
theorem bitOf_nI {x : Nat} (hx : x < 11) : fn_X3_bitOf (nI x) = nI (gvb x) := by
  unfold fn_X3_bitOf gvb
  by_cases e : x = 10
  · rw [e]; rfl
  · have hne : ¬ nI x = 10 := fun z => e ((nI_eq (b := 10) (by omega) (by decide)).mp z)
    rw [if_neg hne, if_pos (by omega), shl1 (by omega)]
theorem gvb_lt {x : Nat} : gvb x < 1024 := by
  unfold gvb; split
  · next h =>
    have : 2 ^ x ≤ 2 ^ 9 := Nat.pow_le_pow_right (by decide) (by omega)
    omega
  · decide
theorem gvb_own {b x : Nat} : gvb x &&& b = gvb x ↔ (x < 10 → b.testBit x = true) := by
  unfold gvb
  by_cases e : x < 10
  · rw [if_pos e, Nat.and_comm, tb_and]; exact ⟨fun h _ => h, fun h => h e⟩
  · rw [if_neg e, Nat.zero_and]; exact ⟨fun _ z => absurd z e, fun _ => rfl⟩
theorem tb_and0 {b l : Nat} : b &&& 2 ^ l = 0 ↔ b.testBit l = false := by
  constructor
  · intro h
    have h2 := congrArg (fun x => x.testBit l) h
    simp only [Nat.testBit_and, Nat.testBit_two_pow_self, Bool.and_true, Nat.zero_testBit] at h2
    exact h2
  · intro h
    apply Nat.eq_of_testBit_eq
    intro i
    rw [Nat.testBit_and, Nat.testBit_two_pow, Nat.zero_testBit]
    by_cases e : l = i
    · subst e; rw [h]; rfl
    · rw [decide_eq_false e, Bool.and_false]
theorem gvb_for {b x : Nat} : gvb x &&& b = 0 ↔ (x < 10 → b.testBit x = false) := by
  unfold gvb
  by_cases e : x < 10
  · rw [if_pos e, Nat.and_comm, tb_and0]; exact ⟨fun h _ => h, fun h => h e⟩
  · rw [if_neg e, Nat.zero_and]; exact ⟨fun _ z => absurd z e, fun _ => rfl⟩
theorem clr0 (b : Nat) : clr b 0 = b := by unfold clr; simp
theorem gvb_chg {b x y : Nat} : clr b (gvb x) ||| gvb y = get (giv b x) y := by
  unfold get giv gvb
  by_cases e : x < 10 <;> by_cases e2 : y < 10 <;> simp only [e, e2, if_true, if_false, clr0, Nat.or_zero]
theorem gvb_nz {x y : Nat} : gvb x ||| gvb y = 0 ↔ ¬ (x < 10 ∨ y < 10) := by
  rw [Nat.or_eq_zero_iff]
  have h : ∀ x, gvb x = 0 ↔ ¬ x < 10 := fun x => by
    unfold gvb; split
    · next e => have := Nat.two_pow_pos x; exact ⟨fun z => by omega, fun z => absurd e z⟩
    · next e => exact ⟨fun _ => e, fun _ => rfl⟩
  rw [h, h]; omega
/-- by how much a bundle is more -/
theorem growC {σ : St} {p N a b : Nat} {L : Nat → Bool} {V : Nat → Int} (h : TbC σ p N L V) (hV : ∀ b, -1000000 ≤ V b ∧ V b ≤ 1000000) (hN : N ≤ 10) (ha : a < 2 ^ N) (hb : b < 2 ^ N) : pre_X3_growth σ p (nI a) (nI b) ∧ (fn_X3_growth σ p (nI a) (nI b)).toInt = if L b = true then V b - V a else -1 := by
  have hpw := pow10 hN
  have hv : vp_in (nI b) 1024 := vp_in_nI (by omega) (by decide)
  have hva : vp_in (nI a) 1024 := vp_in_nI (by omega) (by decide)
  refine ⟨⟨hv, fun _ => trivial, fun _ => ⟨hv, hva, trivial⟩⟩, ?_⟩
  unfold fn_X3_growth
  rw [nI_clamp (by omega), nI_clamp (by omega)]
  have h1 := h.wor ha
  have h2 := h.wor hb
  have v1 := hV a
  have v2 := hV b
  by_cases e : gI σ (p + 3) b = 0
  · rw [if_pos e, (h.law hb).mp e, if_neg (by decide)]; decide
  · rw [if_neg e]
    have el : L b = true := by
      cases e2 : L b with
      | true => rfl
      | false => exact absurd ((h.law hb).mpr e2) e
    rw [el, if_pos rfl]
    rw [ti_sub] <;> rw [h1, h2] <;> omega
theorem betters_C {d n : Nat} {σ : St} {w : Wd} {pd : Nat → Nat} {t : Tb} {h : Nat → Nat} {p q x y : Nat} (hn : FIX ≤ n) (hd : 1 ≤ d) (hW : CW σ n w pd t h) (hw : WW w) (hV : vW t.2) (hh : hOk w h) (hp : p < w.P) (hq : q < w.P) (hx : x < 11) (hy : y < 11) : Cn d n M_X3_betters md_X3_betters [.ref 9, .int (nI p), .int (nI q), .int (nI (gvb x)), .int (nI (gvb y))] σ (liI (fun v σ' => σ' = σ ∧ (v = 1 ∧ wstP t h p q x y ∨ v = 0 ∧ ¬ wstP t h p q x y))) := by
  have hP := hw.P
  have hN := hw.N
  have hpw := pow10 hN
  have h1 := hh p
  have h2 := hh q
  have gx := gvb_lt (x := x)
  have gy := gvb_lt (x := y)
  have hv : vp_in (nI p) 8 := vp_in_nI (by omega) (by decide)
  have hv2 : vp_in (nI q) 8 := vp_in_nI (by omega) (by decide)
  generalize hQ : (fun (v : Int32) (σ' : St) => σ' = σ ∧ (v = 1 ∧ wstP t h p q x y ∨ v = 0 ∧ ¬ wstP t h p q x y)) = Q
  have no : ¬ wstP t h p q x y → Q 0 σ := fun z => by rw [← hQ]; exact ⟨rfl, Or.inr ⟨rfl, z⟩⟩
  have lt : ∀ a b, a &&& b ≤ a := fun a b => Nat.and_le_left
  have c1 : nI (gvb x) &&& nI (h p) = nI (gvb x) ↔ (x < 10 → (h p).testBit x = true) := by
    rw [nI_and, nI_eq (by have := lt (gvb x) (h p); omega) (by omega)]; exact gvb_own
  have c2 : nI (gvb y) &&& nI (h q) = nI (gvb y) ↔ (y < 10 → (h q).testBit y = true) := by
    rw [nI_and, nI_eq (by have := lt (gvb y) (h q); omega) (by omega)]; exact gvb_own
  have c3 : nI (gvb x) &&& nI (h q) = 0 ↔ (x < 10 → (h q).testBit x = false) := by
    rw [nI_and, nI_z (by have := lt (gvb x) (h q); omega)]; exact gvb_for
  have c4 : nI (gvb y) &&& nI (h p) = 0 ↔ (y < 10 → (h p).testBit y = false) := by
    rw [nI_and, nI_z (by have := lt (gvb y) (h p); omega)]; exact gvb_for
  have so : ∀ b x y z, chgO b x y = some z → (x < 10 → b.testBit x = true) ∧ (y < 10 → b.testBit y = false) ∧ z = get (giv b x) y := fun b x y z e => by
    unfold chgO at e
    split at e
    · cases e
    · next hh =>
      cases e
      refine ⟨fun hx => ?_, fun hy => ?_, rfl⟩
      · cases eb : b.testBit x with
        | true => rfl
        | false => exact absurd (Or.inl ⟨hx, eb⟩) hh
      · cases eb : b.testBit y with
        | false => rfl
        | true => exact absurd (Or.inr ⟨hy, eb⟩) hh
  have w1 : wstP t h p q x y → (x < 10 → (h p).testBit x = true) := fun ⟨a, b, e1, e2, _⟩ => (so _ _ _ _ e1).1
  have w4 : wstP t h p q x y → (y < 10 → (h p).testBit y = false) := fun ⟨a, b, e1, e2, _⟩ => (so _ _ _ _ e1).2.1
  have w2 : wstP t h p q x y → (y < 10 → (h q).testBit y = true) := fun ⟨a, b, e1, e2, _⟩ => (so _ _ _ _ e2).1
  have w3 : wstP t h p q x y → (x < 10 → (h q).testBit x = false) := fun ⟨a, b, e1, e2, _⟩ => (so _ _ _ _ e2).2.1
  refine S_X3_betters hn hd ⟨hv, hv2, ?_⟩
  rw [nI_clamp (by omega), nI_clamp (by omega), hW.2.1 p hp, hW.2.1 q hq]
  refine ⟨fun k => ⟨fun _ => ⟨fun _ => no (fun z => k (c1.mpr (w1 z))), fun z => absurd rfl z⟩, fun _ => ⟨fun _ => ⟨fun _ => no (fun z => k (c1.mpr (w1 z))), fun z => absurd rfl z⟩, fun _ => ⟨fun _ => no (fun z => k (c1.mpr (w1 z))), fun z => absurd rfl z⟩⟩⟩, fun k1 => ⟨fun k => ⟨fun _ => ⟨fun _ => no (fun z => k (c2.mpr (w2 z))), fun z => absurd rfl z⟩, fun _ => ⟨fun _ => ⟨fun _ => no (fun z => k (c2.mpr (w2 z))), fun z => absurd rfl z⟩, fun _ => ⟨fun _ => no (fun z => k (c2.mpr (w2 z))), fun z => absurd rfl z⟩⟩⟩, fun k2 => ⟨fun k => ⟨fun z => absurd z (by decide), fun _ => ⟨fun _ => no (fun z => k (c3.mpr (w3 z))), fun z => absurd rfl z⟩⟩, fun k3 => ⟨fun k => ⟨fun z => absurd z (by decide), fun _ => ⟨fun _ => no (fun z => k (c4.mpr (w4 z))), fun z => absurd rfl z⟩⟩, fun k4 => ⟨fun z => absurd z (by decide), fun _ => ⟨fun z => absurd z (by decide), fun _ => ?_⟩⟩⟩⟩⟩⟩
  have m1 := c1.mp k1
  have m2 := c2.mp k2
  have m3 := c3.mp k3
  have m4 := c4.mp k4
  have eor : nI (gvb x) ||| nI (gvb y) = 0 ↔ ¬ (x < 10 ∨ y < 10) := by
    rw [nI_or, nI_z (by have := Nat.or_lt_two_pow (n := 10) gx gy; omega)]; exact gvb_nz
  have sa : ∀ {b x y}, (x < 10 → b.testBit x = true) → (y < 10 → b.testBit y = false) → chgO b x y = some (get (giv b x) y) := fun {b x y} e1 e2 => by
    unfold chgO; rw [if_neg]
    rintro (⟨z1, z2⟩ | ⟨z1, z2⟩)
    · rw [e1 z1] at z2; cases z2
    · rw [e2 z1] at z2; cases z2
  have ea := sa m1 m4
  have eb := sa m2 m3
  obtain ⟨p1, p2, p3, p4⟩ := hW.1.2.2 p hp
  obtain ⟨q1, q2, q3, q4⟩ := hW.1.2.2 q hq
  have gl : ∀ {b x y}, b < 2 ^ w.N → (y < 10 → ∃ c, c < 2 ^ w.N ∧ c.testBit y = true) → get (giv b x) y < 2 ^ w.N := fun {b x y} hb hc => by
    have h5 : giv b x < 2 ^ w.N := by
      unfold giv; split
      · have := clr_le b (2 ^ x); omega
      · exact hb
    unfold get; split
    · next e =>
      obtain ⟨c, c5, c6⟩ := hc e
      refine or2_lt h5 ?_
      have := Nat.ge_two_pow_of_testBit c6
      exact (Nat.pow_lt_pow_iff_right (by decide)).mp (show 2 ^ y < 2 ^ w.N by omega)
    · exact h5
  have la := gl (x := x) h1 (fun e => ⟨h q, h2, m2 e⟩)
  have lb := gl (x := y) h2 (fun e => ⟨h p, h1, m1 e⟩)
  obtain ⟨r1, r2⟩ := growC p4 (hV p) hN h1 la
  obtain ⟨s1, s2⟩ := growC q4 (hV q) hN h2 lb
  have z0 : (0 : Int32).toInt = 0 := by decide
  have vp1 := hV p (h p)
  have vp2 := hV p (get (giv (h p) x) y)
  have vq1 := hV q (h q)
  have vq2 := hV q (get (giv (h q) y) x)
  refine ⟨fun k5 => ?_, fun k5 => no (fun z => ?_)⟩
  · refine ⟨hv, pd p, p1, p2, ?_⟩
    rw [nI_clr, nI_or, gvb_chg, nI_clr, nI_or, gvb_chg]
    refine ⟨r1, hv2, pd q, q1, q2, s1, fun k => no (fun z => ?_), fun k6 => ⟨fun k => no (fun z => ?_), fun k7 => ⟨fun k => no (fun z => ?_), fun k8 => ?_⟩⟩⟩
    · obtain ⟨a, b, e1, e2, e3, e4, e5, e6, e7⟩ := z
      rw [ea] at e1; cases e1
      have := lt_ti.mp k
      rw [r2, if_pos e3, z0] at this; omega
    · obtain ⟨a, b, e1, e2, e3, e4, e5, e6, e7⟩ := z
      rw [eb] at e2; cases e2
      have := lt_ti.mp k
      rw [s2, if_pos e4, z0] at this; omega
    · obtain ⟨a, b, e1, e2, e3, e4, e5, e6, e7⟩ := z
      rw [ea] at e1; cases e1
      rw [eb] at e2; cases e2
      have := le_ti.mp k
      rw [ti_add, r2, s2, if_pos e3, if_pos e4, z0] at this
      · omega
      · rw [r2, s2, if_pos e3, if_pos e4]; omega
      · rw [r2, s2, if_pos e3, if_pos e4]; omega
    · have t1 : ¬ _ < _ := fun z => k6 (lt_ti.mpr z)
      have t2 : ¬ _ < _ := fun z => k7 (lt_ti.mpr z)
      have t3 : ¬ _ ≤ _ := fun z => k8 (le_ti.mpr z)
      rw [r2, z0] at t1
      rw [s2, z0] at t2
      have l1 : t.1 p (get (giv (h p) x) y) = true := by
        cases e : t.1 p (get (giv (h p) x) y) with
        | true => rfl
        | false => rw [e] at t1; simp at t1
      have l2 : t.1 q (get (giv (h q) y) x) = true := by
        cases e : t.1 q (get (giv (h q) y) x) with
        | true => rfl
        | false => rw [e] at t2; simp at t2
      rw [if_pos l1] at t1 r2
      rw [if_pos l2] at t2 s2
      rw [ti_add, r2, s2, z0] at t3
      · rw [← hQ]
        exact ⟨rfl, Or.inl ⟨rfl, _, _, ea, eb, l1, l2, by omega, by omega, by omega⟩⟩
      · rw [r2, s2]; omega
      · rw [r2, s2]; omega
  · have := eor.mp k5
    rw [show x = 10 by omega, show y = 10 by omega] at z
    exact wst_nn z
/-- what is kept of a swap -/
def Swp (σ : St) (p q x y : Nat) : Prop := gI σ 39 0 = nI p ∧ gI σ 39 1 = nI q ∧ gI σ 39 2 = nI x ∧ gI σ 39 3 = nI y
theorem findSwap_C {d n : Nat} {σ : St} {w : Wd} {pd : Nat → Nat} {t : Tb} {h : Nat → Nat} {p q : Nat} (hn : FIX ≤ n) (hd : 2 ≤ d) (hW : CW σ n w pd t h) (hw : WW w) (hV : vW t.2) (hh : hOk w h) (hp : p < w.P) (hq : q < w.P) : Cn d n M_X3_findSwap md_X3_findSwap [.ref 9, .int (nI p), .int (nI q)] σ (liI (fun v σ' => (v = 0 ∧ σ' = σ ∧ ∀ j, j < 121 → ¬ wstP t h p q (j / 11) (j % 11)) ∨ v = 1 ∧ ∃ j, j < 121 ∧ wstP t h p q (j / 11) (j % 11) ∧ (∀ i, i < j → ¬ wstP t h p q (i / 11) (i % 11)) ∧ Swp σ' p q (j / 11) (j % 11))) := by
  refine S_X3_findSwap hn (by omega) ?_
  generalize hQ : (fun (v : Int32) (σ' : St) => (v = 0 ∧ σ' = σ ∧ ∀ j, j < 121 → ¬ wstP t h p q (j / 11) (j % 11)) ∨ v = 1 ∧ ∃ j, j < 121 ∧ wstP t h p q (j / 11) (j % 11) ∧ (∀ i, i < j → ¬ wstP t h p q (i / 11) (i % 11)) ∧ Swp σ' p q (j / 11) (j % 11)) = Q
  have lt10 : ∀ x, x < 2 ^ 31 → ((10 : Int32) < nI x ↔ 10 < x) := fun x hx => by rw [lt_ti, nI_toInt hx, show (10 : Int32).toInt = 10 by decide]; omega
  have outer : ∀ x, x ≤ 11 → (∀ j, j < 11 * x → ¬ wstP t h p q (j / 11) (j % 11)) → K_X3_findSwap_2 d n σ Q σ (nI p) (nI q) (nI x) := by
    refine up_ind (N := 11) ?_ ?_
    · intro hno
      refine B_X3_findSwap_2 hn (by omega) ⟨fun _ => ?_, fun z => absurd ((lt10 11 (by decide)).mpr (by decide)) z⟩
      rw [← hQ]; exact Or.inl ⟨rfl, rfl, fun j hj => hno j (by omega)⟩
    · intro x hx ih hno
      refine B_X3_findSwap_2 hn (by omega) ⟨fun z => absurd ((lt10 x (by omega)).mp z) (by omega), fun _ => ?_⟩
      have inn : ∀ y, y ≤ 11 → (∀ j, j < 11 * x + y → ¬ wstP t h p q (j / 11) (j % 11)) → K_X3_findSwap_11 d n σ Q σ (nI p) (nI q) (nI x) (nI y) := by
        refine up_ind (N := 11) ?_ ?_
        · intro hno2
          refine B_X3_findSwap_11 hn (by omega) ⟨fun _ => ?_, fun z => absurd ((lt10 11 (by decide)).mpr (by decide)) z⟩
          rw [nI_1]; exact ih (fun j hj => hno2 j (by omega))
        · intro y hy ih2 hno2
          have e1 : (11 * x + y) / 11 = x := by omega
          have e2 : (11 * x + y) % 11 = y := by omega
          refine B_X3_findSwap_11 hn (by omega) ⟨fun z => absurd ((lt10 y (by omega)).mp z) (by omega), fun _ => ?_⟩
          rw [bitOf_nI (by omega), bitOf_nI (by omega), nI_1]
          refine ⟨_, betters_C hn (by omega) hW hw hV hh hp hq (by omega) (by omega), ?_⟩
          rintro v σ1 ⟨rfl, hv⟩ hf
          refine ⟨fun hv0 => ih2 (fun j hj => ?_), fun hv0 => ?_⟩
          · by_cases e : j = 11 * x + y
            · rw [e, e1, e2]
              rcases hv with ⟨z, -⟩ | ⟨-, z⟩
              · rw [hv0] at z; cases z
              · exact z
            · exact hno2 j (by omega)
          · have hwst : wstP t h p q x y := by
              rcases hv with ⟨-, z⟩ | ⟨z, -⟩
              · exact z
              · exact absurd z hv0
            rw [← hQ]
            refine Or.inr ⟨rfl, 11 * x + y, by omega, by rw [e1, e2]; exact hwst, hno2, ?_⟩
            rw [e1, e2]
            unfold Swp
            simp (disch := omega) only [gI_sI_ne, gI_sI_same]
            exact ⟨trivial, trivial, trivial, trivial⟩
      exact inn 0 (by omega) (fun j hj => hno j (by omega))
  exact outer 0 (by omega) (fun j hj => absurd hj (by omega))
theorem findWaste_C {d n : Nat} {σ : St} {w : Wd} {pd : Nat → Nat} {t : Tb} {h : Nat → Nat} (hn : FIX ≤ n) (hd : 3 ≤ d) (hW : CW σ n w pd t h) (hw : WW w) (hV : vW t.2) (hh : hOk w h) : Cn d n M_X3_findWaste md_X3_findWaste [.ref 9] σ (liI (fun v σ' => (v = 0 ∧ wstO w t h = none) ∨ v = 1 ∧ ∃ m, wstO w t h = some m ∧ Swp σ' (m / 968) (m / 121 % 8) (m % 121 / 11) (m % 121 % 11))) := by
  have hP := hw.P
  refine S_X3_findWaste hn (by omega) ?_
  generalize hQ : (fun (v : Int32) (σ' : St) => (v = 0 ∧ wstO w t h = none) ∨ v = 1 ∧ ∃ m, wstO w t h = some m ∧ Swp σ' (m / 968) (m / 121 % 8) (m % 121 / 11) (m % 121 % 11)) = Q
  have loop : ∀ p, p ≤ w.P → (∀ i, i < 968 * p → ¬ wstS w t h i) → K_X3_findWaste_2 d n σ Q σ (nI p) := by
    refine up_ind (N := w.P) ?_ ?_
    · intro hno
      refine B_X3_findWaste_2 hn (by omega) ⟨fun _ => ?_, fun z => absurd (by rw [hW.1.2.1]; exact nI_le (Nat.le_refl _) (by omega)) z⟩
      rw [← hQ]
      refine Or.inl ⟨rfl, wstO_none (fun i hi => ?_)⟩
      by_cases e : i < 968 * w.P
      · exact hno i e
      · rintro ⟨z, -⟩; omega
    · intro p hp ih hno
      refine B_X3_findWaste_2 hn (by omega) ⟨fun z => absurd z (by rw [hW.1.2.1]; exact nI_ge hp (by omega)), fun _ => ?_⟩
      have inn : ∀ q, q ≤ w.P → p < q → (∀ i, i < 968 * p + 121 * q → ¬ wstS w t h i) → K_X3_findWaste_17 d n σ Q σ (nI p) (nI q) := by
        refine up_ind (N := w.P) ?_ ?_
        · intro _ hno2
          refine B_X3_findWaste_17 hn (by omega) ⟨fun _ => ?_, fun z => absurd (by rw [hW.1.2.1]; exact nI_le (Nat.le_refl _) (by omega)) z⟩
          rw [nI_1]
          refine ih (fun i hi => ?_)
          by_cases e : i < 968 * p + 121 * w.P
          · exact hno2 i e
          · rintro ⟨z, -⟩; omega
        · intro q hq ih2 hpq hno2
          refine B_X3_findWaste_17 hn (by omega) ⟨fun z => absurd z (by rw [hW.1.2.1]; exact nI_ge hq (by omega)), fun _ => ⟨_, findSwap_C hn (by omega) hW hw hV hh hp hq, ?_⟩⟩
          have hS : ∀ j, j < 121 → (wstS w t h (968 * p + 121 * q + j) ↔ wstP t h p q (j / 11) (j % 11)) := fun j hj => by
            unfold wstS; rw [show (968 * p + 121 * q + j) / 968 = p by omega, show (968 * p + 121 * q + j) / 121 % 8 = q by omega, show (968 * p + 121 * q + j) % 121 = j by omega]
            exact ⟨fun z => z.2, fun z => ⟨⟨hpq, hq⟩, z⟩⟩
          rw [nI_1]
          rintro v σ1 (⟨rfl, rfl, hz⟩ | ⟨rfl, j, hj, hw2, hmin, hsw⟩) hf
          · refine ⟨fun _ => ih2 (by omega) (fun i hi => ?_), fun z => absurd rfl z⟩
            by_cases e : i < 968 * p + 121 * q
            · exact hno2 i e
            · have := hz (i - (968 * p + 121 * q)) (by omega)
              rw [← hS _ (by omega), show 968 * p + 121 * q + (i - (968 * p + 121 * q)) = i by omega] at this
              exact this
          · refine ⟨fun z => absurd z (by decide), fun _ => ?_⟩
            rw [← hQ]
            refine Or.inr ⟨rfl, 968 * p + 121 * q + j, wstO_some (by omega) ((hS j hj).mpr hw2) (fun i hi => ?_), ?_⟩
            · by_cases e : i < 968 * p + 121 * q
              · exact hno2 i e
              · have := hmin (i - (968 * p + 121 * q)) (by omega)
                rw [← hS _ (by omega), show 968 * p + 121 * q + (i - (968 * p + 121 * q)) = i by omega] at this
                exact this
            · rw [show (968 * p + 121 * q + j) / 968 = p by omega, show (968 * p + 121 * q + j) / 121 % 8 = q by omega, show (968 * p + 121 * q + j) % 121 = j by omega]
              exact hsw
      rw [nI_1]
      refine inn (p + 1) (by omega) (by omega) (fun i hi => ?_)
      by_cases e : i < 968 * p
      · exact hno i e
      · rintro ⟨z, -⟩; omega
  exact loop 0 (by omega) (fun i hi => absurd hi (by omega))
theorem waste_C {d n : Nat} {σ : St} {w : Wd} {a1 a2 : Int32} (hn : FIX ≤ n) (hd : 9 ≤ d) (hR : RC σ n w) (hw : WW w) : Cn d n M_X11_waste md_X11_waste [.ref 0, .int a1, .int a2] σ (liI (fun v σ' => v = wasteV w a1 a2 ∧ RC σ' n w)) := by
  refine Cn.wk (Q := liI (fun v σ' => v = wasteV w a1 a2 ∧ SX σ' n w pdJ id (hdI w) ∧ MK σ' w)) ?_ (by
    rintro v σ' ⟨x, e, h1, h2, h3⟩ hf
    exact ⟨x, e, h1, h2, h3, hR.2.2.st hf (by decide)⟩)
  have hP := hw.P
  have o3 : (3 : Int32).toInt = 3 := by decide
  have no : ¬ (inP a1 6 ∧ inP a2 4) → (fun (v : Int32) (σ' : St) => v = wasteV w a1 a2 ∧ SX σ' n w pdJ id (hdI w) ∧ MK σ' w) (-1) σ := fun h => by
    unfold wasteV; rw [if_neg h]; exact ⟨rfl, hR.1, hR.2.1⟩
  refine S_X11_waste hn (by omega) ⟨fun h => no (fun z => ze.mp h (wayC.mpr z.1)), fun h => ⟨fun h2 => no (fun z => by have := lt0.mp h2; have := z.2.1; omega), fun h2 => ⟨fun h3 => ?_, fun h3 => no (fun z => h3 (le_ti.mpr (by rw [o3]; have := z.2.2; omega)))⟩⟩⟩
  have g1 := wayC.mp h
  have g2 : inP a2 4 := ⟨by have : ¬ _ := fun z => h2 (lt0.mpr z); omega, by have := le_ti.mp h3; rw [o3] at this; omega⟩
  have eV : wasteV w a1 a2 = wstA (wstO w (tM w) (wayH w a1)) a2 := by unfold wasteV; rw [if_pos ⟨g1, g2⟩]
  rw [eV]
  obtain ⟨k, hk, rfl⟩ := inP_ex (by decide) g1
  obtain ⟨c, hc, rfl⟩ := inP_ex (by decide) g2
  unfold wayH; rw [tn_nI (by omega)]
  refine ⟨_, ways_spec hn (by omega) hR.1 hR.2.1 hw hk (fun _ _ => rfl), ?_⟩
  rintro σ1 ⟨s1, k1, w1, -⟩ hf1
  rw [tR_id] at w1
  refine ⟨_, findWaste_C hn (by omega) w1 hw (VM_w w) (wayT_ok hw _ _), ?_⟩
  rintro v σ2 hv hf2
  have s2 := s1.st hf2 (by decide)
  have k2 := k1.st hf2 (by decide)
  rcases hv with ⟨rfl, hO⟩ | ⟨rfl, m, hO, q1, q2, q3, q4⟩
  · refine ⟨fun _ => ⟨?_, s2, k2⟩, fun z => absurd rfl z⟩
    rw [hO]; rfl
  · refine ⟨fun z => absurd z (by decide), fun _ => ⟨vp_in_nI (by omega) (by decide), ?_, s2, k2⟩⟩
    rw [hO, nI_clamp (by omega)]
    show _ = if nI c = 0 then nI (m / 968) else if nI c = 1 then nI (m / 121 % 8) else if nI c = 2 then nI (m % 121 / 11) else nI (m % 121 % 11)
    have hc4 : c = 0 ∨ c = 1 ∨ c = 2 ∨ c = 3 := by omega
    rcases hc4 with e | e | e | e
    · subst e; rw [q1]; rfl
    · subst e; rw [q2]; rfl
    · subst e; rw [q3]; rfl
    · subst e; rw [q4]; rfl
