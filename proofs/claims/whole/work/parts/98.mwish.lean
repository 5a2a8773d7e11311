/-! ===== the model: a draft becomes a row; wish, falsely ===== -/
def rowCell (r q k : Nat) : Prop := q = 50 ∧ k = r ∨ 51 ≤ q ∧ q ≤ 54 ∧ 16 * r ≤ k ∧ k < 16 * r + 16 ∨ (q = 55 ∨ q = 56) ∧ 500 * r ≤ k ∧ k < 500 * r + 500
theorem offS_le (S : List Stm) (i : Nat) : offS S i ≤ (flat S).length := by
  unfold offS
  have h : flat S = flat (S.take i) ++ flat (S.drop i) := by rw [← flat_app, List.take_append_drop]
  rw [h, List.length_append]; omega
theorem RowM.fr3 {σ σ' : St} {r : Nat} {S : List Stm} (h : RowM σ r S) (hS : WR S) (hf : ∀ q k, rowCell r q k → gI σ' q k = gI σ q k) : RowM σ' r S := by
  obtain ⟨h1, h2, h3⟩ := h
  obtain ⟨-, w2, w3⟩ := hS
  refine ⟨by rw [hf _ _ (Or.inl ⟨rfl, rfl⟩)]; exact h1, fun i s hi => ?_, fun t o ht => ?_⟩
  · have hl := (List.getElem?_eq_some_iff.mp hi).1
    rw [hf 51 _ (Or.inr (Or.inl ⟨by omega, by omega, by omega, by omega⟩)), hf 52 _ (Or.inr (Or.inl ⟨by omega, by omega, by omega, by omega⟩)), hf 53 _ (Or.inr (Or.inl ⟨by omega, by omega, by omega, by omega⟩)), hf 54 _ (Or.inr (Or.inl ⟨by omega, by omega, by omega, by omega⟩))]
    exact h2 i s hi
  · have hl := (List.getElem?_eq_some_iff.mp ht).1
    rw [hf 55 _ (Or.inr (Or.inr ⟨by omega, by omega, by omega⟩)), hf 56 _ (Or.inr (Or.inr ⟨by omega, by omega, by omega⟩))]
    exact h3 t o ht
theorem sft {r x : Nat} (hr : r ≤ 8) : nI (4500 + x) + 500 * (nI r - 9) = nI (500 * r + x) := by
  have e : (500 : Int32) * (nI r - 9) = -(nI (4500 - 500 * r)) := by
    rcases (by omega : r = 0 ∨ r = 1 ∨ r = 2 ∨ r = 3 ∨ r = 4 ∨ r = 5 ∨ r = 6 ∨ r = 7 ∨ r = 8) with z | z | z | z | z | z | z | z | z <;> subst z <;> decide
  rw [e, ← Int32.sub_eq_add_neg, nI_sub (by omega)]
  congr 1; omega
theorem becomes_M {d n : Nat} {σ : St} {r : Nat} {S : List Stm} (hn : FIX ≤ n) (hr : r ≤ 8) (hD : DrM σ S) (hS : WR S) : Cn d n M_X12_becomes md_X12_becomes [.ref 11, .int (nI r)] σ (liV (fun σ' => RowM σ' r S ∧ gI σ' 11 20 = gI σ 11 20 + 1 ∧ ∀ q k, ¬ rowCell r q k → ¬ (q = 11 ∧ k = 20) → gI σ' q k = gI σ q k)) := by
  obtain ⟨d1, d2, d3, d4⟩ := hD
  obtain ⟨-, w2, w3⟩ := hS
  have ecl : (nI r).toNatClampNeg = r := nI_clamp (by omega)
  generalize hQ : (fun (σ' : St) => RowM σ' r S ∧ gI σ' 11 20 = gI σ 11 20 + 1 ∧ ∀ q k, ¬ rowCell r q k → ¬ (q = 11 ∧ k = 20) → gI σ' q k = gI σ q k) = Q
  have loop2 : ∀ t, t ≤ (flat S).length → ∀ σ1 : St, (∀ q k, ¬ rowCell r q k → gI σ1 q k = gI σ q k) → gI σ1 50 r = nI S.length → (∀ i s, S[i]? = some s → gI σ1 51 (16 * r + i) = nI s.1 ∧ gI σ1 52 (16 * r + i) = nI (500 * r + offS S i) ∧ gI σ1 53 (16 * r + i) = nI (500 * r + offS S i + s.2.1.length) ∧ gI σ1 54 (16 * r + i) = nI (500 * r + offS S i + s.2.1.length + s.2.2.length)) → (∀ j o, j < t → (flat S)[j]? = some o → gI σ1 55 (500 * r + j) = nI o.1 ∧ gI σ1 56 (500 * r + j) = nI o.2) → K_X12_becomes_121 d n σ Q σ1 (500 * (nI r - 9)) (nI (4500 + t)) := by
    refine up_ind (P := fun t => ∀ σ1 : St, (∀ q k, ¬ rowCell r q k → gI σ1 q k = gI σ q k) → gI σ1 50 r = nI S.length → (∀ i s, S[i]? = some s → gI σ1 51 (16 * r + i) = nI s.1 ∧ gI σ1 52 (16 * r + i) = nI (500 * r + offS S i) ∧ gI σ1 53 (16 * r + i) = nI (500 * r + offS S i + s.2.1.length) ∧ gI σ1 54 (16 * r + i) = nI (500 * r + offS S i + s.2.1.length + s.2.2.length)) → (∀ j o, j < t → (flat S)[j]? = some o → gI σ1 55 (500 * r + j) = nI o.1 ∧ gI σ1 56 (500 * r + j) = nI o.2) → K_X12_becomes_121 d n σ Q σ1 (500 * (nI r - 9)) (nI (4500 + t))) (fun σ1 f1 c1 c2 c3 => ?_) (fun t ht ih σ1 f1 c1 c2 c3 => ?_)
    · have e18 : gI σ1 11 18 = nI (4500 + (flat S).length) := by rw [f1 _ _ (by unfold rowCell; omega)]; exact d2
      refine B_X12_becomes_121 hn ?_
      rw [e18]
      refine ⟨fun _ => ?_, fun z => absurd ((nI_leI (by omega) (by omega)).mpr (Nat.le_refl _)) z⟩
      rw [← hQ]
      refine ⟨⟨by rw [gI_sI_ne (by omega)]; exact c1, fun i s hi => ?_, fun j o hj => ?_⟩, ?_, fun q k h1 h2 => ?_⟩
      · rw [gI_sI_ne (by omega), gI_sI_ne (by omega), gI_sI_ne (by omega), gI_sI_ne (by omega)]; exact c2 i s hi
      · rw [gI_sI_ne (by omega), gI_sI_ne (by omega)]; exact c3 j o (List.getElem?_eq_some_iff.mp hj).1 hj
      · rw [gI_sI_same, f1 _ _ (by unfold rowCell; omega)]
      · rw [gI_sI_ne (by omega)]; exact f1 q k h1
    · have e18 : gI σ1 11 18 = nI (4500 + (flat S).length) := by rw [f1 _ _ (by unfold rowCell; omega)]; exact d2
      refine B_X12_becomes_121 hn ?_
      rw [e18, sft hr, nI_1, nI_clamp (by omega), nI_clamp (by omega)]
      obtain ⟨o, ho⟩ : ∃ o, (flat S)[t]? = some o := ⟨(flat S)[t], List.getElem?_eq_getElem ht⟩
      obtain ⟨q1, q2⟩ := d4 t o ho
      have e55 : gI σ1 55 (4500 + t) = nI o.1 := by rw [f1 _ _ (by unfold rowCell; omega)]; exact q1
      have e56 : gI (sI σ1 55 (500 * r + t) (nI o.1)) 56 (4500 + t) = nI o.2 := by rw [gI_sI_ne (by omega), f1 _ _ (by unfold rowCell; omega)]; exact q2
      rw [e55, e56]
      have v1 : vp_in (nI (4500 + t)) 5000 := vp_in_nI (by omega) (by decide)
      have v2 : vp_in (nI (500 * r + t)) 5000 := vp_in_nI (by omega) (by decide)
      refine ⟨fun z => absurd ((nI_leI (by omega) (by omega)).mp z) (by omega), fun _ => ⟨v1, v2, v1, v2, ?_⟩⟩
      rw [show 4500 + t + 1 = 4500 + (t + 1) by omega]
      refine ih _ (fun q k h => ?_) ?_ (fun i s hi => ?_) (fun j o' hj ho' => ?_)
      · rw [gI_sI_ne (fun z => h (by unfold rowCell; omega)), gI_sI_ne (fun z => h (by unfold rowCell; omega))]; exact f1 q k h
      · rw [gI_sI_ne (by omega), gI_sI_ne (by omega)]; exact c1
      · have hl := (List.getElem?_eq_some_iff.mp hi).1
        have := c2 i s hi
        simp (disch := omega) only [gI_sI_ne]; exact this
      · by_cases ej : j = t
        · subst ej
          rw [ho] at ho'
          cases ho'
          rw [gI_sI_ne (by omega), gI_sI_same, gI_sI_same]; exact ⟨rfl, rfl⟩
        · rw [gI_sI_ne (by omega), gI_sI_ne (by omega), gI_sI_ne (by omega), gI_sI_ne (by omega)]
          exact c3 j o' (by omega) ho'
  have loop1 : ∀ y, y ≤ S.length → ∀ σ1 : St, (∀ q k, ¬ rowCell r q k → gI σ1 q k = gI σ q k) → gI σ1 50 r = nI S.length → (∀ i s, i < y → S[i]? = some s → gI σ1 51 (16 * r + i) = nI s.1 ∧ gI σ1 52 (16 * r + i) = nI (500 * r + offS S i) ∧ gI σ1 53 (16 * r + i) = nI (500 * r + offS S i + s.2.1.length) ∧ gI σ1 54 (16 * r + i) = nI (500 * r + offS S i + s.2.1.length + s.2.2.length)) → K_X12_becomes_24 d n σ Q σ1 (nI r) (500 * (nI r - 9)) (nI y) := by
    refine up_ind (P := fun y => ∀ σ1 : St, (∀ q k, ¬ rowCell r q k → gI σ1 q k = gI σ q k) → gI σ1 50 r = nI S.length → (∀ i s, i < y → S[i]? = some s → gI σ1 51 (16 * r + i) = nI s.1 ∧ gI σ1 52 (16 * r + i) = nI (500 * r + offS S i) ∧ gI σ1 53 (16 * r + i) = nI (500 * r + offS S i + s.2.1.length) ∧ gI σ1 54 (16 * r + i) = nI (500 * r + offS S i + s.2.1.length + s.2.2.length)) → K_X12_becomes_24 d n σ Q σ1 (nI r) (500 * (nI r - 9)) (nI y)) (fun σ1 f1 c1 c2 => ?_) (fun y hy ih σ1 f1 c1 c2 => ?_)
    · refine B_X12_becomes_24 hn ⟨vp_in_nI (by omega) (by decide), ?_⟩
      rw [ecl, c1]
      refine ⟨fun _ => ?_, fun z => absurd ((nI_leI (by omega) (by omega)).mpr (Nat.le_refl _)) z⟩
      exact loop2 0 (Nat.zero_le _) σ1 f1 c1 (fun i s hi => c2 i s (List.getElem?_eq_some_iff.mp hi).1 hi) (fun j o hj => absurd hj (Nat.not_lt_zero _))
    · obtain ⟨s, hs⟩ : ∃ s, S[y]? = some s := ⟨S[y], List.getElem?_eq_getElem hy⟩
      obtain ⟨q1, q2, q3, q4⟩ := d3 y s hs
      have ho := offS_le S y
      refine B_X12_becomes_24 hn ⟨vp_in_nI (by omega) (by decide), ?_⟩
      rw [ecl, c1]
      refine ⟨fun z => absurd ((nI_leI (by omega) (by omega)).mp z) (by omega), fun _ => ?_⟩
      rw [show (144 : Int32) + nI y = nI (144 + y) from nI_add (a := 144) (b := y), show (16 : Int32) * nI r = nI (16 * r) from nI_mul (a := 16) (by omega), nI_add, nI_1, nI_clamp (by omega), nI_clamp (by omega)]
      have v1 : vp_in (nI (144 + y)) 160 := vp_in_nI (by omega) (by decide)
      have v2 : vp_in (nI (16 * r + y)) 160 := vp_in_nI (by omega) (by decide)
      refine ⟨v1, v2, v1, v2, v1, v2, v1, v2, ?_⟩
      have e51 : gI σ1 51 (144 + y) = nI s.1 := by rw [f1 _ _ (by unfold rowCell; omega)]; exact q1
      have e52 : gI σ1 52 (144 + y) = nI (4500 + offS S y) := by rw [f1 _ _ (by unfold rowCell; omega)]; exact q2
      have e53 : gI σ1 53 (144 + y) = nI (4500 + (offS S y + s.2.1.length)) := by rw [f1 _ _ (by unfold rowCell; omega), ← Nat.add_assoc]; exact q3
      have e54 : gI σ1 54 (144 + y) = nI (4500 + (offS S y + s.2.1.length + s.2.2.length)) := by rw [f1 _ _ (by unfold rowCell; omega), ← Nat.add_assoc, ← Nat.add_assoc]; exact q4
      simp (disch := omega) only [gI_sI_ne]
      rw [e51, e52, e53, e54, sft hr, sft hr, sft hr]
      refine ih _ (fun q k h => ?_) ?_ (fun i s' hi hs' => ?_)
      · rw [gI_sI_ne (fun z => h (by unfold rowCell; omega)), gI_sI_ne (fun z => h (by unfold rowCell; omega)), gI_sI_ne (fun z => h (by unfold rowCell; omega)), gI_sI_ne (fun z => h (by unfold rowCell; omega))]; exact f1 q k h
      · rw [gI_sI_ne (by omega), gI_sI_ne (by omega), gI_sI_ne (by omega), gI_sI_ne (by omega)]; exact c1
      · by_cases ej : i = y
        · subst ej
          rw [hs] at hs'
          cases hs'
          refine ⟨?_, ?_, ?_, ?_⟩
          · rw [gI_sI_ne (by omega), gI_sI_ne (by omega), gI_sI_ne (by omega), gI_sI_same]
          · rw [gI_sI_ne (by omega), gI_sI_ne (by omega), gI_sI_same]
          · rw [gI_sI_ne (by omega), gI_sI_same]; congr 1; omega
          · rw [gI_sI_same]; congr 1; omega
        · have := c2 i s' (by omega) hs'
          simp (disch := omega) only [gI_sI_ne]; exact this
  refine S_X12_becomes hn ⟨vp_in_nI (by omega) (by decide), ?_⟩
  rw [ecl, d1]
  refine loop1 0 (Nat.zero_le _) _ (fun q k h => gI_sI_ne (fun z => h (Or.inl ⟨z.1, z.2⟩))) (gI_sI_same _ _ _ _) (fun i s hi => absurd hi (Nat.not_lt_zero _))
/-! what reading changes -/
theorem reads_fr {σ σ' : St} (hf : Fr md_X12_reads σ σ') (q k : Nat) (a : ¬ (50 ≤ q ∧ q ≤ 56)) (b : q ≠ 60) (c : ¬ (q = 11 ∧ (14 ≤ k ∧ k ≤ 19 ∨ k = 33 ∨ k = 34))) : gI σ' q k = gI σ q k := hf.1 q k (by
  rintro (z | z | z | z) <;> simp [md_X12_reads] at z <;> omega)
theorem RMo.row {tx : Nat → Nat} {e : Nat} {S : List Stm} {σ0 σ' : St} {r : RdS} {v : Int32} (h : RMo tx e S σ0 r v σ') {k : Nat} (hk : k < 9) {S' : List Stm} (hR : RowM σ0 k S') (hS : WR S') : RowM σ' k S' := hR.fr3 hS (fun q j hq => h.2.1 q j (by unfold rowCell at hq; unfold lowR; omega))
theorem nI_ofInt (f : Nat) : nI f = Int32.ofInt (f : Int) := by
  show Int32.ofNat f = _
  rw [Int32.ofInt_eq_ofNat]
theorem fail_MG {σ τ : St} {w : Wd} {f : Nat} (hM : MG σ w) (hw : WW w) (h14 : gI τ 11 14 = 0) (h19 : gI τ 11 19 = nI f) (hrow : ∀ r, r < 9 → RowM τ r (w.ws r)) (g : ∀ q k, ¬ (50 ≤ q ∧ q ≤ 56) → q ≠ 60 → ¬ (q = 11 ∧ (14 ≤ k ∧ k ≤ 19 ∨ k = 33 ∨ k = 34)) → gI τ q k = gI σ q k) : MG τ (failW w f) := by
  obtain ⟨⟨x1, x2, x3, x4, x5, x6, x7, x8, x9, x10, x11, x12, x13, x14, v, x15, x16⟩, h38, hc⟩ := hM
  have g11 : ∀ k, ¬ (14 ≤ k ∧ k ≤ 19 ∨ k = 33 ∨ k = 34) → gI τ 11 k = gI σ 11 k := fun k hk => g 11 k (by omega) (by omega) (by omega)
  have gr : ∀ q k, ¬ (50 ≤ q ∧ q ≤ 56) → q ≠ 60 → q ≠ 11 → gI τ q k = gI σ q k := fun q k a b c => g q k a b (by omega)
  refine ⟨⟨?_, ?_, ?_, ?_, ?_, fun l' hl' => ?_, fun k hk => ?_, fun j hj => ?_, hrow, ?_, h14, fun i hi => absurd hi (Nat.not_lt_zero _), ?_, ?_, v, x15, ?_⟩, ?_, fun e r hr => ?_⟩
  · rw [g11 _ (by omega)]; exact x1
  · rw [g11 _ (by omega)]; exact x2
  · rw [g11 _ (by omega)]; exact x3
  · rw [g11 _ (by omega)]; exact x4
  · rw [g11 _ (by omega)]; exact x5
  · rw [gr 41 _ (by omega) (by omega) (by omega), gr 42 _ (by omega) (by omega) (by omega), gr 43 _ (by omega) (by omega) (by omega), gr 44 _ (by omega) (by omega) (by omega)]; exact x6 l' hl'
  · rw [gr 45 _ (by omega) (by omega) (by omega), gr 46 _ (by omega) (by omega) (by omega)]; exact x7 k hk
  · rw [gr 47 _ (by omega) (by omega) (by omega), gr 48 _ (by omega) (by omega) (by omega), gr 49 _ (by omega) (by omega) (by omega)]; exact x8 j hj
  · rw [g11 _ (by omega)]; exact x10
  · rw [h19]; exact nI_ofInt f
  · rw [g11 _ (by omega)]; exact x14
  · rw [g11 _ (by omega)]; exact x16
  · rw [g11 _ (by omega)]; exact h38
  · rw [g11 _ (by omega), g11 _ (by omega)] at e
    rw [law_ext (w := w) (w' := failW w f) (j := r) rfl rfl rfl rfl rfl rfl rfl rfl rfl rfl, wth_ext (w := w) (w' := failW w f) (j := r) rfl rfl rfl rfl rfl]
    exact (hc e r hr).fr (fun k _ _ => ⟨gr _ _ (by omega) (by omega) (by omega), gr _ _ (by omega) (by omega) (by omega)⟩)
theorem said_MG {σ τ : St} {w : Wd} {r : Nat} {S : List Stm} {l : Bool} (hM : MG σ w) (hw : WW w) (hv : w.ver + 1 < 2 ^ 30) (h14 : gI τ 11 14 = 0) (h19 : gI τ 11 19 = -1) (h20 : gI τ 11 20 = nI (w.ver + 1)) (h21 : gI τ 11 21 = if l = true then 1 else 0) (hr : RowM τ r S) (hrow : ∀ k, k < 9 → k ≠ r → RowM τ k (w.ws k)) (g : ∀ q k, ¬ (50 ≤ q ∧ q ≤ 56) → q ≠ 60 → ¬ (q = 11 ∧ (14 ≤ k ∧ k ≤ 21 ∨ k = 33 ∨ k = 34)) → gI τ q k = gI σ q k) : MG τ (saidW w r S l) := by
  obtain ⟨⟨x1, x2, x3, x4, x5, x6, x7, x8, x9, x10, x11, x12, x13, x14, v, x15, x16⟩, h38, hc⟩ := hM
  have g11 : ∀ k, ¬ (14 ≤ k ∧ k ≤ 21 ∨ k = 33 ∨ k = 34) → gI τ 11 k = gI σ 11 k := fun k hk => g 11 k (by omega) (by omega) (by omega)
  have gr : ∀ q k, ¬ (50 ≤ q ∧ q ≤ 56) → q ≠ 60 → q ≠ 11 → gI τ q k = gI σ q k := fun q k a b c => g q k a b (by omega)
  refine MG.next ⟨?_, ?_, ?_, ?_, ?_, fun l' hl' => ?_, fun k hk => ?_, fun j hj => ?_, fun k hk => ?_, h21, h14, fun i hi => absurd hi (Nat.not_lt_zero _), ?_, h20, v, ?_, ?_⟩ ?_ hv ⟨v, ?_, ?_⟩
  · rw [g11 _ (by omega)]; exact x1
  · rw [g11 _ (by omega)]; exact x2
  · rw [g11 _ (by omega)]; exact x3
  · rw [g11 _ (by omega)]; exact x4
  · rw [g11 _ (by omega)]; exact x5
  · rw [gr 41 _ (by omega) (by omega) (by omega), gr 42 _ (by omega) (by omega) (by omega), gr 43 _ (by omega) (by omega) (by omega), gr 44 _ (by omega) (by omega) (by omega)]; exact x6 l' hl'
  · rw [gr 45 _ (by omega) (by omega) (by omega), gr 46 _ (by omega) (by omega) (by omega)]; exact x7 k hk
  · rw [gr 47 _ (by omega) (by omega) (by omega), gr 48 _ (by omega) (by omega) (by omega), gr 49 _ (by omega) (by omega) (by omega)]; exact x8 j hj
  · show RowM τ k (puS w.ws r S k)
    by_cases e : k = r
    · subst e; rw [puS_same]; exact hr
    · rw [puS_ne e]; exact hrow k hk e
  · rw [h19]; show (-1 : Int32) = Int32.ofInt (-1); decide
  · show v ≤ w.ver + 1; omega
  · rw [g11 _ (by omega)]; exact x16
  · rw [g11 _ (by omega)]; exact h38
  · show v < w.ver + 1; omega
  · rw [g11 _ (by omega)]; exact x16
theorem becomes_low {σ1 σ2 : St} {r k : Nat} {S' : List Stm} (hne : k ≠ r) (h : RowM σ1 k S') (hS : WR S') (pf : ∀ q k, ¬ rowCell r q k → ¬ (q = 11 ∧ k = 20) → gI σ2 q k = gI σ1 q k) : RowM σ2 k S' := h.fr3 hS (fun q j hq => pf q j (by unfold rowCell at hq ⊢; omega) (by unfold rowCell at hq; omega))
theorem wish_M {d n : Nat} {σ : St} {w : Wd} {a1 a2 : Int32} (hn : FIX ≤ n) (hd : 38 ≤ d) (hM : MG σ w) (hw : WW w) (hv : w.ver + 1 < 2 ^ 30) : Cn d n M_X12_wish md_X12_wish [.ref 11, .int a1, .int a2] σ (liI (fun v σ' => v = wishV w a1 a2 ∧ MG σ' (wishW w a1 a2))) := by
  have hP := hw.P
  have hT := hw.T
  have eT : gI σ 11 14 = nI w.T := hM.1.2.2.2.2.2.2.2.2.2.2.1
  have ein : fn_X12_isIn a2 0 (gI σ 11 14) ≠ 0 ↔ inP a2 (w.T + 1) := isIn_in (by omega) (by rw [eT, nI_toInt (by omega)]; omega)
  refine S_X12_wish hn (by omega) ⟨fun h => ?_, fun h => ⟨fun h2 => ?_, fun h2 => ?_⟩⟩
  · have ng : ¬ (inP a1 w.P ∧ inP a2 (w.T + 1)) := fun z => ze.mp h ((pers_in hM.1 hw).mpr z.1)
    unfold wishV wishW; rw [if_neg ng, if_neg ng]; exact ⟨rfl, hM⟩
  · have g1 := (pers_in hM.1 hw).mp h
    have g2 := ein.mp h2
    obtain ⟨p, hp, rfl⟩ := inP_ex (by omega) g1
    obtain ⟨e, he, rfl⟩ := inP_ex (by omega) g2
    have ev : wishV w (nI p) (nI e) = if (rdT w e).1 = true then nI (rdT w e).2.2.length else -1 := by unfold wishV; rw [if_pos ⟨g1, g2⟩, tn_nI (by omega)]
    have ew : wishW w (nI p) (nI e) = if (rdT w e).1 = true then saidW w p (rdT w e).2.2 w.lie else failW w (sT w.tp e (rdT w e).2.1) := by unfold wishW; rw [if_pos ⟨g1, g2⟩, tn_nI (by omega), tn_nI (by omega)]
    rw [ev, ew]
    refine ⟨_, reads_M (tx := w.tp) hn (by omega) eT (by omega) hT (fun k hk => hM.1.2.2.2.2.2.2.2.2.2.2.2.1 k (by omega)) hw.tp, ?_⟩
    rintro v σ1 hO hf
    have hO' := hO
    obtain ⟨o0, o1, o⟩ := hO
    have f1 := reads_fr hf
    rcases o with ⟨y1, rfl, y3, y4⟩ | ⟨y1, rfl, y3⟩
    · have hWR := rdT_WR (w := w) (e := e) (by omega) y1
      rw [if_pos (show (rdT w e).1 = true from y1), if_pos (show (rdT w e).1 = true from y1)]
      refine ⟨fun _ => ?_, fun z => absurd z (by decide)⟩
      refine ⟨_, becomes_M (S := (rdT w e).2.2) hn (by omega) y4 hWR.1, ?_⟩
      rintro σ2 ⟨p1, p2, pf⟩ hf2
      refine ⟨vp_in_nI (by omega) (by decide), ?_, ?_⟩
      · rw [nI_clamp (by omega)]; exact p1.1
      · refine said_MG hM hw hv ?_ ?_ ?_ ?_ p1 (fun k hk hne => ?_) (fun q k x1 x2 x3 => ?_)
        · rw [pf _ _ (by unfold rowCell; omega) (by omega)]; exact o0
        · rw [pf _ _ (by unfold rowCell; omega) (by omega)]; exact y3
        · rw [p2, f1 _ _ (by omega) (by omega) (by omega), hM.1.ver, nI_1]
        · rw [pf _ _ (by unfold rowCell; omega) (by omega), f1 _ _ (by omega) (by omega) (by omega)]
          exact hM.1.2.2.2.2.2.2.2.2.2.1
        · exact becomes_low hne (hO'.row hk (hM.1.row k hk) (hw.ws k)) (hw.ws k) pf
        · rw [pf _ _ (by unfold rowCell; omega) (by omega)]; exact f1 q k x1 x2 (by omega)
    · have nf : ¬ (rdT w e).1 = true := by rw [show (rdT w e).1 = false from y1]; decide
      rw [if_neg nf, if_neg nf]
      refine ⟨fun z => absurd rfl z, fun _ => ⟨rfl, ?_⟩⟩
      exact fail_MG hM hw o0 y3 (fun k hk => hO'.row hk (hM.1.row k hk) (hw.ws k)) (fun q k x1 x2 x3 => f1 q k x1 x2 x3)
  · have ng : ¬ (inP a1 w.P ∧ inP a2 (w.T + 1)) := fun z => ze.mp h2 (ein.mpr z.2)
    unfold wishV wishW; rw [if_neg ng, if_neg ng]; exact ⟨rfl, hM⟩
theorem falsely_M {d n : Nat} {σ : St} {w : Wd} {a2 : Int32} (hn : FIX ≤ n) (hd : 38 ≤ d) (hM : MG σ w) (hw : WW w) (hv : w.ver + 1 < 2 ^ 30) : Cn d n M_X12_falsely md_X12_falsely [.ref 11, .int a2] σ (liI (fun v σ' => v = falsV w a2 ∧ MG σ' (falsW w a2))) := by
  have hP := hw.P
  have hT := hw.T
  have eT : gI σ 11 14 = nI w.T := hM.1.2.2.2.2.2.2.2.2.2.2.1
  have ein : fn_X12_isIn a2 0 (gI σ 11 14) ≠ 0 ↔ inP a2 (w.T + 1) := isIn_in (by omega) (by rw [eT, nI_toInt (by omega)]; omega)
  refine S_X12_falsely hn (by omega) ⟨fun h2 => ?_, fun h2 => ?_⟩
  · have g2 := ein.mp h2
    obtain ⟨e, he, rfl⟩ := inP_ex (by omega) g2
    have ev : falsV w (nI e) = if (rdT w e).1 = true then nI (rdT w e).2.2.length else -1 := by unfold falsV; rw [if_pos g2, tn_nI (by omega)]
    have ew : falsW w (nI e) = if (rdT w e).1 = true then saidW w 8 (rdT w e).2.2 true else failW w (sT w.tp e (rdT w e).2.1) := by unfold falsW; rw [if_pos g2, tn_nI (by omega)]
    rw [ev, ew]
    refine ⟨_, reads_M (tx := w.tp) hn (by omega) eT (by omega) hT (fun k hk => hM.1.2.2.2.2.2.2.2.2.2.2.2.1 k (by omega)) hw.tp, ?_⟩
    rintro v σ1 hO hf
    have hO' := hO
    obtain ⟨o0, o1, o⟩ := hO
    have f1 := reads_fr hf
    rcases o with ⟨y1, rfl, y3, y4⟩ | ⟨y1, rfl, y3⟩
    · have hWR := rdT_WR (w := w) (e := e) (by omega) y1
      rw [if_pos (show (rdT w e).1 = true from y1), if_pos (show (rdT w e).1 = true from y1)]
      refine ⟨fun _ => ?_, fun z => absurd z (by decide)⟩
      refine ⟨_, becomes_M (r := 8) (S := (rdT w e).2.2) hn (by omega) y4 hWR.1, ?_⟩
      rintro σ2 ⟨p1, p2, pf⟩ hf2
      refine ⟨?_, ?_⟩
      · rw [gI_sI_ne (by omega)]; exact p1.1
      · refine said_MG hM hw hv ?_ ?_ ?_ ?_ (p1.fr3 hWR.1 (fun q k hq => gI_sI_ne (by unfold rowCell at hq; omega))) (fun k hk hne => ?_) (fun q k x1 x2 x3 => ?_)
        · rw [gI_sI_ne (by omega), pf _ _ (by unfold rowCell; omega) (by omega)]; exact o0
        · rw [gI_sI_ne (by omega), pf _ _ (by unfold rowCell; omega) (by omega)]; exact y3
        · rw [gI_sI_ne (by omega), p2, f1 _ _ (by omega) (by omega) (by omega), hM.1.ver, nI_1]
        · rw [gI_sI_same]; rfl
        · exact (becomes_low hne (hO'.row hk (hM.1.row k hk) (hw.ws k)) (hw.ws k) pf).fr3 (hw.ws k) (fun q j hq => gI_sI_ne (by unfold rowCell at hq; omega))
        · rw [gI_sI_ne (by omega), pf _ _ (by unfold rowCell; omega) (by omega)]; exact f1 q k x1 x2 (by omega)
    · have nf : ¬ (rdT w e).1 = true := by rw [show (rdT w e).1 = false from y1]; decide
      rw [if_neg nf, if_neg nf]
      refine ⟨fun z => absurd rfl z, fun _ => ⟨rfl, ?_⟩⟩
      exact fail_MG hM hw o0 y3 (fun k hk => hO'.row hk (hM.1.row k hk) (hw.ws k)) (fun q k x1 x2 x3 => f1 q k x1 x2 x3)
  · have ng : ¬ inP a2 (w.T + 1) := fun z => ze.mp h2 (ein.mpr z)
    unfold falsV falsW; rw [if_neg ng, if_neg ng]; exact ⟨rfl, hM⟩
