/-! ===== the component cuts a text ===== -/
/-- the bytes of the tape -/
def ByC (σ : St) (tx : Nat → Nat) (n : Nat) : Prop := ∀ k, k < n → gI σ 19 k = nI (tx k)
theorem isLetter_nI {x : Nat} (h : x < 256) : fn_X9_isLetter (nI x) = bI (isL x) := by
  unfold fn_X9_isLetter
  have e1 : nI x < 97 ↔ x < 97 := nI_ltI (b := 97) (by omega) (by decide)
  have e2 : (122 : Int32) < nI x ↔ 122 < x := nI_ltI (a := 122) (by decide) (by omega)
  by_cases h1 : nI x < 97
  · rw [if_pos h1, show isL x = false from decide_eq_false (fun z => by have := e1.mp h1; omega)]; rfl
  · rw [if_neg h1]
    by_cases h2 : (122 : Int32) < nI x
    · rw [if_pos h2, show isL x = false from decide_eq_false (fun z => by have := e2.mp h2; omega)]; rfl
    · rw [if_neg h2, show isL x = true from isL_iff.mpr (by have h3 : ¬ x < 97 := fun z => h1 (e1.mpr z)
                                                            have h4 : ¬ 122 < x := fun z => h2 (e2.mpr z)
                                                            omega)]; rfl
theorem isDigit_nI {x : Nat} (h : x < 256) : fn_X9_isDigit (nI x) = bI (isD x) := by
  unfold fn_X9_isDigit
  have e1 : nI x < 48 ↔ x < 48 := nI_ltI (b := 48) (by omega) (by decide)
  have e2 : (57 : Int32) < nI x ↔ 57 < x := nI_ltI (a := 57) (by decide) (by omega)
  by_cases h1 : nI x < 48
  · rw [if_pos h1, show isD x = false from decide_eq_false (fun z => by have := e1.mp h1; omega)]; rfl
  · rw [if_neg h1]
    by_cases h2 : (57 : Int32) < nI x
    · rw [if_pos h2, show isD x = false from decide_eq_false (fun z => by have := e2.mp h2; omega)]; rfl
    · rw [if_neg h2, show isD x = true from isD_iff.mpr (by have h3 : ¬ x < 48 := fun z => h1 (e1.mpr z)
                                                            have h4 : ¬ 57 < x := fun z => h2 (e2.mpr z)
                                                            omega)]; rfl
theorem token_C {d n : Nat} {σ : St} {i : Nat} {a1 a2 a3 : Int32} (hn : FIX ≤ n) (hi : i ≤ 400) (h : gI σ 4 2 = nI i) : Cn d n M_X9_token md_X9_token [.ref 4, .int a1, .int a2, .int a3] σ (liV (fun σ' => gI σ' 4 2 = nI (i + 1) ∧ gI σ' 20 i = a1 ∧ gI σ' 21 i = a2 ∧ gI σ' 22 i = a3 ∧ ∀ q k, k ≠ i → 20 ≤ q → q ≤ 22 → gI σ' q k = gI σ q k)) := by
  refine S_X9_token hn ?_
  have hv : vp_in (nI i) 401 := vp_in_nI (by omega) (by decide)
  have e : (nI i).toNatClampNeg = i := nI_clamp (by omega)
  simp (disch := omega) only [gI_sI_ne, gI_sI_same, h, e, nI_1]
  refine ⟨fun _ => ⟨hv, hv, hv, trivial, trivial, trivial, trivial, fun q k hk h1 h2 => ?_⟩, fun z => absurd (nI_leI (b := 400) (by omega) (by decide) |>.mpr hi) z⟩
  rw [gI_sI_ne (by omega), gI_sI_ne (by omega), gI_sI_ne (by omega), gI_sI_ne (by omega)]
theorem numberOf_C {d n : Nat} {σ : St} {tx : Nat → Nat} {p q : Nat} (hn : FIX ≤ n) (hB : ByC σ tx q) (hq : q ≤ 400) (hp : p ≤ q) (hD : ∀ i, p ≤ i → i < q → isD (tx i) = true) : Cn d n M_X9_numberOf md_X9_numberOf [.ref 4, .int (nI p), .int (nI q)] σ (liI (fun v σ' => v = nI (nmU tx p (min (q - p) 5)) ∧ σ' = σ)) := by
  refine S_X9_numberOf hn ?_
  generalize hQ : (fun (v : Int32) (σ' : St) => v = nI (nmU tx p (min (q - p) 5)) ∧ σ' = σ) = Q
  have key : ∀ x, x ≤ min (q - p) 5 → K_X9_numberOf_5 d n σ Q σ (nI p) (nI q) (nI (nmU tx p x)) (nI (p + x)) := by
    refine up_ind ?_ (fun l hl ih => ?_)
    · refine B_X9_numberOf_5 hn ?_
      have fin : Q (nI (nmU tx p (min (q - p) 5))) σ := by rw [← hQ]; exact ⟨rfl, rfl⟩
      refine ⟨fun _ => fin, fun h1 => ⟨fun _ => fin, fun h2 => ?_⟩⟩
      have h1' : ¬ q ≤ p + min (q - p) 5 := fun z => h1 ((nI_leI (by omega) (by omega)).mpr z)
      have h2' : ¬ p + 5 ≤ p + min (q - p) 5 := fun z => h2 (by rw [show nI p + 5 = nI (p + 5) from nI_add p 5]; exact (nI_leI (by omega) (by omega)).mpr z)
      omega
    · refine B_X9_numberOf_5 hn ?_
      have hd := isD_iff.mp (hD (p + l) (by omega) (by omega))
      have hlt : nmU tx p l < 10 ^ l := nmU_lt l (fun i hi => hD _ (by omega) (by omega))
      have h10 : 10 ^ l ≤ 10 ^ 4 := Nat.pow_le_pow_right (by decide) (by omega)
      refine ⟨fun z => absurd ((nI_leI (by omega) (by omega)).mp z) (by omega), fun _ => ⟨fun z => ?_, fun _ => ⟨vp_in_nI (by omega) (by decide), ?_⟩⟩⟩
      · rw [show nI p + 5 = nI (p + 5) from nI_add p 5] at z
        exact absurd ((nI_leI (by omega) (by omega)).mp z) (by omega)
      · rw [nI_clamp (by omega), hB _ (by omega), show nI (nmU tx p l) * 10 = nI (nmU tx p l * 10) from nI_mul (b := 10) (by omega), nI_add, show nI (nmU tx p l * 10 + tx (p + l)) - 48 = nI (nmU tx p l * 10 + tx (p + l) - 48) from nI_sub (b := 48) (by omega), nI_1, show nmU tx p l * 10 + tx (p + l) - 48 = nmU tx p (l + 1) by rw [nmU]; omega]
        exact ih
  have := key 0 (Nat.zero_le _)
  rw [nmU] at this
  exact this
theorem kBy0 : ∀ j, j < 65 → ((((kBy 0 j) &&& 255).toUInt32 % 65536).toInt32) = nI (wB j) := by decide +kernel
theorem wB_lt : ∀ j, j < 65 → wB j < 256 := by decide +kernel
theorem nar_c : ∀ x, x < 256 → (nI x).toUInt32.toUInt16.toUInt32.toInt32 = nI x := by decide +kernel
theorem charAt_C {d n : Nat} {σ : St} {j : Nat} (hd : 3 ≤ d) (hj : j < 65) : Cn d n M_J0_charAt_5068e md_J0_charAt_5068e [.ref (2000 + 0), .int (nI j)] σ (liI (fun v σ' => v = nI (wB j) ∧ σ' = σ)) := by
  have hw := wB_lt j hj
  have hnar : narrow .char (.int (nI (wB j))) = .int (nI (wB j)) := by show Value.int _ = _; rw [nar_c _ hw]
  refine S_J0_charAt_5068e (i := 0) (by omega) (by decide) ⟨fun v σ' => v = nI (wB j) ∧ σ' = σ, ?_, ?_⟩
  · refine S_J1_charAt_3b067 (i1 := 0) (by omega) (by decide) ⟨_, J0_checkIndex_spec (by omega) (nI_pos (by omega)) (nI_lt (by show j < 65; exact hj) (by decide)), ?_⟩
    rintro σ1 e hf
    subst e
    rw [nI_clamp (by omega), kBy0 j hj]
    exact ⟨vp_in_nI hj (by decide), hnar, rfl, rfl⟩
  · rintro v σ1 ⟨rfl, rfl⟩ hf
    exact ⟨hnar, rfl, rfl⟩
theorem isWord_C {d n : Nat} {σ : St} {tx : Nat → Nat} {p q c : Nat} (hn : FIX ≤ n) (hd : 4 ≤ d) (hc : c < 13) (hB : ByC σ tx q) (hq : q ≤ 400) (hp : p ≤ 400) (hx : ∀ k, tx k < 256) : Cn d n M_X9_isWord md_X9_isWord [.ref 4, .int (nI (c + 1)), .int (nI p), .int (nI q)] σ (liI (fun v σ' => σ' = σ ∧ (isWd tx p q c ∧ v = 1 ∨ ¬ isWd tx p q c ∧ v = 0))) := by
  refine S_X9_isWord hn (by omega) ?_
  generalize hQ : (fun (v : Int32) (σ' : St) => σ' = σ ∧ (isWd tx p q c ∧ v = 1 ∨ ¬ isWd tx p q c ∧ v = 0)) = Q
  have key : ∀ x, x ≤ 5 → (∀ i, i < x → pd5 tx p q i = wB (c * 5 + i)) → K_X9_isWord_3 d n σ Q σ (nI (c + 1)) (nI p) (nI q) (nI x) := by
    refine up_ind (P := fun x => (∀ i, i < x → pd5 tx p q i = wB (c * 5 + i)) → K_X9_isWord_3 d n σ Q σ (nI (c + 1)) (nI p) (nI q) (nI x)) (fun hall => ?_) (fun l hl ih hall => ?_)
    · refine B_X9_isWord_3 hn (by omega) ⟨fun _ => ?_, fun z => absurd (by decide) z⟩
      rw [← hQ]; exact ⟨rfl, Or.inl ⟨hall, rfl⟩⟩
    · have step : ∀ (x : Nat), x < 256 → pd5 tx p q l = x → ∃ Q3 : Int32 → St → Prop, Cn (d - 1) n M_J0_charAt_5068e md_J0_charAt_5068e [.ref (2000 + 0), .int (((nI (c + 1) - 1) * 5) + nI l)] σ (liI Q3) ∧ ∀ (v6 : Int32) (σ5 : St), Q3 v6 σ5 → Fr md_J0_charAt_5068e σ σ5 → ((nI x = v6 → K_X9_isWord_3 d n σ Q σ5 (nI (c + 1)) (nI p) (nI q) (nI l + 1)) ∧ (¬ nI x = v6 → Q 0 σ5)) := fun x hx5 hpd => by
        rw [nI_pred, show nI c * 5 = nI (c * 5) from nI_mul (b := 5) (by omega), nI_add, nI_1]
        refine ⟨_, charAt_C (by omega) (by omega), ?_⟩
        rintro v6 σ5 ⟨rfl, rfl⟩ hf
        have hw := wB_lt (c * 5 + l) (by omega)
        refine ⟨fun h => ih (fun i hi => ?_), fun h => ?_⟩
        · by_cases e : i = l
          · rw [e, hpd]; exact (nI_eq (by omega) (by omega)).mp h
          · exact hall i (by omega)
        · rw [← hQ]
          exact ⟨rfl, Or.inr ⟨fun z => h (by rw [← hpd, z l hl]), rfl⟩⟩
      refine B_X9_isWord_3 hn (by omega) ⟨fun z => absurd ((nI_leI (a := 5) (by decide) (by omega)).mp z) (by omega), fun _ => ⟨fun z => ?_, fun z => ?_⟩⟩
      · rw [nI_add] at z
        have := (nI_leI (by omega) (by omega)).mp z
        exact step 32 (by decide) (by unfold pd5; rw [if_neg (by omega)])
      · rw [nI_add] at z ⊢
        have h1 : p + l < q := by
          rcases Nat.lt_or_ge (p + l) q with h | h
          · exact h
          · exact absurd ((nI_leI (by omega) (by omega)).mpr h) z
        rw [nI_clamp (by omega), hB _ h1]
        exact ⟨vp_in_nI (by omega) (by decide), step (tx (p + l)) (hx _) (by unfold pd5; rw [if_pos h1])⟩
  exact key 0 (by decide) (fun i hi => absurd hi (by omega))
