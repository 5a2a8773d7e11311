/-! ===== the component: conditions, statements ===== -/
theorem any_C {d n : Nat} {K V s : Nat → Nat} {m o : Nat} {A : Nat → Res} (hn : FIX ≤ n) (hd : 3 ≤ d) (hA : RG m A) (hA0 : K m = 258 → (A m).1 = false ∧ (A m).2.1 = m) (xa : XC (d - 1) n K V s m o A M_X7_oneOf md_X7_oneOf) : XC d n K V s m o (anyOf K A) M_X7_anyOf md_X7_anyOf := by
  intro σ i C hR
  refine S_X7_anyOf hn (by omega) ?_
  generalize hQ : CRes K V s m C (anyOf K A i) = Q
  have loop : ∀ N (i t p g1 g2 c : Nat) (C' : List Int) (σ1 : St), m - i ≤ N → RdC σ1 K V s m i C' → C'.length + pnd t + pnd p ≤ i → (t = 0 ∨ isA t = true) → (p = 0 ∨ isO p = true) → m < g1 + i → m < g2 + i → c ≤ i → (∀ v σ', CRes K V s m C' (cnt2 K isA isO A g1 g2 i t p) v σ' → Q v σ') → K_X7_anyOf_7 d n σ Q σ1 (nI o) (nI (pnd t)) (nI (pnd p)) (nI c) := by
    intro N
    induction N with
    | zero =>
      intro i t p g1 g2 c C' σ1 hN hR hl ht hp hg1 hg2 hc hq
      obtain ⟨hT, hP, hi, hl0⟩ := hR
      have hm := hT.1.1
      have him : i = m := by omega
      obtain ⟨f1, f2⟩ := hA0 hT.1.2.1
      obtain ⟨g, rfl⟩ : ∃ g, g1 = g + 1 := ⟨g1 - 1, by omega⟩
      have ev : cnt2 K isA isO A (g + 1) g2 i t p = (false, i, []) := by rw [cnt2_e1 (by rw [him, f1]; decide), him, f2]
      rw [ev] at hq
      refine B_X7_anyOf_7 hn (by omega) ⟨fun _ => hq _ _ ⟨hT, Or.inr ⟨rfl, rfl, hP.1⟩⟩, fun _ => ⟨_, xa σ1 i C' ⟨hT, hP, hi, hl0⟩, ?_⟩⟩
      rintro v σ2 ⟨t2, h2⟩ hf2
      rcases h2 with ⟨a, -⟩ | ⟨a, rfl, c2⟩
      · rw [him, f1] at a; cases a
      · refine ⟨fun z => absurd rfl z, fun _ => hq _ _ ⟨t2, Or.inr ⟨rfl, rfl, ?_⟩⟩⟩
        rw [c2, him, f2]
    | succ N ih =>
      intro i t p g1 g2 c C' σ1 hN hR hl ht hp hg1 hg2 hc hq
      obtain ⟨hT, hP, hi, hl0⟩ := hR
      have hm := hT.1.1
      obtain ⟨a1, a2, a3⟩ := hA i hi
      obtain ⟨g, rfl⟩ : ∃ g, g1 = g + 1 := ⟨g1 - 1, by omega⟩
      obtain ⟨g', rfl⟩ : ∃ g, g2 = g + 1 := ⟨g2 - 1, by omega⟩
      have htl : t < 258 := by
        rcases ht with e | e
        · omega
        · have q := of_decide_eq_true e; omega
      have hpl : p < 258 := by
        rcases hp with e | e
        · omega
        · have q := of_decide_eq_true e; omega
      refine B_X7_anyOf_7 hn (by omega) ⟨fun h400 => ?_, fun h400 => ⟨_, xa σ1 i C' ⟨hT, hP, hi, hl0⟩, ?_⟩⟩
      · have := le_ti.mp h400
        rw [nI_toInt (by omega), show (400 : Int32).toInt = 400 by decide] at this
        have him : i = m := by omega
        obtain ⟨f1, f2⟩ := hA0 hT.1.2.1
        have ev : cnt2 K isA isO A (g + 1) (g' + 1) i t p = (false, i, []) := by rw [cnt2_e1 (by rw [him, f1]; decide), him, f2]
        rw [ev] at hq
        exact hq _ _ ⟨hT, Or.inr ⟨rfl, rfl, hP.1⟩⟩
      · rintro v σ2 ⟨t2, h2⟩ hf2
        rcases h2 with ⟨a, rfl, P2⟩ | ⟨a, rfl, c2⟩
        · obtain ⟨a4, a5⟩ := a3 a
          generalize hj : (A i).2.1 = j at a1 a2 a4 a5 P2
          generalize ho : (A i).2.2 = ops at a5 P2
          refine ⟨fun _ => ?_, fun z => absurd z (by decide)⟩
          -- behind the atom, the near sign written
          have TE : ∀ (σa : St), TkC σa K V s m → PsC σa j (C' ++ encL (ops ++ em t)) → ∃ Q10 : Int32 → St → Prop, Cn (d - 1) n M_X7_take md_X7_take [.ref 5, .int 5] σa (liI Q10) ∧ ∀ (v13 : Int32) (σ12 : St), Q10 v13 σ12 → Fr md_X7_take σa σ12 → ((v13 ≠ 0 → K_X7_anyOf_7 d n σ Q σ12 (nI o) v13 (nI (pnd p)) (nI c + 1)) ∧ (v13 = 0 → ((nI (pnd p) = 0 → ∃ Q18 : Int32 → St → Prop, Cn (d - 1) n M_X7_take md_X7_take [.ref 5, .int 4] σ12 (liI Q18) ∧ ∀ (v21 : Int32) (σ20 : St), Q18 v21 σ20 → Fr md_X7_take σ12 σ20 → ((v21 ≠ 0 → K_X7_anyOf_7 d n σ Q σ20 (nI o) v13 v21 (nI c + 1)) ∧ (v21 = 0 → Q 1 σ20))) ∧ (¬ nI (pnd p) = 0 → ∃ Q25 : St → Prop, Cn (d - 1) n M_X7_emit md_X7_emit [.ref 5, .int (-4)] σ12 (liV Q25) ∧ ∀ (σ27 : St), Q25 σ27 → Fr md_X7_emit σ12 σ27 → ∃ Q31 : Int32 → St → Prop, Cn (d - 1) n M_X7_take md_X7_take [.ref 5, .int 4] σ27 (liI Q31) ∧ ∀ (v34 : Int32) (σ33 : St), Q31 v34 σ33 → Fr md_X7_take σ27 σ33 → ((v34 ≠ 0 → K_X7_anyOf_7 d n σ Q σ33 (nI o) v13 v34 (nI c + 1)) ∧ (v34 = 0 → Q 1 σ33)))))) := by
            intro σa ta Pa
            have hKj := hT.2.1 j
            have lenA : (C' ++ encL (ops ++ em t)).length = C'.length + (encL ops).length + pnd t := by
              rw [List.length_append, encL_app, List.length_append, em_len]; unfold pnd; omega
            refine ⟨_, take_C (k := 5) hn ta Pa.1 a1 (by decide), ?_⟩
            rw [nI_1]
            rintro v3 σ3 (⟨e3, rfl, rfl, hlt3⟩ | ⟨e3, rfl, rfl⟩) hf3
            · have hs : isA (K j) = true := decide_eq_true e3
              have hkn : K j ≠ 0 := by omega
              refine ⟨fun _ => ?_, fun z => absurd z (by decide)⟩
              have e1 : nI (pnd (K j)) = 1 := by rw [e3]; rfl
              rw [← e1]
              refine ih (j + 1) (K j) p g (g' + 1) (c + 1) (C' ++ encL (ops ++ em t)) _ (by omega) ⟨ta.fr (fun q k x y => gI_sI_ne (by omega)), Pa.at, by omega, by omega⟩ ?_ (Or.inr hs) hp (by omega) (by omega) (by omega) (fun v σ' hr => hq v σ' ?_)
              · rw [lenA]; unfold pnd at hl ⊢; rw [if_neg hkn]; omega
              · have := hr.pre
                refine this.eq ?_
                rw [← hj, ← ho]
                exact cnt2_e2 a (by rw [hj]; exact hs)
            · have hs : ¬ isA (K j) = true := fun z => e3 (of_decide_eq_true z)
              refine ⟨fun z => absurd rfl z, fun _ => ?_⟩
              -- the far sign
              have PE : ∀ (σb : St), TkC σb K V s m → PsC σb j (C' ++ encL (ops ++ em t ++ em p)) → ∃ Q18 : Int32 → St → Prop, Cn (d - 1) n M_X7_take md_X7_take [.ref 5, .int 4] σb (liI Q18) ∧ ∀ (v21 : Int32) (σ20 : St), Q18 v21 σ20 → Fr md_X7_take σb σ20 → ((v21 ≠ 0 → K_X7_anyOf_7 d n σ Q σ20 (nI o) 0 v21 (nI (c + 1))) ∧ (v21 = 0 → Q 1 σ20)) := by
                intro σb tb Pb
                refine ⟨_, take_C (k := 4) hn tb Pb.1 a1 (by decide), ?_⟩
                rintro v4 σ4 (⟨e4, rfl, rfl, hlt4⟩ | ⟨e4, rfl, rfl⟩) hf4
                · have hs2 : isO (K j) = true := decide_eq_true e4
                  have hkn : K j ≠ 0 := by omega
                  refine ⟨fun _ => ?_, fun z => absurd z (by decide)⟩
                  have e1 : nI (pnd (K j)) = 1 := by rw [e4]; rfl
                  rw [← e1]
                  have lenB : (C' ++ encL (ops ++ em t ++ em p)).length = C'.length + (encL ops).length + pnd t + pnd p := by
                    rw [List.length_append, encL_app, encL_app, List.length_append, List.length_append, em_len, em_len]; unfold pnd; omega
                  refine ih (j + 1) 0 (K j) 401 g' (c + 1) (C' ++ encL (ops ++ em t ++ em p)) _ (by omega) ⟨tb.fr (fun q k x y => gI_sI_ne (by omega)), Pb.at, by omega, by omega⟩ ?_ (Or.inl rfl) (Or.inr hs2) (by omega) (by omega) (by omega) (fun v σ' hr => hq v σ' ?_)
                  · rw [lenB]; unfold pnd at hl ⊢; rw [if_neg hkn]; simp; omega
                  · have := hr.pre
                    rw [cnt2_e3 a (by rw [hj]; exact hs) (by rw [hj]; exact hs2), hj, ho]
                    exact this
                · have hs2 : ¬ isO (K j) = true := fun z => e4 (of_decide_eq_true z)
                  refine ⟨fun z => absurd rfl z, fun _ => hq _ _ ?_⟩
                  rw [cnt2_e4 a (by rw [hj]; exact hs) (by rw [hj]; exact hs2), hj, ho]
                  exact ⟨tb, Or.inl ⟨rfl, rfl, Pb⟩⟩
              refine ⟨fun hz => ?_, fun hz => ?_⟩
              · have hp0 : p = 0 := by
                  by_cases e : p = 0
                  · exact e
                  · unfold pnd at hz; rw [if_neg e] at hz; exact absurd hz (by decide)
                have : em p = [] := by unfold em; rw [if_pos hp0]
                exact PE σ3 ta (by rw [this, List.append_nil]; exact Pa)
              · have hpn : p ≠ 0 := fun z => hz (by rw [z]; rfl)
                have hpP : p = 4 := by
                  rcases hp with e | e
                  · exact absurd e hpn
                  · exact of_decide_eq_true e
                have hneg : (-4 : Int32).toInt = -(p : Int) := by rw [hpP]; decide
                refine ⟨_, emit_C hn Pa (by rw [lenA]; unfold pnd at hl ⊢; rw [if_neg hpn] at hl; omega) hneg, ?_⟩
                rintro σ5 ⟨P5, f5⟩ hf5
                refine PE σ5 (ta.fr f5) ?_
                have : em p = [(opK p, 0)] := by unfold em; rw [if_neg hpn]
                rw [encL_app (ops ++ em t), ← List.append_assoc, this, encL_em (by omega)]
                exact P5
          refine ⟨fun hz => ?_, fun hz => ?_⟩
          · have ht0 : t = 0 := by
              by_cases e : t = 0
              · exact e
              · unfold pnd at hz; rw [if_neg e] at hz; exact absurd hz (by decide)
            have : em t = [] := by unfold em; rw [if_pos ht0]
            exact TE σ2 t2 (by rw [this, List.append_nil]; exact P2)
          · have htn : t ≠ 0 := fun z => hz (by rw [z]; rfl)
            have htT : t = 5 := by
              rcases ht with e | e
              · exact absurd e htn
              · exact of_decide_eq_true e
            have hneg : (-5 : Int32).toInt = -(t : Int) := by rw [htT]; decide
            refine ⟨_, emit_C hn P2 (by rw [List.length_append]; unfold pnd at hl; rw [if_neg htn] at hl; omega) hneg, ?_⟩
            rintro σ5 ⟨P5, f5⟩ hf5
            refine TE σ5 (t2.fr f5) ?_
            have : em t = [(opK t, 0)] := by unfold em; rw [if_neg htn]
            rw [encL_app, ← List.append_assoc, this, encL_em (by omega)]
            exact P5
        · refine ⟨fun z => absurd rfl z, fun _ => hq _ _ ?_⟩
          rw [cnt2_e1 (by rw [a]; decide)]
          exact ⟨t2, Or.inr ⟨rfl, rfl, c2⟩⟩
  have hm := hR.1.1.1
  refine loop (m - i) i 0 0 401 401 0 C σ (Nat.le_refl _) hR (by unfold pnd; simp; exact hR.2.2.2) (Or.inl rfl) (Or.inl rfl) (by omega) (by omega) (Nat.zero_le _) (fun v σ' hr => ?_)
  rw [← hQ]
  have : anyOf K A i = cnt2 K isA isO A 401 401 i 0 0 := cnt2_c0
  rw [this]; exact hr
