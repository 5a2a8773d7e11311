/-! ===== the component: single conditions, levels, statements, all ===== -/
theorem one_C {d n : Nat} {K V s : Nat → Nat} {m o : Nat} {E : Nat → Res} {S : Option (Nat → Res)} (hn : FIX ≤ n) (hd : 2 ≤ d) (ho : o ≤ 9) (hS0 : S = none ↔ o = 9) (rE : RG m E) (xE : XC (d - 1) n K V s m o E M_X7_expression md_X7_expression) (hS : ∀ e, S = some e → RG m e ∧ XC (d - 1) n K V s m (o + 1) e M_X7_oneOf md_X7_oneOf ∧ XC (d - 1) n K V s m (o + 1) (anyOf K e) M_X7_anyOf md_X7_anyOf) : XC d n K V s m o (sgl0 K E S) M_X7_oneOf md_X7_oneOf := by
  intro σ i C hR
  obtain ⟨hT, hP, hi, hl⟩ := hR
  have hm := hT.1.1
  have hK := hT.2.1 i
  obtain ⟨p1, p2⟩ := RdC.kind hT hP.1 hi
  have o9 : nI o < 9 ↔ o < 9 := by rw [lt_ti, nI_toInt (by omega), show (9 : Int32).toInt = 9 by decide]; omega
  have ke : ∀ (x : Int32) (y : Nat), x = nI y → y < 2 ^ 31 → (nI (K i) = x ↔ K i = y) := fun x y h1 h2 => by rw [h1, nI_eq (by omega) h2]
  have e6 := ke 6 6 rfl (by decide)
  have e91 := ke 91 91 rfl (by decide)
  generalize hQ : CRes K V s m C (sgl0 K E S i) = Q
  have bad : ∀ (j : Nat) (σ1 : St), sgl0 K E S i = (false, j, []) → TkC σ1 K V s m → gI σ1 5 1 = nI j → Q 0 σ1 := fun j σ1 e t a => by
    rw [← hQ, e]; exact ⟨t, Or.inr ⟨rfl, rfl, a⟩⟩
  have opn : (K i = 6 ∨ K i = 91) → ((nI o < 9 → ∃ Q3 : Int32 → St → Prop, Cn (d - 1) n M_X7_take md_X7_take [.ref 5, .int (nI (K i))] σ (liI Q3) ∧ ∀ (v6 : Int32) (σ5 : St), Q3 v6 σ5 → Fr md_X7_take σ σ5 → ((nI (K i) ≠ 91 → ∃ Q10 : Int32 → St → Prop, Cn (d - 1) n M_X7_oneOf md_X7_oneOf [.ref 5, .int (nI o + 1)] σ5 (liI Q10) ∧ ∀ (v13 : Int32) (σ12 : St), Q10 v13 σ12 → Fr md_X7_oneOf σ5 σ12 → ((v13 ≠ 0 → ∃ Q17 : St → Prop, Cn (d - 1) n M_X7_emit md_X7_emit [.ref 5, .int (-6)] σ12 (liV Q17) ∧ ∀ (σ19 : St), Q17 σ19 → Fr md_X7_emit σ12 σ19 → Q 1 σ19) ∧ (v13 = 0 → Q 0 σ12))) ∧ (nI (K i) = 91 → ∃ Q23 : Int32 → St → Prop, Cn (d - 1) n M_X7_anyOf md_X7_anyOf [.ref 5, .int (nI o + 1)] σ5 (liI Q23) ∧ ∀ (v26 : Int32) (σ25 : St), Q23 v26 σ25 → Fr md_X7_anyOf σ5 σ25 → ((v26 = 0 → Q 0 σ25) ∧ (¬ v26 = 0 → ∃ Q30 : Int32 → St → Prop, Cn (d - 1) n M_X7_take md_X7_take [.ref 5, .int 93] σ25 (liI Q30) ∧ ∀ (v33 : Int32) (σ32 : St), Q30 v33 σ32 → Fr md_X7_take σ25 σ32 → ((v33 = 0 → Q 0 σ32) ∧ (¬ v33 = 0 → Q 1 σ32))))))) ∧ (¬ nI o < 9 → Q 0 σ)) := fun hk => by
    refine ⟨fun hlt => ?_, fun hlt => ?_⟩
    · have ho9 := o9.mp hlt
      cases hSe : S with
      | none => exact absurd (hS0.mp hSe) (by omega)
      | some e =>
        obtain ⟨rg, xc, xa⟩ := hS e hSe
        refine ⟨_, take_C hn hT hP.1 hi (by omega), ?_⟩
        rintro v σ1 (⟨-, rfl, rfl, hlt2⟩ | ⟨e1, -⟩) hf
        · have t1 : TkC (sI σ 5 1 (nI (i + 1))) K V s m := hT.fr (fun q k x y => gI_sI_ne (by omega))
          rw [nI_1]
          refine ⟨fun h91 => ?_, fun h91 => ?_⟩
          · have h6 : K i = 6 := by
              rcases hk with z | z
              · exact z
              · exact absurd (e91.mpr z) h91
            have r1 := rg (i + 1) (by omega)
            have ev : sgl0 K E S i = if (e (i + 1)).1 = true then (true, (e (i + 1)).2.1, (e (i + 1)).2.2 ++ [(12, 0)]) else (false, (e (i + 1)).2.1, []) := by rw [hSe]; unfold sgl0; rw [if_pos h6]
            refine ⟨_, xc _ (i + 1) C ⟨t1, hP.at, by omega, by omega⟩, ?_⟩
            rintro v2 σ2 ⟨t2, h2⟩ hf2
            rcases h2 with ⟨a, rfl, c⟩ | ⟨a, rfl, c⟩
            · refine ⟨fun _ => ⟨_, emit_C (c := -6) hn c ?_ (by decide), ?_⟩, fun z => absurd z (by decide)⟩
              · rw [List.length_append]; have := (r1.2.2 a).2; have := r1.1; omega
              · rintro σ3 ⟨P3, f3⟩ hf3
                rw [← hQ, ev, if_pos a]
                refine ⟨t2.fr f3, Or.inl ⟨rfl, rfl, ?_⟩⟩
                show PsC σ3 (e (i + 1)).2.1 (C ++ encL ((e (i + 1)).2.2 ++ [(12, 0)]))
                have : encL [(12, 0)] = [-6] := by decide
                rw [encL_app, ← List.append_assoc, this]; exact P3
            · refine ⟨fun z => absurd rfl z, fun _ => bad _ _ ?_ t2 c⟩
              rw [ev, if_neg (by rw [a]; decide)]
          · have h6 : K i = 91 := e91.mp h91
            have r1 := any_rg hT.1 rg (i + 1) (by omega)
            have ev : sgl0 K E S i = clsd K 93 (anyOf K e (i + 1)) := by rw [hSe]; unfold sgl0; rw [if_neg (by omega), if_pos h6]
            refine ⟨_, xa _ (i + 1) C ⟨t1, hP.at, by omega, by omega⟩, ?_⟩
            rintro v2 σ2 ⟨t2, h2⟩ hf2
            rcases h2 with ⟨a, rfl, c⟩ | ⟨a, rfl, c⟩
            · refine ⟨fun z => absurd z (by decide), fun _ => ⟨_, take_C (k := 93) hn t2 c.1 r1.1 (by decide), ?_⟩⟩
              rintro v3 σ3 (⟨e3, rfl, rfl, hlt3⟩ | ⟨e3, rfl, rfl⟩) hf3
              · refine ⟨fun z => absurd z (by decide), fun _ => ?_⟩
                rw [← hQ, ev]
                have ec : clsd K 93 (anyOf K e (i + 1)) = (true, (anyOf K e (i + 1)).2.1 + 1, (anyOf K e (i + 1)).2.2) := by unfold clsd; rw [if_pos a, if_pos e3]
                rw [ec]
                exact ⟨t2.fr (fun q k x y => gI_sI_ne (by omega)), Or.inl ⟨rfl, rfl, c.at⟩⟩
              · refine ⟨fun _ => bad _ _ ?_ t2 c.1, fun z => absurd rfl z⟩
                rw [ev]; unfold clsd; rw [if_pos a, if_neg e3]
            · refine ⟨fun _ => bad _ _ ?_ t2 c, fun z => absurd rfl z⟩
              rw [ev]; unfold clsd; rw [if_neg (by rw [a]; decide)]
        · exact absurd rfl e1
    · have ho9 : o = 9 := by have : ¬ o < 9 := fun z => hlt (o9.mpr z); omega
      refine bad i σ ?_ hT hP.1
      rw [hS0.mpr ho9]; unfold sgl0
      rcases hk with z | z
      · rw [if_pos z]
      · rw [if_neg (by omega), if_pos z]
  refine S_X7_oneOf hn (by omega) ⟨p1, ?_⟩
  rw [p2]
  refine ⟨fun h => opn (Or.inl (e6.mp h)), fun h => ⟨fun h2 => ?_, fun h2 => opn (Or.inr (e91.mp h2))⟩⟩
  have z1 : K i ≠ 6 := fun z => h (e6.mpr z)
  have z2 : K i ≠ 91 := fun z => h2 (e91.mpr z)
  have ev : sgl0 K E S i = if (E i).1 = true then (if K (E i).2.1 = 60 ∨ K (E i).2.1 = 62 ∨ K (E i).2.1 = 61 then (if (E ((E i).2.1 + 1)).1 = true then (true, (E ((E i).2.1 + 1)).2.1, (E i).2.2 ++ (E ((E i).2.1 + 1)).2.2 ++ [(opK (K (E i).2.1), 0)]) else (false, (E ((E i).2.1 + 1)).2.1, [])) else (false, (E i).2.1, [])) else (false, (E i).2.1, []) := by
    unfold sgl0; rw [if_neg z1, if_neg z2]
  obtain ⟨a1, a2, a3⟩ := rE i hi
  refine ⟨_, xE σ i C ⟨hT, hP, hi, hl⟩, ?_⟩
  rintro v1 σ1 ⟨t1, h1⟩ hf1
  rcases h1 with ⟨a, rfl, P1⟩ | ⟨a, rfl, c⟩
  · obtain ⟨a4, a5⟩ := a3 a
    rw [if_pos a] at ev
    generalize hj : (E i).2.1 = j at a1 a2 a4 a5 P1 ev
    generalize hops : (E i).2.2 = ops at a5 P1 ev
    have hKj := hT.2.1 j
    obtain ⟨q1, q2⟩ := RdC.kind t1 P1.1 a1
    refine ⟨fun _ => ⟨q1, ?_⟩, fun z => absurd z (by decide)⟩
    rw [q2]
    have kj : ∀ (x : Int32) (y : Nat), x = nI y → y < 2 ^ 31 → (nI (K j) = x ↔ K j = y) := fun x y h1 h2 => by rw [h1, nI_eq (by omega) h2]
    have go : (K j = 60 ∨ K j = 62 ∨ K j = 61) → ∃ Q46 : Int32 → St → Prop, Cn (d - 1) n M_X7_take md_X7_take [.ref 5, .int (nI (K j))] σ1 (liI Q46) ∧ ∀ (v49 : Int32) (σ48 : St), Q46 v49 σ48 → Fr md_X7_take σ1 σ48 → ∃ Q52 : Int32 → St → Prop, Cn (d - 1) n M_X7_expression md_X7_expression [.ref 5, .int (nI o)] σ48 (liI Q52) ∧ ∀ (v55 : Int32) (σ54 : St), Q52 v55 σ54 → Fr md_X7_expression σ48 σ54 → ((v55 ≠ 0 → ∃ Q59 : St → Prop, Cn (d - 1) n M_X7_emit md_X7_emit [.ref 5, .int (-(nI (K j)))] σ54 (liV Q59) ∧ ∀ (σ61 : St), Q59 σ61 → Fr md_X7_emit σ54 σ61 → Q 1 σ61) ∧ (v55 = 0 → Q 0 σ54)) := fun hs => by
      rw [if_pos hs] at ev
      refine ⟨_, take_C hn t1 P1.1 a1 (by omega), ?_⟩
      rintro v2 σ2 (⟨-, rfl, rfl, hlt2⟩ | ⟨e2, -⟩) hf2
      · have t2 : TkC (sI σ1 5 1 (nI (j + 1))) K V s m := t1.fr (fun q k x y => gI_sI_ne (by omega))
        have lenP : (C ++ encL ops).length ≤ j := by rw [List.length_append]; omega
        obtain ⟨b1, b2, b3⟩ := rE (j + 1) (by omega)
        refine ⟨_, xE _ (j + 1) (C ++ encL ops) ⟨t2, P1.at, by omega, by omega⟩, ?_⟩
        rintro v3 σ3 ⟨t3, h3⟩ hf3
        rcases h3 with ⟨b, rfl, P3⟩ | ⟨b, rfl, c3⟩
        · obtain ⟨b4, b5⟩ := b3 b
          rw [if_pos b] at ev
          have hneg : (-(nI (K j))).toInt = -(K j : Int) := by rw [ti_neg] <;> rw [nI_toInt (by omega)]; omega
          refine ⟨fun _ => ⟨_, emit_C hn P3 (by rw [List.length_append]; omega) hneg, ?_⟩, fun z => absurd z (by decide)⟩
          rintro σ4 ⟨P4, f4⟩ hf4
          rw [← hQ, ev]
          refine ⟨t3.fr f4, Or.inl ⟨rfl, rfl, ?_⟩⟩
          show PsC σ4 (E (j + 1)).2.1 (C ++ encL (ops ++ (E (j + 1)).2.2 ++ [(opK (K j), 0)]))
          rw [encL_app, encL_app, encL_em (by omega), ← List.append_assoc, ← List.append_assoc]; exact P4
        · refine ⟨fun z => absurd rfl z, fun _ => bad _ _ ?_ t3 c3⟩
          rw [ev, if_neg (by rw [b]; decide)]
      · exact absurd rfl e2
    have k60 := kj 60 60 rfl (by decide)
    have k62 := kj 62 62 rfl (by decide)
    have k61 := kj 61 61 rfl (by decide)
    refine ⟨fun h => go (Or.inl (k60.mp h)), fun h => ⟨fun h' => go (Or.inr (Or.inl (k62.mp h'))), fun h' => ⟨fun h'' => go (Or.inr (Or.inr (k61.mp h''))), fun h'' => bad _ _ ?_ t1 P1.1⟩⟩⟩
    rw [ev, if_neg]
    rintro (z | z | z)
    · exact h (k60.mpr z)
    · exact h' (k62.mpr z)
    · exact h'' (k61.mpr z)
  · refine ⟨fun z => absurd rfl z, fun _ => bad _ _ ?_ t1 c⟩
    rw [ev, if_neg (by rw [a]; decide)]
/-! at the end nothing begins -/
theorem atom0_end {K V : Nat → Nat} {E : Option (Nat → Res)} {m : Nat} (h : K m = 258) : (atom0 K V E m).1 = false ∧ (atom0 K V E m).2.1 = m := by
  unfold atom0; rw [if_neg (by omega), if_neg (by omega), if_neg (by omega), if_neg (by omega)]; exact ⟨rfl, rfl⟩
theorem chn_end {K : Nat → Nat} {sg : Nat → Bool} {A : Nat → Res} {m g t : Nat} (h : (A m).1 = false ∧ (A m).2.1 = m) : (chn K sg A g m t).1 = false ∧ (chn K sg A g m t).2.1 = m := by
  cases g with
  | zero => exact ⟨rfl, rfl⟩
  | succ g => rw [chn, if_neg (by rw [h.1]; decide)]; exact ⟨rfl, h.2⟩
theorem ex_end {K : Nat → Nat} {A : Nat → Res} {m : Nat} (h : (A m).1 = false ∧ (A m).2.1 = m) : (exOf K A m).1 = false ∧ (exOf K A m).2.1 = m := chn_end (A := prodOf K A) (chn_end h)
theorem sgl0_end {K : Nat → Nat} {E : Nat → Res} {S : Option (Nat → Res)} {m : Nat} (h : K m = 258) (hE : (E m).1 = false ∧ (E m).2.1 = m) : (sgl0 K E S m).1 = false ∧ (sgl0 K E S m).2.1 = m := by
  unfold sgl0; rw [if_neg (by omega), if_neg (by omega), if_neg (by rw [hE.1]; decide)]; exact ⟨rfl, hE.2⟩
theorem atomS_end {K V : Nat → Nat} {m : Nat} (h : K m = 258) : ∀ L, (atomS K V L m).1 = false ∧ (atomS K V L m).2.1 = m
  | 0 => atom0_end h
  | L + 1 => atom0_end h
theorem oneS_end {K V : Nat → Nat} {m : Nat} (h : K m = 258) : ∀ L, (oneS K V L m).1 = false ∧ (oneS K V L m).2.1 = m
  | 0 => sgl0_end h (ex_end (atomS_end h 0))
  | L + 1 => sgl0_end h (ex_end (atomS_end h (L + 1)))
/-! levels -/
theorem exprL_C {n : Nat} {K V s : Nat → Nat} {m : Nat} (hn : FIX ≤ n) (hT : TkE K V m) : ∀ L d o, o + L = 9 → 2 * L + 3 ≤ d → XC d n K V s m o (exS K V L) M_X7_expression md_X7_expression
  | 0, d, o, ho, hd => expr_C hn (by omega) (atom_rg hT 0) (fun h => atomS_end h 0) (atom_C hn (by omega) (by omega) ⟨fun _ => by omega, fun _ => rfl⟩ (fun e h => by cases h))
  | L + 1, d, o, ho, hd => expr_C hn (by omega) (atom_rg hT (L + 1)) (fun h => atomS_end h (L + 1)) (atom_C hn (by omega) (by omega) ⟨fun h => (by cases h), fun h => by omega⟩ (fun e h => by
    cases h
    exact ⟨exS_rg hT L, exprL_C hn hT L (d - 1 - 1) (o + 1) (by omega) (by omega)⟩))
theorem oneL_C {n : Nat} {K V s : Nat → Nat} {m : Nat} (hn : FIX ≤ n) (hT : TkE K V m) : ∀ L d o, o + L = 9 → 2 * L + 4 ≤ d → XC d n K V s m o (oneS K V L) M_X7_oneOf md_X7_oneOf
  | 0, d, o, ho, hd => one_C hn (by omega) (by omega) ⟨fun _ => by omega, fun _ => rfl⟩ (exS_rg hT 0) (exprL_C hn hT 0 (d - 1) o ho (by omega)) (fun e h => by cases h)
  | L + 1, d, o, ho, hd => one_C hn (by omega) (by omega) ⟨fun h => (by cases h), fun h => by omega⟩ (exS_rg hT (L + 1)) (exprL_C hn hT (L + 1) (d - 1) o ho (by omega)) (fun e h => by
    cases h
    exact ⟨one_rg hT L, oneL_C hn hT L (d - 1) (o + 1) (by omega) (by omega), any_C hn (by omega) (one_rg hT L) (fun h => oneS_end h L) (oneL_C hn hT L (d - 1 - 1) (o + 1) (by omega) (by omega))⟩)
theorem anyL_C {n : Nat} {K V s : Nat → Nat} {m : Nat} (hn : FIX ≤ n) (hT : TkE K V m) {L d o : Nat} (ho : o + L = 9) (hd : 2 * L + 5 ≤ d) : XC d n K V s m o (anyS K V L) M_X7_anyOf md_X7_anyOf := any_C hn (by omega) (one_rg hT L) (fun h => oneS_end h L) (oneL_C hn hT L (d - 1) o ho (by omega))
/-! a statement -/
def CSt (K V s : Nat → Nat) (m : Nat) (C : List Int) (r : ResS) (v : Int32) (σ' : St) : Prop := TkC σ' K V s m ∧ (r.1 = true ∧ v = 1 ∧ PsC σ' r.2.1 (C ++ encS r.2.2) ∨ r.1 = false ∧ v = 0 ∧ gI σ' 5 1 = nI r.2.1)
theorem stm_C {d n : Nat} {K V s : Nat → Nat} {m : Nat} (hn : FIX ≤ n) (hd : 24 ≤ d) {σ : St} {i : Nat} {C : List Int} (hR : RdC σ K V s m i C) : Cn d n M_X7_statement md_X7_statement [.ref 5] σ (liI (CSt K V s m C (stS K V i))) := by
  obtain ⟨hT, hP, hi, hl⟩ := hR
  have hm := hT.1.1
  have hK := hT.2.1 i
  obtain ⟨p1, p2⟩ := RdC.kind hT hP.1 hi
  have e1 : nI (K i) = 1 ↔ K i = 1 := nI_eq (b := 1) (by omega) (by decide)
  have e2 : nI (K i) = 2 ↔ K i = 2 := nI_eq (b := 2) (by omega) (by decide)
  generalize hQ : CSt K V s m C (stS K V i) = Q
  have bad : ∀ (j : Nat) (σ1 : St), (stS K V i).1 = false → (stS K V i).2.1 = j → TkC σ1 K V s m → gI σ1 5 1 = nI j → Q 0 σ1 := fun j σ1 e f t a => by
    rw [← hQ]; exact ⟨t, Or.inr ⟨e, rfl, by rw [f]; exact a⟩⟩
  -- from behind the head
  have tail : (headS K V i).1 = true → ∀ (σa : St), TkC σa K V s m → PsC σa (headS K V i).2.1 (C ++ encL (headS K V i).2.2) → ∃ Q9 : Int32 → St → Prop, Cn (d - 1) n M_X7_take md_X7_take [.ref 5, .int 3] σa (liI Q9) ∧ ∀ (v12 : Int32) (σ11 : St), Q9 v12 σ11 → Fr md_X7_take σa σ11 → ((v12 = 0 → ∃ Q16 : St → Prop, Cn (d - 1) n M_X7_emit md_X7_emit [.ref 5, .int 1] σ11 (liV Q16) ∧ ∀ (σ18 : St), Q16 σ18 → Fr md_X7_emit σ11 σ18 → ∃ Q22 : Int32 → St → Prop, Cn (d - 1) n M_X7_take md_X7_take [.ref 5, .int 59] σ18 (liI Q22) ∧ ∀ (v25 : Int32) (σ24 : St), Q22 v25 σ24 → Fr md_X7_take σ18 σ24 → ((v25 ≠ 0 → ∃ Q29 : St → Prop, Cn (d - 1) n M_X7_emit md_X7_emit [.ref 5, .int (-(nI (K i)))] σ24 (liV Q29) ∧ ∀ (σ31 : St), Q29 σ31 → Fr md_X7_emit σ24 σ31 → Q 1 σ31) ∧ (v25 = 0 → Q 0 σ24))) ∧ (¬ v12 = 0 → ∃ Q35 : Int32 → St → Prop, Cn (d - 1) n M_X7_anyOf md_X7_anyOf [.ref 5, .int 0] σ11 (liI Q35) ∧ ∀ (v38 : Int32) (σ37 : St), Q35 v38 σ37 → Fr md_X7_anyOf σ11 σ37 → ((v38 ≠ 0 → ∃ Q42 : Int32 → St → Prop, Cn (d - 1) n M_X7_take md_X7_take [.ref 5, .int 59] σ37 (liI Q42) ∧ ∀ (v45 : Int32) (σ44 : St), Q42 v45 σ44 → Fr md_X7_take σ37 σ44 → ((v45 ≠ 0 → ∃ Q49 : St → Prop, Cn (d - 1) n M_X7_emit md_X7_emit [.ref 5, .int (-(nI (K i)))] σ44 (liV Q49) ∧ ∀ (σ51 : St), Q49 σ51 → Fr md_X7_emit σ44 σ51 → Q 1 σ51) ∧ (v45 = 0 → Q 0 σ44))) ∧ (v38 = 0 → Q 0 σ37)))) := by
    intro hh σa ta Pa
    obtain ⟨a1, a2, a3⟩ := head_rg hT.1 hi
    obtain ⟨a4, a5, a6⟩ := a3 hh
    obtain ⟨b1, b2, b3⟩ := tail_rg hT.1 a1
    have hst : stS K V i = if (tailS K V (headS K V i).2.1).1 = true then (if K (tailS K V (headS K V i).2.1).2.1 = 59 then (true, (tailS K V (headS K V i).2.1).2.1 + 1, (K i - 1, (headS K V i).2.2, (tailS K V (headS K V i).2.1).2.2)) else (false, (tailS K V (headS K V i).2.1).2.1, (0, [], []))) else (false, (tailS K V (headS K V i).2.1).2.1, (0, [], [])) := by
      unfold stS; rw [if_pos hh]
    have hneg : (-(nI (K i))).toInt = -(K i : Int) := by rw [ti_neg] <;> rw [nI_toInt (by omega)]; omega
    generalize headS K V i = r at hst a1 a2 a4 a5 b1 b2 b3 Pa
    have lenP : (C ++ encL r.2.2).length + 1 ≤ r.2.1 := by rw [List.length_append]; omega
    refine ⟨_, take_C (k := 3) hn ta Pa.1 a1 (by decide), ?_⟩
    rintro v1 σ1 (⟨k3, rfl, rfl, hlt1⟩ | ⟨k3, rfl, rfl⟩) hf1
    · refine ⟨fun z => absurd z (by decide), fun _ => ?_⟩
      have t1 : TkC (sI σa 5 1 (nI (r.2.1 + 1))) K V s m := ta.fr (fun q k x y => gI_sI_ne (by omega))
      have et : tailS K V r.2.1 = anyS K V 9 (r.2.1 + 1) := by unfold tailS; rw [if_pos k3]
      rw [et] at hst b1 b2 b3
      have rg := anyS_rg hT.1 9 (r.2.1 + 1) (by omega)
      refine ⟨_, anyL_C (L := 9) (o := 0) hn hT.1 rfl (by omega) _ (r.2.1 + 1) (C ++ encL r.2.2) ⟨t1, Pa.at, by omega, by omega⟩, ?_⟩
      rintro v2 σ2 ⟨t2, h2⟩ hf2
      rcases h2 with ⟨a, rfl, P2⟩ | ⟨a, rfl, c⟩
      · rw [if_pos a] at hst
        refine ⟨fun _ => ⟨_, take_C (k := 59) hn t2 P2.1 rg.1 (by decide), ?_⟩, fun z => absurd z (by decide)⟩
        rintro v3 σ3 (⟨k59, rfl, rfl, hlt3⟩ | ⟨k59, rfl, rfl⟩) hf3
        · rw [if_pos k59] at hst
          have t3 : TkC (sI σ2 5 1 (nI ((anyS K V 9 (r.2.1 + 1)).2.1 + 1))) K V s m := t2.fr (fun q k x y => gI_sI_ne (by omega))
          refine ⟨fun _ => ⟨_, emit_C hn (P2.at (j := (anyS K V 9 (r.2.1 + 1)).2.1 + 1)) (by rw [List.length_append]; have := (rg.2.2 a).2; omega) hneg, ?_⟩, fun z => absurd z (by decide)⟩
          rintro σ4 ⟨P4, f4⟩ hf4
          rw [← hQ, hst]
          refine ⟨t3.fr f4, Or.inl ⟨rfl, rfl, ?_⟩⟩
          show PsC σ4 ((anyS K V 9 (r.2.1 + 1)).2.1 + 1) (C ++ encS (K i - 1, r.2.2, (anyS K V 9 (r.2.1 + 1)).2.2))
          have hne : (anyS K V 9 (r.2.1 + 1)).2.2 ≠ [] := tcL_ne (anyS_tg hT.1.2.2.2 9 (r.2.1 + 1) [] a (by decide))
          have : encS (K i - 1, r.2.2, (anyS K V 9 (r.2.1 + 1)).2.2) = encL r.2.2 ++ (encL (anyS K V 9 (r.2.1 + 1)).2.2 ++ [-(K i : Int)]) := by
            unfold encS
            rw [if_neg hne]
            show _ ++ (_ ++ [-((1 + (K i - 1) : Nat) : Int)]) = _
            rw [show 1 + (K i - 1) = K i by omega]
          rw [this, ← List.append_assoc, ← List.append_assoc]; exact P4
        · refine ⟨fun z => absurd rfl z, fun _ => bad _ _ ?_ ?_ t2 P2.1⟩
          · rw [hst, if_neg k59]
          · rw [hst, if_neg k59]
      · refine ⟨fun z => absurd rfl z, fun _ => bad _ _ ?_ ?_ t2 c⟩
        · rw [hst, if_neg (by rw [a]; decide)]
        · rw [hst, if_neg (by rw [a]; decide)]
    · refine ⟨fun _ => ?_, fun z => absurd rfl z⟩
      have et : tailS K V r.2.1 = (true, r.2.1, []) := by unfold tailS; rw [if_neg k3]
      rw [et] at hst
      replace hst : stS K V i = if K r.2.1 = 59 then (true, r.2.1 + 1, (K i - 1, r.2.2, [])) else (false, r.2.1, (0, [], [])) := hst
      refine ⟨_, emit_C (c := 1) hn Pa (by omega) (by decide), ?_⟩
      rintro σ2 ⟨P2, f2⟩ hf2
      have t2 : TkC σ2 K V s m := ta.fr f2
      refine ⟨_, take_C (k := 59) hn t2 P2.1 a1 (by decide), ?_⟩
      rintro v3 σ3 (⟨k59, rfl, rfl, hlt3⟩ | ⟨k59, rfl, rfl⟩) hf3
      · rw [if_pos k59] at hst
        have t3 : TkC (sI σ2 5 1 (nI (r.2.1 + 1))) K V s m := t2.fr (fun q k x y => gI_sI_ne (by omega))
        refine ⟨fun _ => ⟨_, emit_C hn (P2.at (j := r.2.1 + 1)) (by rw [List.length_append]; show _ + 1 < 400; omega) hneg, ?_⟩, fun z => absurd z (by decide)⟩
        rintro σ4 ⟨P4, f4⟩ hf4
        rw [← hQ, hst]
        refine ⟨t3.fr f4, Or.inl ⟨rfl, rfl, ?_⟩⟩
        show PsC σ4 (r.2.1 + 1) (C ++ encS (K i - 1, r.2.2, []))
        have : encS (K i - 1, r.2.2, []) = encL r.2.2 ++ ([1] ++ [-(K i : Int)]) := by
          unfold encS
          rw [if_pos rfl]
          show _ ++ (_ ++ [-((1 + (K i - 1) : Nat) : Int)]) = _
          rw [show 1 + (K i - 1) = K i by omega]
        rw [this, ← List.append_assoc, ← List.append_assoc]; exact P4
      · refine ⟨fun z => absurd rfl z, fun _ => bad _ _ ?_ ?_ t2 P2.1⟩
        · rw [hst, if_neg k59]
        · rw [hst, if_neg k59]
  refine S_X7_statement hn (by omega) ⟨p1, ?_⟩
  rw [p2]
  refine ⟨fun h => ?_, fun h => ⟨fun h2 => ?_, fun h2 => ?_⟩⟩
  · have z1 := e1.mp h
    have eh : headS K V i = exS K V 9 (i + 1) := by unfold headS; rw [if_pos z1]
    refine ⟨_, take_C hn hT hP.1 hi (by omega), ?_⟩
    rintro v1 σ1 (⟨-, rfl, rfl, hlt1⟩ | ⟨k1, -⟩) hf1
    · refine ⟨fun z => absurd h z, fun _ => ?_⟩
      have t1 : TkC (sI σ 5 1 (nI (i + 1))) K V s m := hT.fr (fun q k x y => gI_sI_ne (by omega))
      refine ⟨_, exprL_C hn hT.1 9 (d - 1) 0 rfl (by omega) _ (i + 1) C ⟨t1, hP.at, by omega, by omega⟩, ?_⟩
      rintro v2 σ2 ⟨t2, h2⟩ hf2
      rcases h2 with ⟨a, rfl, P2⟩ | ⟨a, rfl, c⟩
      · exact ⟨fun _ => tail (by rw [eh]; exact a) σ2 t2 (by rw [eh]; exact P2), fun z => absurd z (by decide)⟩
      · refine ⟨fun z => absurd rfl z, fun _ => bad _ _ ?_ ?_ t2 c⟩
        · unfold stS; rw [eh, if_neg (by rw [a]; decide)]
        · unfold stS; rw [eh, if_neg (by rw [a]; decide)]
    · exact absurd rfl k1
  · have z1 : K i ≠ 1 := fun z => h (e1.mpr z)
    have z2 := e2.mp h2
    have eh : headS K V i = (true, i + 1, []) := by unfold headS; rw [if_neg z1, if_pos z2]
    refine ⟨_, take_C hn hT hP.1 hi (by omega), ?_⟩
    rintro v1 σ1 (⟨-, rfl, rfl, hlt1⟩ | ⟨k1, -⟩) hf1
    · refine ⟨fun _ => ?_, fun z => absurd z h⟩
      have t1 : TkC (sI σ 5 1 (nI (i + 1))) K V s m := hT.fr (fun q k x y => gI_sI_ne (by omega))
      refine tail (by rw [eh]) _ t1 ?_
      rw [eh]
      show PsC _ (i + 1) (C ++ encL [])
      rw [show encL [] = [] from rfl, List.append_nil]; exact hP.at
    · exact absurd rfl k1
  · have z1 : K i ≠ 1 := fun z => h (e1.mpr z)
    have z2 : K i ≠ 2 := fun z => h2 (e2.mpr z)
    have eh : headS K V i = (false, i, []) := by unfold headS; rw [if_neg z1, if_neg z2]
    refine bad i σ ?_ ?_ hT hP.1
    · unfold stS; rw [eh]; rfl
    · unfold stS; rw [eh]; rfl
