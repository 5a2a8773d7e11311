/-! ===== the component: reading expressions ===== -/
/-- the tokens as they lie on the tape's rows -/
def TkC (σ : St) (K V s : Nat → Nat) (m : Nat) : Prop := TkE K V m ∧ (∀ j, K j ≤ 258) ∧ ∀ j, j ≤ m → gI σ 20 j = nI (K j) ∧ gI σ 21 j = nI (s j) ∧ gI σ 22 j = nI (V j)
theorem TkC.fr {σ σ' : St} {K V s : Nat → Nat} {m : Nat} (h : TkC σ K V s m) (h1 : ∀ q k, 20 ≤ q → q ≤ 22 → gI σ' q k = gI σ q k) : TkC σ' K V s m := ⟨h.1, h.2.1, fun j hj => by rw [h1 20 j (by omega) (by omega), h1 21 j (by omega) (by omega), h1 22 j (by omega) (by omega)]; exact h.2.2 j hj⟩
theorem TkC.st {m' : Md} {σ σ' : St} {K V s : Nat → Nat} {m : Nat} (h : TkC σ K V s m) (hf : Fr m' σ σ') (ho : (rowFree m' 20 && (rowFree m' 21 && rowFree m' 22)) = true) : TkC σ' K V s m := by
  simp only [Bool.and_eq_true] at ho
  exact ⟨h.1, h.2.1, fun j hj => by rw [hf.row ho.1, hf.row ho.2.1, hf.row ho.2.2]; exact h.2.2 j hj⟩
/-- where the reader is, and its code so far -/
def PsC (σ : St) (i : Nat) (C : List Int) : Prop := gI σ 5 1 = nI i ∧ gI σ 5 3 = nI C.length ∧ ∀ k c, C[k]? = some c → (gI σ 23 k).toInt = c
theorem PsC.at {σ : St} {i j : Nat} {C : List Int} (h : PsC σ i C) : PsC (sI σ 5 1 (nI j)) j C := ⟨gI_sI_same _ _ _ _, by rw [gI_sI_ne (by omega)]; exact h.2.1, fun k c hc => by rw [gI_sI_ne (by omega)]; exact h.2.2 k c hc⟩
def RdC (σ : St) (K V s : Nat → Nat) (m i : Nat) (C : List Int) : Prop := TkC σ K V s m ∧ PsC σ i C ∧ i ≤ m ∧ C.length ≤ i
theorem RdC.kind {σ : St} {K V s : Nat → Nat} {m i : Nat} (hT : TkC σ K V s m) (ha : gI σ 5 1 = nI i) (hi : i ≤ m) : pre_X7_kind σ ∧ fn_X7_kind σ = nI (K i) := by
  have := hT.1.1
  unfold pre_X7_kind fn_X7_kind
  rw [ha, nI_clamp (by omega)]
  exact ⟨⟨vp_in_nI (by omega) (by decide), trivial⟩, (hT.2.2 i hi).1⟩
theorem take_C {d n : Nat} {σ : St} {K V s : Nat → Nat} {m i k : Nat} (hn : FIX ≤ n) (hT : TkC σ K V s m) (ha : gI σ 5 1 = nI i) (hi : i ≤ m) (hk : k < 258) : Cn d n M_X7_take md_X7_take [.ref 5, .int (nI k)] σ (liI (fun v σ' => K i = k ∧ v = 1 ∧ σ' = sI σ 5 1 (nI (i + 1)) ∧ i < m ∨ K i ≠ k ∧ v = 0 ∧ σ' = σ)) := by
  have hm := hT.1.1
  have hK := hT.2.1 i
  refine S_X7_take hn ?_
  rw [ha, nI_clamp (by omega), (hT.2.2 i hi).1, nI_1]
  refine ⟨vp_in_nI (by omega) (by decide), fun h => Or.inr ⟨fun z => h (by rw [z]), rfl, rfl⟩, fun h => ?_⟩
  have e : K i = k := (nI_eq (by omega) (by omega)).mp h
  have hlt := notEnd hT.1 hi e (by omega)
  exact ⟨fun _ => Or.inl ⟨e, rfl, rfl, hlt⟩, fun z => absurd (lt_ti.mpr (by rw [nI_toInt (by omega), show (400 : Int32).toInt = 400 by decide]; omega)) z⟩
theorem emit_C {d n : Nat} {σ : St} {i : Nat} {C : List Int} {a : Int32} {c : Int} (hn : FIX ≤ n) (h : PsC σ i C) (hl : C.length < 400) (ha : a.toInt = c) : Cn d n M_X7_emit md_X7_emit [.ref 5, .int a] σ (liV (fun σ' => PsC σ' i (C ++ [c]) ∧ ∀ q k, 20 ≤ q → q ≤ 22 → gI σ' q k = gI σ q k)) := by
  obtain ⟨h1, h2, h3⟩ := h
  refine S_X7_emit hn ?_
  rw [h2, nI_clamp (by omega), gI_sI_ne (j := 5) (by omega), h2, nI_1]
  refine ⟨fun _ => ⟨vp_in_nI (by omega) (by decide), ⟨?_, ?_, fun k c' hc => ?_⟩, fun q k x y => ?_⟩, fun z => absurd (lt_ti.mpr (by rw [nI_toInt (by omega), show (400 : Int32).toInt = 400 by decide]; omega)) z⟩
  · rw [gI_sI_ne (by omega), gI_sI_ne (by omega)]; exact h1
  · rw [gI_sI_same, List.length_append]; rfl
  · rw [gI_sI_ne (by omega), gI_sI]
    by_cases e : k = C.length
    · rw [if_pos ⟨rfl, e⟩]
      rw [e, List.getElem?_append_right (Nat.le_refl _), Nat.sub_self] at hc
      simp at hc
      rw [ha, hc]
    · rw [if_neg (fun z => e z.2)]
      have hk : k < C.length := by
        have := (List.getElem?_eq_some_iff.mp hc).1
        rw [List.length_append] at this
        have e1 : [c].length = 1 := rfl
        omega
      rw [List.getElem?_append_left hk] at hc
      exact h3 k c' hc
  · rw [gI_sI_ne (by omega), gI_sI_ne (by omega)]
/-- what a part of the reader leaves -/
def CRes (K V s : Nat → Nat) (m : Nat) (C : List Int) (r : Res) (v : Int32) (σ' : St) : Prop := TkC σ' K V s m ∧ (r.1 = true ∧ v = 1 ∧ PsC σ' r.2.1 (C ++ encL r.2.2) ∨ r.1 = false ∧ v = 0 ∧ gI σ' 5 1 = nI r.2.1)
def preR (e : List Op) (r : Res) : Res := (r.1, r.2.1, e ++ r.2.2)
theorem CRes.pre {K V s : Nat → Nat} {m : Nat} {C : List Int} {e : List Op} {r : Res} {v : Int32} {σ' : St} (h : CRes K V s m (C ++ encL e) r v σ') : CRes K V s m C (preR e r) v σ' := by
  obtain ⟨h1, h2⟩ := h
  refine ⟨h1, ?_⟩
  rcases h2 with ⟨a, b, c⟩ | ⟨a, b, c⟩
  · left
    refine ⟨a, b, ?_⟩
    show PsC σ' r.2.1 (C ++ encL (e ++ r.2.2))
    rw [encL_app, ← List.append_assoc]; exact c
  · exact Or.inr ⟨a, b, c⟩
theorem kOf_opK {t : Nat} (h : t = 43 ∨ t = 45 ∨ t = 42 ∨ t = 47 ∨ t = 60 ∨ t = 62 ∨ t = 61 ∨ t = 4 ∨ t = 5) : kOf (opK t) = t := by
  rcases h with e | e | e | e | e | e | e | e | e <;> subst e <;> decide
theorem encL_em {t : Nat} (h : t = 43 ∨ t = 45 ∨ t = 42 ∨ t = 47 ∨ t = 60 ∨ t = 62 ∨ t = 61 ∨ t = 4 ∨ t = 5) : encL [(opK t, 0)] = [-(t : Int)] := by
  rw [encL_one, encO_bin (opK_rng t).1, kOf_opK h]
theorem takeEither_C {d n : Nat} {σ : St} {K V s : Nat → Nat} {m i k1 k2 : Nat} (hn : FIX ≤ n) (hd : 1 ≤ d) (hT : TkC σ K V s m) (ha : gI σ 5 1 = nI i) (hi : i ≤ m) (h1 : 0 < k1 ∧ k1 < 258) (h2 : 0 < k2 ∧ k2 < 258) : Cn d n M_X7_takeEither md_X7_takeEither [.ref 5, .int (nI k1), .int (nI k2)] σ (liI (fun v σ' => (K i = k1 ∨ K i = k2) ∧ v = nI (K i) ∧ σ' = sI σ 5 1 (nI (i + 1)) ∧ i < m ∨ ¬ (K i = k1 ∨ K i = k2) ∧ v = 0 ∧ σ' = σ)) := by
  have hm := hT.1.1
  have hK := hT.2.1 i
  obtain ⟨p1, p2⟩ := RdC.kind hT ha hi
  refine S_X7_takeEither hn hd ⟨p1, ?_⟩
  rw [p2]
  have go : (K i = k1 ∨ K i = k2) → ∃ Q2 : Int32 → St → Prop, Cn (d - 1) n M_X7_take md_X7_take [.ref 5, .int (nI (K i))] σ (liI Q2) ∧ ∀ (v5 : Int32) (σ4 : St), Q2 v5 σ4 → Fr md_X7_take σ σ4 → ((v5 = 0 → (fun v σ' => (K i = k1 ∨ K i = k2) ∧ v = nI (K i) ∧ σ' = sI σ 5 1 (nI (i + 1)) ∧ i < m ∨ ¬ (K i = k1 ∨ K i = k2) ∧ v = 0 ∧ σ' = σ) 0 σ4) ∧ (¬ v5 = 0 → (fun v σ' => (K i = k1 ∨ K i = k2) ∧ v = nI (K i) ∧ σ' = sI σ 5 1 (nI (i + 1)) ∧ i < m ∨ ¬ (K i = k1 ∨ K i = k2) ∧ v = 0 ∧ σ' = σ) (nI (K i)) σ4)) := fun hk => by
    refine ⟨_, take_C hn hT ha hi (by omega), ?_⟩
    rintro v σ1 (⟨e1, rfl, rfl, hlt⟩ | ⟨e1, rfl, rfl⟩) hf
    · exact ⟨fun z => absurd z (by decide), fun _ => Or.inl ⟨hk, rfl, rfl, hlt⟩⟩
    · exact absurd rfl e1
  refine ⟨fun h => go (Or.inl ((nI_eq (by omega) (by omega)).mp h)), fun h => ⟨fun h' => go (Or.inr ((nI_eq (by omega) (by omega)).mp h')), fun h' => Or.inr ⟨?_, rfl, rfl⟩⟩⟩
  rintro (e | e)
  · exact h (by rw [e])
  · exact h' (by rw [e])
/-- the reader's contract for an expression at a depth -/
def XC (d n : Nat) (K V s : Nat → Nat) (m o : Nat) (E : Nat → Res) (M : MI) (md : Md) : Prop := ∀ (σ : St) (i : Nat) (C : List Int), RdC σ K V s m i C → Cn d n M md [.ref 5, .int (nI o)] σ (liI (CRes K V s m C (E i)))
theorem atom_C {d n : Nat} {K V s : Nat → Nat} {m o : Nat} {E : Option (Nat → Res)} (hn : FIX ≤ n) (hd : 1 ≤ d) (ho : o ≤ 9) (hE0 : E = none ↔ o = 9) (hE : ∀ e, E = some e → RG m e ∧ XC (d - 1) n K V s m (o + 1) e M_X7_expression md_X7_expression) : XC d n K V s m o (atom0 K V E) M_X7_atom md_X7_atom := by
  intro σ i C hR
  obtain ⟨hT, hP, hi, hl⟩ := hR
  have hm := hT.1.1
  have hK := hT.2.1 i
  obtain ⟨p1, p2⟩ := RdC.kind hT hP.1 hi
  have o9 : nI o < 9 ↔ o < 9 := by rw [lt_ti, nI_toInt (by omega), show (9 : Int32).toInt = 9 by decide]; omega
  have k8 : nI (K i) < 8 ↔ K i < 8 := by rw [lt_ti, nI_toInt (by omega), show (8 : Int32).toInt = 8 by decide]; omega
  have k13 : (13 : Int32) < nI (K i) ↔ 13 < K i := by rw [lt_ti, nI_toInt (by omega), show (13 : Int32).toInt = 13 by decide]; omega
  have ke : ∀ (x : Int32) (y : Nat), x = nI y → y < 2 ^ 31 → (nI (K i) = x ↔ K i = y) := fun x y h1 h2 => by rw [h1, nI_eq (by omega) h2]
  have e256 := ke 256 256 rfl (by decide)
  have e7 := ke 7 7 rfl (by decide)
  have e40 := ke 40 40 rfl (by decide)
  generalize hQ : CRes K V s m C (atom0 K V E i) = Q
  have bad : ∀ (j : Nat) (σ1 : St), atom0 K V E i = (false, j, []) → TkC σ1 K V s m → gI σ1 5 1 = nI j → Q 0 σ1 := fun j σ1 e t a => by
    rw [← hQ, e]; exact ⟨t, Or.inr ⟨rfl, rfl, a⟩⟩
  have paren : K i = 40 → ((nI o < 9 → ∃ Q6 : Int32 → St → Prop, Cn (d - 1) n M_X7_take md_X7_take [.ref 5, .int (nI (K i))] σ (liI Q6) ∧ ∀ (v9 : Int32) (σ8 : St), Q6 v9 σ8 → Fr md_X7_take σ σ8 → ∃ Q12 : Int32 → St → Prop, Cn (d - 1) n M_X7_expression md_X7_expression [.ref 5, .int (nI o + 1)] σ8 (liI Q12) ∧ ∀ (v15 : Int32) (σ14 : St), Q12 v15 σ14 → Fr md_X7_expression σ8 σ14 → ((v15 = 0 → Q 0 σ14) ∧ (¬ v15 = 0 → ∃ Q19 : Int32 → St → Prop, Cn (d - 1) n M_X7_take md_X7_take [.ref 5, .int 41] σ14 (liI Q19) ∧ ∀ (v22 : Int32) (σ21 : St), Q19 v22 σ21 → Fr md_X7_take σ14 σ21 → ((v22 = 0 → Q 0 σ21) ∧ (¬ v22 = 0 → Q 1 σ21))))) ∧ (¬ nI o < 9 → Q 0 σ)) := fun hk => by
    have evS : ∀ e, E = some e → atom0 K V E i = clsd K 41 (e (i + 1)) := fun e he => by
      rw [he]; unfold atom0; rw [if_neg (by omega), if_neg (by omega), if_neg (by omega), if_pos hk]
    have evN : E = none → atom0 K V E i = (false, i, []) := fun he => by
      rw [he]; unfold atom0; rw [if_neg (by omega), if_neg (by omega), if_neg (by omega), if_pos hk]
    refine ⟨fun hlt => ?_, fun hlt => ?_⟩
    · have ho9 := o9.mp hlt
      cases hEe : E with
      | none => exact absurd (hE0.mp hEe) (by omega)
      | some e =>
        obtain ⟨rg, xc⟩ := hE e hEe
        refine ⟨_, take_C hn hT hP.1 hi (by omega), ?_⟩
        rintro v σ1 (⟨-, rfl, rfl, hlt2⟩ | ⟨e1, -⟩) hf
        · have t1 : TkC (sI σ 5 1 (nI (i + 1))) K V s m := hT.fr (fun q k x y => gI_sI_ne (by omega))
          have r1 := rg (i + 1) (by omega)
          rw [nI_1]
          refine ⟨_, xc _ (i + 1) C ⟨t1, hP.at, by omega, by omega⟩, ?_⟩
          rintro v2 σ2 ⟨t2, h2⟩ hf2
          have ev' := evS e hEe
          rcases h2 with ⟨a, rfl, c⟩ | ⟨a, rfl, c⟩
          · refine ⟨fun z => absurd z (by decide), fun _ => ⟨_, take_C (k := 41) hn t2 c.1 r1.1 (by decide), ?_⟩⟩
            rintro v3 σ3 (⟨e3, rfl, rfl, hlt3⟩ | ⟨e3, rfl, rfl⟩) hf3
            · refine ⟨fun z => absurd z (by decide), fun _ => ?_⟩
              rw [← hQ, ev']
              have ec : clsd K 41 (e (i + 1)) = (true, (e (i + 1)).2.1 + 1, (e (i + 1)).2.2) := by unfold clsd; rw [if_pos a, if_pos e3]
              rw [ec]
              exact ⟨t2.fr (fun q k x y => gI_sI_ne (by omega)), Or.inl ⟨rfl, rfl, c.at⟩⟩
            · refine ⟨fun _ => bad _ _ ?_ t2 c.1, fun z => absurd rfl z⟩
              rw [ev']; unfold clsd; rw [if_pos a, if_neg e3]
          · refine ⟨fun _ => bad _ _ ?_ t2 c, fun z => absurd rfl z⟩
            rw [ev']; unfold clsd; rw [if_neg (by rw [a]; decide)]
        · exact absurd rfl e1
    · have ho9 : o = 9 := by have : ¬ o < 9 := fun z => hlt (o9.mpr z); omega
      exact bad i σ (evN (hE0.mpr ho9)) hT hP.1
  have has : K i = 7 → ∃ Q26 : Int32 → St → Prop, Cn (d - 1) n M_X7_take md_X7_take [.ref 5, .int (nI (K i))] σ (liI Q26) ∧ ∀ (v29 : Int32) (σ28 : St), Q26 v29 σ28 → Fr md_X7_take σ σ28 → pre_X7_kind σ28 ∧ (((fn_X7_kind σ28) ≠ 256 → Q 0 σ28) ∧ ((fn_X7_kind σ28) = 256 → vp_in (gI σ28 5 1) 401 ∧ (((gI σ28 22 (gI σ28 5 1).toNatClampNeg) < 10 → vp_in (gI σ28 5 1) 401 ∧ ∃ Q34 : St → Prop, Cn (d - 1) n M_X7_emit md_X7_emit [.ref 5, .int (gI σ28 22 (gI σ28 5 1).toNatClampNeg)] σ28 (liV Q34) ∧ ∀ (σ36 : St), Q34 σ36 → Fr md_X7_emit σ28 σ36 → ∃ Q40 : St → Prop, Cn (d - 1) n M_X7_emit md_X7_emit [.ref 5, .int (-7)] σ36 (liV Q40) ∧ ∀ (σ42 : St), Q40 σ42 → Fr md_X7_emit σ36 σ42 → ∃ Q46 : Int32 → St → Prop, Cn (d - 1) n M_X7_take md_X7_take [.ref 5, .int 256] σ42 (liI Q46) ∧ ∀ (v49 : Int32) (σ48 : St), Q46 v49 σ48 → Fr md_X7_take σ42 σ48 → (v49 = 0 ∨ v49 = 1) ∧ Q v49 σ48) ∧ (¬ (gI σ28 22 (gI σ28 5 1).toNatClampNeg) < 10 → Q 0 σ28)))) := fun hk => by
    have ev : atom0 K V E i = if K (i + 1) = 256 ∧ V (i + 1) < 10 then (true, i + 2, [(2, V (i + 1))]) else (false, i + 1, []) := by
      unfold atom0; rw [if_neg (by omega), if_neg (by omega), if_pos hk]
    refine ⟨_, take_C hn hT hP.1 hi (by omega), ?_⟩
    rintro v σ1 (⟨-, rfl, rfl, hlt2⟩ | ⟨e1, -⟩) hf
    · have t1 : TkC (sI σ 5 1 (nI (i + 1))) K V s m := hT.fr (fun q k x y => gI_sI_ne (by omega))
      have P1 : PsC (sI σ 5 1 (nI (i + 1))) (i + 1) C := hP.at
      have hK1 := hT.2.1 (i + 1)
      have hV1 := hT.1.2.2.2 (i + 1)
      obtain ⟨q1, q2⟩ := RdC.kind t1 P1.1 (show i + 1 ≤ m by omega)
      refine ⟨q1, ?_⟩
      rw [q2, P1.1, nI_clamp (by omega), (t1.2.2 (i + 1) (by omega)).2.2]
      have hv : vp_in (nI (i + 1)) 401 := vp_in_nI (by omega) (by decide)
      have e256' : nI (K (i + 1)) = 256 ↔ K (i + 1) = 256 := nI_eq (b := 256) (by omega) (by decide)
      have l10 : nI (V (i + 1)) < 10 ↔ V (i + 1) < 10 := by rw [lt_ti, nI_toInt (by omega), show (10 : Int32).toInt = 10 by decide]; omega
      refine ⟨fun h => bad (i + 1) _ ?_ t1 P1.1, fun h => ⟨hv, fun h2 => ⟨hv, ?_⟩, fun h2 => bad (i + 1) _ ?_ t1 P1.1⟩⟩
      · rw [ev, if_neg (fun z => h (e256'.mpr z.1))]
      · have c1 := e256'.mp h
        have c2 := l10.mp h2
        have h6 := notEnd hT.1 (show i + 1 ≤ m by omega) c1 (by decide)
        refine ⟨_, emit_C (c := (V (i + 1) : Int)) hn P1 (by omega) (nI_toInt (by omega)), ?_⟩
        rintro σ2 ⟨P2, f2⟩ hf2
        have t2 : TkC σ2 K V s m := t1.fr f2
        refine ⟨_, emit_C (c := -7) hn P2 (by rw [List.length_append]; show C.length + 1 < 400; omega) (by decide), ?_⟩
        rintro σ3 ⟨P3, f3⟩ hf3
        have t3 : TkC σ3 K V s m := t2.fr f3
        refine ⟨_, take_C (k := 256) hn t3 P3.1 (show i + 1 ≤ m by omega) (by decide), ?_⟩
        rintro v4 σ4 (⟨e4, rfl, rfl, hlt4⟩ | ⟨e4, -⟩) hf4
        · refine ⟨Or.inr rfl, ?_⟩
          rw [← hQ, ev, if_pos ⟨c1, c2⟩]
          refine ⟨t3.fr (fun q k x y => gI_sI_ne (by omega)), Or.inl ⟨rfl, rfl, ?_⟩⟩
          have : C ++ encL [(2, V (i + 1))] = C ++ [(V (i + 1) : Int)] ++ [-7] := by rw [encL_one]; show C ++ [_, _] = _; simp
          show PsC _ (i + 2) (C ++ encL [(2, V (i + 1))])
          rw [this]; exact P3.at
        · exact absurd c1 e4
      · rw [ev, if_neg (fun z => h2 (l10.mpr z.2))]
    · exact absurd rfl e1
  refine S_X7_atom hn hd ⟨p1, ?_⟩
  rw [p2]
  refine ⟨fun h => ⟨fun h2 => ⟨fun h3 => ⟨fun h4 => bad i σ ?_ hT hP.1, fun h4 => paren (e40.mp h4)⟩, fun h3 => has (e7.mp h3)⟩, fun h2 => ⟨fun h3 => ⟨fun h4 => ⟨fun h5 => bad i σ ?_ hT hP.1, fun h5 => paren (e40.mp h5)⟩, fun h4 => has (e7.mp h4)⟩, fun h3 => ?_⟩⟩, fun h => ?_⟩
  · have z1 : K i ≠ 256 := fun z => h (e256.mpr z)
    have z2 := k8.mp h2
    have z3 : K i ≠ 7 := fun z => h3 (e7.mpr z)
    have z4 : K i ≠ 40 := fun z => h4 (e40.mpr z)
    unfold atom0; rw [if_neg z1, if_neg (by omega), if_neg z3, if_neg z4]
  · have z1 : K i ≠ 256 := fun z => h (e256.mpr z)
    have z2 := k13.mp h3
    have z3 : K i ≠ 7 := fun z => h4 (e7.mpr z)
    have z4 : K i ≠ 40 := fun z => h5 (e40.mpr z)
    unfold atom0; rw [if_neg z1, if_neg (by omega), if_neg z3, if_neg z4]
  · have z1 : K i ≠ 256 := fun z => h (e256.mpr z)
    have z2 : ¬ K i < 8 := fun z => h2 (k8.mpr z)
    have z3 : ¬ 13 < K i := fun z => h3 (k13.mpr z)
    have ev : atom0 K V E i = (true, i + 1, [(1, K i - 8)]) := by unfold atom0; rw [if_neg z1, if_pos ⟨by omega, by omega⟩]
    have hlt := notEnd hT.1 hi rfl (show K i ≠ 258 by omega)
    have hneg : (-(nI (K i))).toInt = -(K i : Int) := by rw [ti_neg] <;> rw [nI_toInt (by omega)]; omega
    refine ⟨_, emit_C hn hP (by omega) hneg, ?_⟩
    rintro σ2 ⟨P2, f2⟩ hf2
    have t2 : TkC σ2 K V s m := hT.fr f2
    refine ⟨_, take_C hn t2 P2.1 hi (by omega), ?_⟩
    rintro v3 σ3 (⟨e3, rfl, rfl, hlt3⟩ | ⟨e3, -⟩) hf3
    · refine ⟨Or.inr rfl, ?_⟩
      rw [← hQ, ev]
      refine ⟨t2.fr (fun q k x y => gI_sI_ne (by omega)), Or.inl ⟨rfl, rfl, ?_⟩⟩
      show PsC _ (i + 1) (C ++ encL [(1, K i - 8)])
      have : encL [(1, K i - 8)] = [-(K i : Int)] := by
        rw [encL_one]; unfold encO
        rw [if_neg (show ¬ (1 : Nat) = 0 by decide), if_pos rfl]
        show [-(((8 + (K i - 8) : Nat)) : Int)] = _
        rw [show 8 + (K i - 8) = K i by omega]
      rw [this]; exact P2.at
    · exact absurd rfl e3
  · have z1 := e256.mp h
    have ev : atom0 K V E i = (true, i + 1, [(0, V i)]) := by unfold atom0; rw [if_pos z1]
    have hlt := notEnd hT.1 hi z1 (by decide)
    have hV1 := hT.1.2.2.2 i
    rw [hP.1, nI_clamp (by omega), (hT.2.2 i hi).2.2]
    refine ⟨vp_in_nI (by omega) (by decide), _, emit_C (c := (V i : Int)) hn hP (by omega) (nI_toInt (by omega)), ?_⟩
    rintro σ2 ⟨P2, f2⟩ hf2
    have t2 : TkC σ2 K V s m := hT.fr f2
    refine ⟨_, take_C hn t2 P2.1 hi (by omega), ?_⟩
    rintro v3 σ3 (⟨e3, rfl, rfl, hlt3⟩ | ⟨e3, -⟩) hf3
    · refine ⟨Or.inr rfl, ?_⟩
      rw [← hQ, ev]
      refine ⟨t2.fr (fun q k x y => gI_sI_ne (by omega)), Or.inl ⟨rfl, rfl, ?_⟩⟩
      show PsC _ (i + 1) (C ++ encL [(0, V i)])
      have : encL [(0, V i)] = [(V i : Int)] := by rw [encL_one]; rfl
      rw [this]; exact P2.at
    · exact absurd rfl e3
