/-! ===== the model: a statement ===== -/
/-- all but place k of the rows of statements is as before -/
def KsM (σ0 σ : St) (k : Nat) : Prop := ∀ q j, 51 ≤ q → q ≤ 54 → j ≠ k → gI σ q j = gI σ0 q j
theorem KsM.st {m : Md} {σ0 σ σ' : St} {k : Nat} (h : KsM σ0 σ k) (hf : Fr m σ σ') (ho : (rowFree m 51 && (rowFree m 52 && (rowFree m 53 && rowFree m 54))) = true) : KsM σ0 σ' k := by
  simp only [Bool.and_eq_true] at ho
  intro q j h1 h2 h3
  rw [← h q j h1 h2 h3]
  rcases (by omega : q = 51 ∨ q = 52 ∨ q = 53 ∨ q = 54) with e | e | e | e <;> subst e
  · exact hf.row ho.1 _
  · exact hf.row ho.2.1 _
  · exact hf.row ho.2.2.1 _
  · exact hf.row ho.2.2.2 _
theorem KsM.at {σ0 σ : St} {k q j : Nat} {v : Int32} (h : KsM σ0 σ k) (hq : (51 ≤ q ∧ q ≤ 54 → j = k)) : KsM σ0 (sI σ q j v) k := by
  intro q' j' h1 h2 h3
  rw [gI_sI_ne (fun z => h3 (by rw [z.2]; exact hq ⟨by omega, by omega⟩))]
  exact h q' j' h1 h2 h3
theorem BM.wr {σ : St} {F : Nat → Nat → Int32} {tx : Nat → Nat} {e D q k : Nat} {C : List Op} {v : Int32} (h : BM σ F tx e C D) (hq : 50 ≤ q ∧ q ≤ 54) : BM (sI σ q k v) F tx e C D :=
  ⟨h.1.w (gI_sI_ne (by omega)) (fun k => gI_sI_ne (by omega)), h.2.1.w (gI_sI_ne (by omega)) (fun k => gI_sI_ne (by omega)) (fun k => gI_sI_ne (by omega)), by rw [gI_sI_ne (by omega)]; exact h.2.2⟩
theorem AtM.wr {σ : St} {tx : Nat → Nat} {e i q k : Nat} {v : Int32} (h : AtM σ tx e i) (hq : q ≠ 11) : AtM (sI σ q k v) tx e i := by
  obtain ⟨p, h1, h2, h3⟩ := h
  exact ⟨p, h1, by rw [gI_sI_ne (by omega)]; exact h2, h3⟩
/-- how a statement of the draft stands at place k -/
def StA (σ : St) (k c : Nat) (s : Stm) : Prop := gI σ 51 k = nI s.1 ∧ gI σ 52 k = nI (4500 + c) ∧ gI σ 53 k = nI (4500 + c + s.2.1.length) ∧ gI σ 54 k = nI (4500 + c + s.2.1.length + s.2.2.length)
def MSt (F : Nat → Nat → Int32) (tx : Nat → Nat) (e k : Nat) (C : List Op) (σ0 : St) (r : ResS) (v : Int32) (σ' : St) : Prop := KsM σ0 σ' k ∧ TxM σ' tx e ∧ (r.1 = true ∧ v = 1 ∧ AtM σ' tx e r.2.1 ∧ PsM σ' F (C ++ (r.2.2.2.1 ++ r.2.2.2.2)) ∧ StA σ' k C.length r.2.2 ∨ r.1 = false ∧ v = 0 ∧ AtX σ' tx e r.2.1 ∧ OpF σ' F)
theorem statement_M {d n : Nat} {σ : St} {F : Nat → Nat → Int32} {tx : Nat → Nat} {e m i k : Nat} {C : List Op} (hn : FIX ≤ n) (hd : 36 ≤ d) (X : TX tx e m) (hk : k < 160) (hT : TxM σ tx e) (hA : AtM σ tx e i) (hP : PsM σ F C) (hi : i ≤ m) (hl : C.length ≤ i) : Cn d n M_X12_statement md_X12_statement [.ref 11, .int (nI k)] σ (liI (MSt F tx e k C σ (stS (KT tx e) (VT tx e) i))) := by
  have hm := X.2.2.1
  have he := X.1
  have ek : (nI k).toNatClampNeg = k := nI_clamp (by omega)
  have vk : vp_in (nI k) 160 := vp_in_nI (by omega) (by decide)
  have K0 : KsM σ σ k := fun _ _ _ _ _ => rfl
  generalize hQ : MSt F tx e k C σ (stS (KT tx e) (VT tx e) i) = Q
  have bad : ∀ (j : Nat) (σ1 : St), (stS (KT tx e) (VT tx e) i).1 = false → (stS (KT tx e) (VT tx e) i).2.1 = j → KsM σ σ1 k → AtX σ1 tx e j → TxM σ1 tx e → OpF σ1 F → Q 0 σ1 := fun j σ1 e1 e2 ks a t o => by
    rw [← hQ]; exact ⟨ks, t, Or.inr ⟨e1, rfl, by rw [e2]; exact a, o⟩⟩
  obtain ⟨a1, a2, a3⟩ := head_rg X.2.2 hi
  obtain ⟨b1, b2, b3⟩ := tail_rg (K := KT tx e) (V := VT tx e) X.2.2 a1
  have hst : stS (KT tx e) (VT tx e) i = if (headS (KT tx e) (VT tx e) i).1 = true then (if (tailS (KT tx e) (VT tx e) (headS (KT tx e) (VT tx e) i).2.1).1 = true then (if KT tx e (tailS (KT tx e) (VT tx e) (headS (KT tx e) (VT tx e) i).2.1).2.1 = 59 then (true, (tailS (KT tx e) (VT tx e) (headS (KT tx e) (VT tx e) i).2.1).2.1 + 1, (KT tx e i - 1, (headS (KT tx e) (VT tx e) i).2.2, (tailS (KT tx e) (VT tx e) (headS (KT tx e) (VT tx e) i).2.1).2.2)) else (false, (tailS (KT tx e) (VT tx e) (headS (KT tx e) (VT tx e) i).2.1).2.1, (0, [], []))) else (false, (tailS (KT tx e) (VT tx e) (headS (KT tx e) (VT tx e) i).2.1).2.1, (0, [], []))) else (false, (headS (KT tx e) (VT tx e) i).2.1, (0, [], [])) := rfl
  generalize hh : headS (KT tx e) (VT tx e) i = h at *
  generalize ht : tailS (KT tx e) (VT tx e) h.2.1 = t at *
  have lh := encL_len h.2.2
  have lt := encL_len t.2.2
  -- the end of a statement
  have fin : h.1 = true → t.1 = true → ∀ (σb : St), BM σb F tx e (C ++ (h.2.2 ++ t.2.2)) 0 → AtM σb tx e t.2.1 → KsM σ σb k → gI σb 51 k = nI (KT tx e i - 1) → gI σb 52 k = nI (4500 + C.length) → gI σb 53 k = nI (4500 + C.length + h.2.2.length) → vp_in (nI k) 160 ∧ ∃ Q57 : Int32 → St → Prop, Cn (d - 1) n M_X12_takesSign md_X12_takesSign [.ref 11, .int 59] (sI σb 54 k (gI σb 11 18)) (liI Q57) ∧ ∀ (v60 : Int32) (σ59 : St), Q57 v60 σ59 → Fr md_X12_takesSign (sI σb 54 k (gI σb 11 18)) σ59 → (v60 = 0 ∨ v60 = 1) ∧ Q v60 σ59 := by
    intro h1 t1 σb Bb ab kb g1 g2 g3
    have e18 : gI σb 11 18 = nI (4500 + (C ++ (h.2.2 ++ t.2.2)).length) := Bb.2.1.1
    have B2 : BM (sI σb 54 k (gI σb 11 18)) F tx e (C ++ (h.2.2 ++ t.2.2)) 0 := Bb.wr (by omega)
    refine ⟨vk, _, takesS_M (s := 59) (by decide) hn (by omega) X.1 X.2.1 (by decide) B2.1 (ab.wr (by omega)), ?_⟩
    rintro v σc hc hfc
    have Bc := B2.st hfc (by decide)
    have kc : KsM σ σc k := (kb.at (fun _ => rfl)).st hfc (by decide)
    rw [if_pos h1, if_pos t1] at hst
    rcases hc with ⟨kk, rfl, ac⟩ | ⟨kk, rfl, ac⟩
    · rw [if_pos kk] at hst
      refine ⟨Or.inr rfl, ?_⟩
      rw [← hQ, hst]
      refine ⟨kc, Bc.1, Or.inl ⟨rfl, rfl, ac, Bc.2.1, ?_, ?_, ?_, ?_⟩⟩
      · rw [hfc.row (by decide), gI_sI_ne (by omega)]; exact g1
      · rw [hfc.row (by decide), gI_sI_ne (by omega)]; exact g2
      · rw [hfc.row (by decide), gI_sI_ne (by omega)]; exact g3
      · rw [hfc.row (by decide), gI_sI_same, e18, List.length_append, List.length_append]
        show nI (4500 + (C.length + (h.2.2.length + t.2.2.length))) = nI (4500 + C.length + h.2.2.length + t.2.2.length)
        congr 1; omega
    · rw [if_neg kk] at hst
      refine ⟨Or.inl rfl, bad t.2.1 σc (by rw [hst]) (by rw [hst]) kc ac Bc.1 Bc.2.1.2.2⟩
  -- behind the head
  have tail : h.1 = true → ∀ (σa : St), BM σa F tx e (C ++ h.2.2) 0 → AtM σa tx e h.2.1 → KsM σ σa k → gI σa 51 k = nI (KT tx e i - 1) → gI σa 52 k = nI (4500 + C.length) → gI σa 53 k = nI (4500 + C.length + h.2.2.length) → ∃ Q50 : Int32 → St → Prop, Cn (d - 1) n M_X12_takes md_X12_takes [.ref 11, .long 26982] σa (liI Q50) ∧ ∀ (v53 : Int32) (σ52 : St), Q50 v53 σ52 → Fr md_X12_takes σa σ52 → ((v53 = 0 → vp_in (nI k) 160 ∧ ∃ Q57 : Int32 → St → Prop, Cn (d - 1) n M_X12_takesSign md_X12_takesSign [.ref 11, .int 59] (sI σ52 54 k (gI σ52 11 18)) (liI Q57) ∧ ∀ (v60 : Int32) (σ59 : St), Q57 v60 σ59 → Fr md_X12_takesSign (sI σ52 54 k (gI σ52 11 18)) σ59 → (v60 = 0 ∨ v60 = 1) ∧ Q v60 σ59) ∧ (¬ v53 = 0 → ∃ Q63 : Int32 → St → Prop, Cn (d - 1) n M_X12_any md_X12_any [.ref 11] σ52 (liI Q63) ∧ ∀ (v66 : Int32) (σ65 : St), Q63 v66 σ65 → Fr md_X12_any σ52 σ65 → ((v66 ≠ 0 → vp_in (nI k) 160 ∧ ∃ Q70 : Int32 → St → Prop, Cn (d - 1) n M_X12_takesSign md_X12_takesSign [.ref 11, .int 59] (sI σ65 54 k (gI σ65 11 18)) (liI Q70) ∧ ∀ (v73 : Int32) (σ72 : St), Q70 v73 σ72 → Fr md_X12_takesSign (sI σ65 54 k (gI σ65 11 18)) σ72 → (v73 = 0 ∨ v73 = 1) ∧ Q v73 σ72) ∧ (v66 = 0 → Q 0 σ65)))) := by
    intro h1 σa Ba aa ka g1 g2 g3
    obtain ⟨a4, a5, a6⟩ := a3 h1
    refine ⟨_, takesW_M (c := 2) (by decide) hn (by omega) X.1 X.2.1 (by decide) Ba.1 aa, ?_⟩
    rintro v σb (⟨kk, rfl, ab⟩ | ⟨kk, rfl, ab⟩) hfb
    · have Bb := Ba.st hfb (by decide)
      have kb := ka.st hfb (by decide)
      have k3 : KT tx e h.2.1 = 3 := kk
      have hlt := notEnd X.2.2 a1 k3 (by decide)
      have et : t = anyS (KT tx e) (VT tx e) 9 (h.2.1 + 1) := by rw [← ht]; unfold tailS; rw [if_pos k3]
      refine ⟨fun z => absurd z (by decide), fun _ => ⟨_, anyL_M (L := 9) (D := 0) hn X rfl (by omega) σb (h.2.1 + 1) (C ++ h.2.2) ⟨Bb, ab, by omega, by rw [List.length_append]; omega⟩, ?_⟩⟩
      rw [← et]
      rintro v2 σc (⟨t1, rfl, ac, Bc⟩ | ⟨t1, rfl, ac, tc, oc⟩) hfc
      · refine ⟨fun _ => fin h1 t1 σc (by rw [← List.append_assoc]; exact Bc) ac (kb.st hfc (by decide)) ?_ ?_ ?_, fun z => absurd z (by decide)⟩
        · rw [hfc.row (by decide), hfb.row (by decide)]; exact g1
        · rw [hfc.row (by decide), hfb.row (by decide)]; exact g2
        · rw [hfc.row (by decide), hfb.row (by decide)]; exact g3
      · rw [if_pos h1, if_neg (by rw [t1]; decide)] at hst
        exact ⟨fun z => absurd rfl z, fun _ => bad t.2.1 σc (by rw [hst]) (by rw [hst]) (kb.st hfc (by decide)) ac tc oc⟩
    · have Bb := Ba.st hfb (by decide)
      have kb := ka.st hfb (by decide)
      have k3 : KT tx e h.2.1 ≠ 3 := kk
      have et : t = (true, h.2.1, []) := by rw [← ht]; unfold tailS; rw [if_neg k3]
      refine ⟨fun _ => fin h1 (by rw [et]) σb ?_ (by rw [et]; exact ab.m) kb ?_ ?_ ?_, fun z => absurd rfl z⟩
      · rw [et]
        show BM σb F tx e (C ++ (h.2.2 ++ [])) 0
        rw [List.append_nil]; exact Bb
      · rw [hfb.row (by decide)]; exact g1
      · rw [hfb.row (by decide)]; exact g2
      · rw [hfb.row (by decide)]; exact g3
  -- the state with which a statement begins
  have beg : ∀ (σa : St) (x : Int32), TxM σa tx e → PsM σa F C → AtM σa tx e (i + 1) → KsM σ σa k → gI (sI (sI σa 51 k x) 11 17 0) 11 18 = nI (4500 + C.length) ∧ BM (sI (sI (sI σa 51 k x) 11 17 0) 52 k (nI (4500 + C.length))) F tx e C 0 ∧ AtM (sI (sI (sI σa 51 k x) 11 17 0) 52 k (nI (4500 + C.length))) tx e (i + 1) ∧ KsM σ (sI (sI (sI σa 51 k x) 11 17 0) 52 k (nI (4500 + C.length))) k ∧ gI (sI (sI (sI σa 51 k x) 11 17 0) 52 k (nI (4500 + C.length))) 51 k = x := by
    intro σa x ta pa aa ka
    refine ⟨?_, ?_, ?_, ?_, ?_⟩
    · rw [gI_sI_ne (by omega), gI_sI_ne (by omega)]; exact pa.1
    · refine BM.wr ⟨?_, ?_, gI_sI_same _ _ _ _⟩ (by omega)
      · exact ta.w (by rw [gI_sI_ne (by omega), gI_sI_ne (by omega)]) (fun k => by rw [gI_sI_ne (by omega), gI_sI_ne (by omega)])
      · exact pa.w (by rw [gI_sI_ne (by omega), gI_sI_ne (by omega)]) (fun k => by rw [gI_sI_ne (by omega), gI_sI_ne (by omega)]) (fun k => by rw [gI_sI_ne (by omega), gI_sI_ne (by omega)])
    · exact ((aa.wr (by omega)).dp).wr (by omega)
    · exact ((ka.at (fun _ => rfl)).at (fun z => by omega)).at (fun _ => rfl)
    · rw [gI_sI_ne (by omega), gI_sI_ne (by omega), gI_sI_same]
  refine S_X12_statement hn (by omega) ⟨_, takesW_M (c := 0) (by decide) hn (by omega) X.1 X.2.1 (by decide) hT hA, ?_⟩
  rw [ek]
  rintro v1 σ1 (⟨k1, rfl, at1⟩ | ⟨k1, rfl, at1⟩) hf1
  · have t1 : TxM σ1 tx e := hT.st hf1 (by decide)
    have p1 : PsM σ1 F C := hP.st hf1 (by decide)
    have ks1 := K0.st hf1 (by decide)
    have z1 : KT tx e i = 1 := k1
    have hlt := notEnd X.2.2 hi z1 (by decide)
    have eh : h = exS (KT tx e) (VT tx e) 9 (i + 1) := by rw [← hh]; unfold headS; rw [if_pos z1]
    obtain ⟨g1, g2, g3, g4, g5⟩ := beg σ1 0 t1 p1 at1 ks1
    refine ⟨fun z => absurd z (by decide), fun _ => ⟨vk, vk, fun _ => ⟨vk, vk, ?_⟩, fun z => absurd ((gI_sI_same _ _ _ _).symm.trans z) (by decide)⟩⟩
    rw [g1]
    refine ⟨fun z => absurd g5 z, fun _ => ?_⟩
    refine ⟨_, exL_M hn X 9 (d - 1) 0 rfl (by omega) _ (i + 1) C ⟨g2, g3, by omega, by omega⟩, ?_⟩
    rw [← eh]
    rintro v2 σ2 (⟨h1, rfl, at2, B2⟩ | ⟨h1, rfl, at2, t2, o2⟩) hf2
    · refine ⟨fun _ => ⟨vk, ?_⟩, fun z => absurd z (by decide)⟩
      have e18 : gI σ2 11 18 = nI (4500 + (C ++ h.2.2).length) := B2.2.1.1
      rw [e18]
      refine tail h1 _ (B2.wr (by omega)) (at2.wr (by omega)) ((g4.st hf2 (by decide)).at (fun _ => rfl)) ?_ ?_ ?_
      · rw [gI_sI_ne (by omega), hf2.row (by decide), g5, z1]; rfl
      · rw [gI_sI_ne (by omega), hf2.row (by decide), gI_sI_same]
      · rw [gI_sI_same, List.length_append]; congr 1; omega
    · rw [if_neg (by rw [h1]; decide)] at hst
      exact ⟨fun z => absurd rfl z, fun _ => bad h.2.1 σ2 (by rw [hst]) (by rw [hst]) (g4.st hf2 (by decide)) at2 t2 o2⟩
  · have t1 : TxM σ1 tx e := hT.st hf1 (by decide)
    have p1 : PsM σ1 F C := hP.st hf1 (by decide)
    have ks1 := K0.st hf1 (by decide)
    have z1 : KT tx e i ≠ 1 := k1
    refine ⟨fun _ => ⟨_, takesW_M (c := 1) (by decide) hn (by omega) X.1 X.2.1 (by decide) t1 at1.m, ?_⟩, fun z => absurd rfl z⟩
    rintro v2 σ2 (⟨k2, rfl, at2⟩ | ⟨k2, rfl, at2⟩) hf2
    · have t2 : TxM σ2 tx e := t1.st hf2 (by decide)
      have p2 : PsM σ2 F C := p1.st hf2 (by decide)
      have ks2 := ks1.st hf2 (by decide)
      have z2 : KT tx e i = 2 := k2
      have eh : h = (true, i + 1, []) := by rw [← hh]; unfold headS; rw [if_neg z1, if_pos z2]
      obtain ⟨g1, g2, g3, g4, g5⟩ := beg σ2 1 t2 p2 at2 ks2
      refine ⟨fun z => absurd z (by decide), fun _ => ⟨vk, vk, fun _ => ⟨vk, vk, ?_⟩, fun z => absurd ((gI_sI_same _ _ _ _).symm.trans z) (by decide)⟩⟩
      rw [g1]
      refine ⟨fun _ => ⟨vk, ?_⟩, fun z => absurd (g5.symm.trans z) (by decide)⟩
      have e18 : gI (sI (sI (sI σ2 51 k 1) 11 17 0) 52 k (nI (4500 + C.length))) 11 18 = nI (4500 + C.length) := by rw [gI_sI_ne (by omega)]; exact g1
      rw [e18]
      refine tail (by rw [eh]) _ ?_ ?_ (g4.at (fun _ => rfl)) ?_ ?_ ?_
      · rw [eh]
        show BM _ F tx e (C ++ []) 0
        rw [List.append_nil]; exact g2.wr (by omega)
      · rw [eh]; exact g3.wr (by omega)
      · rw [gI_sI_ne (by omega), g5, z2]; rfl
      · rw [gI_sI_ne (by omega), gI_sI_same]
      · rw [gI_sI_same, eh]; rfl
    · have t2 : TxM σ2 tx e := t1.st hf2 (by decide)
      have p2 : PsM σ2 F C := p1.st hf2 (by decide)
      have ks2 := ks1.st hf2 (by decide)
      have z2 : KT tx e i ≠ 2 := k2
      have eh : h = (false, i, []) := by rw [← hh]; unfold headS; rw [if_neg z1, if_neg z2]
      rw [eh] at hst
      refine ⟨fun _ => ⟨vk, vk, fun z => absurd (gI_sI_same _ _ _ _) z, fun _ => bad i _ (by rw [hst]; rfl) (by rw [hst]; rfl) (ks2.at (fun _ => rfl)) ?_ ?_ ?_⟩, fun z => absurd rfl z⟩
      · show gI _ 11 16 = _
        rw [gI_sI_ne (by omega)]; exact at2
      · exact t2.w (gI_sI_ne (by omega)) (fun k => gI_sI_ne (by omega))
      · exact (p2.w (gI_sI_ne (by omega)) (fun k => gI_sI_ne (by omega)) (fun k => gI_sI_ne (by omega))).2.2
