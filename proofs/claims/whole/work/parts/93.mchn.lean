/-! ===== the model: chains, atoms ===== -/
/-- a text, its bytes, its tokens -/
def TX (tx : Nat → Nat) (e m : Nat) : Prop := e ≤ 400 ∧ (∀ k, tx k < 256) ∧ TkE (KT tx e) (VT tx e) m
/-- the text, what was said, how deep -/
def BM (σ : St) (F : Nat → Nat → Int32) (tx : Nat → Nat) (e : Nat) (C : List Op) (D : Nat) : Prop := TxM σ tx e ∧ PsM σ F C ∧ gI σ 11 17 = nI D
theorem BM.st {m : Md} {σ σ' : St} {F : Nat → Nat → Int32} {tx : Nat → Nat} {e D : Nat} {C : List Op} (h : BM σ F tx e C D) (hf : Fr m σ σ') (ho : ((cellFree m 11 15 && rowFree m 60) && ((cellFree m 11 18 && (rowFree m 55 && rowFree m 56)) && cellFree m 11 17)) = true) : BM σ' F tx e C D := by
  rw [Bool.and_eq_true, Bool.and_eq_true (cellFree m 11 18 && _)] at ho
  exact ⟨h.1.st hf ho.1, h.2.1.st hf ho.2.1, by rw [hf.cell ho.2.2]; exact h.2.2⟩
theorem BM.at {σ : St} {F : Nat → Nat → Int32} {tx : Nat → Nat} {e D : Nat} {C : List Op} {v : Int32} (h : BM σ F tx e C D) : BM (sI σ 11 16 v) F tx e C D :=
  ⟨h.1.w (gI_sI_ne (by omega)) (fun k => gI_sI_ne (by omega)), h.2.1.w (gI_sI_ne (by omega)) (fun k => gI_sI_ne (by omega)) (fun k => gI_sI_ne (by omega)), by rw [gI_sI_ne (by omega)]; exact h.2.2⟩
theorem BM.dp {σ : St} {F : Nat → Nat → Int32} {tx : Nat → Nat} {e D D' : Nat} {C : List Op} (h : BM σ F tx e C D) : BM (sI σ 11 17 (nI D')) F tx e C D' :=
  ⟨h.1.w (gI_sI_ne (by omega)) (fun k => gI_sI_ne (by omega)), h.2.1.w (gI_sI_ne (by omega)) (fun k => gI_sI_ne (by omega)) (fun k => gI_sI_ne (by omega)), gI_sI_same _ _ _ _⟩
theorem BM.pu {σ σ' : St} {F : Nat → Nat → Int32} {tx : Nat → Nat} {e D : Nat} {C C' : List Op} (h : BM σ F tx e C D) (hp : PsM σ' F C') (hf : Fr md_X12_puts σ σ') : BM σ' F tx e C' D :=
  ⟨h.1.st hf (by decide), hp, by rw [hf.cell (by decide)]; exact h.2.2⟩
theorem AtM.puts {σ σ' : St} {tx : Nat → Nat} {e i : Nat} {md : Md} (h : AtM σ tx e i) (hf : Fr md σ σ') (ho : cellFree md 11 16 = true) : AtM σ' tx e i := by
  obtain ⟨p, h1, h2, h3⟩ := h
  exact ⟨p, h1, by rw [hf.cell ho]; exact h2, h3⟩
theorem AtM.dp {σ : St} {tx : Nat → Nat} {e i : Nat} {v : Int32} (h : AtM σ tx e i) : AtM (sI σ 11 17 v) tx e i := by
  obtain ⟨p, h1, h2, h3⟩ := h
  exact ⟨p, h1, by rw [gI_sI_ne (by omega)]; exact h2, h3⟩
def RdM (σ : St) (F : Nat → Nat → Int32) (tx : Nat → Nat) (e m i : Nat) (C : List Op) (D : Nat) : Prop := BM σ F tx e C D ∧ AtM σ tx e i ∧ i ≤ m ∧ C.length ≤ i
/-- what a part of the model's reader leaves -/
def MRes (F : Nat → Nat → Int32) (tx : Nat → Nat) (e : Nat) (C : List Op) (D : Nat) (r : Res) (v : Int32) (σ' : St) : Prop := r.1 = true ∧ v = 1 ∧ AtM σ' tx e r.2.1 ∧ BM σ' F tx e (C ++ r.2.2) D ∨ r.1 = false ∧ v = 0 ∧ AtX σ' tx e r.2.1 ∧ TxM σ' tx e ∧ OpF σ' F
theorem MRes.pre {F : Nat → Nat → Int32} {tx : Nat → Nat} {e D : Nat} {C o : List Op} {r : Res} {v : Int32} {σ' : St} (h : MRes F tx e (C ++ o) D r v σ') : MRes F tx e C D (preR o r) v σ' := by
  rcases h with ⟨a, b, c, d⟩ | h
  · refine Or.inl ⟨a, b, c, ?_⟩
    show BM σ' F tx e (C ++ (o ++ r.2.2)) D
    rw [← List.append_assoc]; exact d
  · exact Or.inr h
def XM (d n : Nat) (F : Nat → Nat → Int32) (tx : Nat → Nat) (e m D : Nat) (A : Nat → Res) (M : MI) (md : Md) : Prop := ∀ (σ : St) (i : Nat) (C : List Op), RdM σ F tx e m i C D → Cn d n M md [.ref 11] σ (liI (MRes F tx e C D (A i)))
theorem takesW_M {d n : Nat} {σ : St} {tx : Nat → Nat} {e i c : Nat} {w : Int64} (hw : lN (wV c) = w) (hn : FIX ≤ n) (hd : 2 ≤ d) (he : e ≤ 400) (hx : ∀ k, tx k < 256) (hc : c < 13) (hT : TxM σ tx e) (ha : AtM σ tx e i) : Cn d n M_X12_takes md_X12_takes [.ref 11, .long w] σ (liI (fun v σ' => KT tx e i = c + 1 ∧ v = 1 ∧ AtM σ' tx e (i + 1) ∨ KT tx e i ≠ c + 1 ∧ v = 0 ∧ AtX σ' tx e i)) := by
  subst hw; exact takes_M hn hd he hx hc hT ha
theorem takesS_M {d n : Nat} {σ : St} {tx : Nat → Nat} {e i s : Nat} {w : Int32} (hw : nI s = w) (hn : FIX ≤ n) (hd : 1 ≤ d) (he : e ≤ 400) (hx : ∀ k, tx k < 256) (hs : isSg s = true) (hT : TxM σ tx e) (ha : AtM σ tx e i) : Cn d n M_X12_takesSign md_X12_takesSign [.ref 11, .int w] σ (liI (fun v σ' => KT tx e i = s ∧ v = 1 ∧ AtM σ' tx e (i + 1) ∨ KT tx e i ≠ s ∧ v = 0 ∧ AtX σ' tx e i)) := by
  subst hw; exact takesSign_M hn hd he hx hs hT ha
theorem putsW_M {d n : Nat} {σ : St} {F : Nat → Nat → Int32} {C : List Op} {a b : Nat} {x y : Int32} (hx : nI a = x) (hy : nI b = y) (hn : FIX ≤ n) (h : PsM σ F C) (hl : C.length < 500) : Cn d n M_X12_puts md_X12_puts [.ref 11, .int x, .int y] σ (liV (fun σ' => PsM σ' F (C ++ [(a, b)]))) := by
  subst hx; subst hy; exact puts_M hn h hl
/-! behind a part: the next sign -/
def tlc (K : Nat → Nat) (sg : Nat → Bool) (A : Nat → Res) (g j : Nat) : Res := if sg (K j) = true then chn K sg A g (j + 1) (K j) else (true, j, [])
theorem em_ne {t : Nat} (h : t ≠ 0) : em t = [(opK t, 0)] := by unfold em; rw [if_neg h]
theorem tlc_go {K : Nat → Nat} {sg : Nat → Bool} {A : Nat → Res} {g j : Nat} (h : sg (K j) = true) (a : (A (j + 1)).1 = true) : tlc K sg A (g + 1) j = preR ((A (j + 1)).2.2 ++ em (K j)) (tlc K sg A g (A (j + 1)).2.1) := by
  unfold tlc
  rw [if_pos h, chn, if_pos a]
  by_cases q : sg (K (A (j + 1)).2.1) = true
  · rw [if_pos q, if_pos q]; rfl
  · rw [if_neg q, if_neg q]
    show _ = (true, _, _ ++ [])
    rw [List.append_nil]
theorem tlc_no {K : Nat → Nat} {sg : Nat → Bool} {A : Nat → Res} {g j : Nat} (h : sg (K j) = true) (a : (A (j + 1)).1 = false) : tlc K sg A (g + 1) j = (false, (A (j + 1)).2.1, []) := by
  unfold tlc
  rw [if_pos h, chn, if_neg (by rw [a]; decide)]
theorem tlc_end {K : Nat → Nat} {sg : Nat → Bool} {A : Nat → Res} {g j : Nat} (h : ¬ sg (K j) = true) : tlc K sg A g j = (true, j, []) := by
  unfold tlc; rw [if_neg h]
theorem chn_go {K : Nat → Nat} {sg : Nat → Bool} {A : Nat → Res} {g i : Nat} (a : (A i).1 = true) : chn K sg A (g + 1) i 0 = preR (A i).2.2 (tlc K sg A g (A i).2.1) := by
  unfold tlc
  rw [chn, if_pos a]
  by_cases q : sg (K (A i).2.1) = true
  · rw [if_pos q, if_pos q]
    show (_, _, _ ++ em 0 ++ _) = _
    rw [show em 0 = [] from rfl, List.append_nil]; rfl
  · rw [if_neg q, if_neg q]
    rfl
theorem chn_no {K : Nat → Nat} {sg : Nat → Bool} {A : Nat → Res} {g i : Nat} (a : (A i).1 = false) : chn K sg A (g + 1) i 0 = (false, (A i).2.1, []) := by
  rw [chn, if_neg (by rw [a]; decide)]
theorem product_M {d n : Nat} {F : Nat → Nat → Int32} {tx : Nat → Nat} {e m D : Nat} {A : Nat → Res} (hn : FIX ≤ n) (hd : 3 ≤ d) (X : TX tx e m) (hA : RG m A) (xa : XM (d - 1) n F tx e m D A M_X12_atom md_X12_atom) : XM d n F tx e m D (prodOf (KT tx e) A) M_X12_product md_X12_product := by
  intro σ i C hR
  obtain ⟨B, At, hi, hl⟩ := hR
  have hm := X.2.2.1
  generalize hQ : MRes F tx e C D (prodOf (KT tx e) A i) = Q
  have loop : ∀ (g j : Nat) (C' : List Op) (σ1 : St), m ≤ g + j → RdM σ1 F tx e m j C' D → (∀ v σ', MRes F tx e C' D (tlc (KT tx e) isT A g j) v σ' → Q v σ') → K_X12_product_9 d n σ Q σ1 := by
    intro g
    induction g with
    | zero =>
      intro j C' σ1 hg hR1 hq
      obtain ⟨B1, At1, hj, hl1⟩ := hR1
      have hjm : j = m := by omega
      have hk : KT tx e j = 258 := by rw [hjm]; exact X.2.2.2.1
      have hs : ¬ isT (KT tx e j) = true := by rw [hk]; decide
      rw [tlc_end hs] at hq
      refine B_X12_product_9 hn (by omega) ⟨_, takesS_M (s := 42) (by decide) hn (by omega) X.1 X.2.1 (by decide) B1.1 At1, ?_⟩
      rintro v2 σ2 (⟨k, -⟩ | ⟨-, rfl, a2⟩) hf2
      · omega
      have B2 := B1.st hf2 (by decide)
      refine ⟨fun _ => ⟨_, takesS_M (s := 47) (by decide) hn (by omega) X.1 X.2.1 (by decide) B2.1 a2.m, ?_⟩, fun z => absurd rfl z⟩
      rintro v3 σ3 (⟨k, -⟩ | ⟨-, rfl, a3⟩) hf3
      · omega
      have B3 := B2.st hf3 (by decide)
      refine ⟨fun _ => ⟨fun z => absurd rfl z, fun _ => hq _ _ (Or.inl ⟨rfl, rfl, a3.m, ?_⟩)⟩, fun z => absurd rfl z⟩
      show BM σ3 F tx e (C' ++ []) D
      rw [List.append_nil]; exact B3
    | succ g ih =>
      intro j C' σ1 hg hR1 hq
      obtain ⟨B1, At1, hj, hl1⟩ := hR1
      have go : ∀ (t : Nat) (c : Int32) (σa : St), KT tx e j = t → isT t = true → nI (opK t) = c → t ≠ 0 → t ≠ 258 → BM σa F tx e C' D → AtM σa tx e (j + 1) → ∃ Q16 : Int32 → St → Prop, Cn (d - 1) n M_X12_atom md_X12_atom [.ref 11] σa (liI Q16) ∧ ∀ (v19 : Int32) (σ18 : St), Q16 v19 σ18 → Fr md_X12_atom σa σ18 → ((v19 ≠ 0 → ∃ Q23 : St → Prop, Cn (d - 1) n M_X12_puts md_X12_puts [.ref 11, .int c, .int 0] σ18 (liV Q23) ∧ ∀ (σ25 : St), Q23 σ25 → Fr md_X12_puts σ18 σ25 → K_X12_product_9 d n σ Q σ25) ∧ (v19 = 0 → Q 0 σ18)) := by
        intro t c σa hk ht hc ht0 hte Ba ata
        have hlt := notEnd X.2.2 hj hk hte
        have hs : isT (KT tx e j) = true := by rw [hk]; exact ht
        obtain ⟨r1, r2, r3⟩ := hA (j + 1) (by omega)
        refine ⟨_, xa σa (j + 1) C' ⟨Ba, ata, by omega, by omega⟩, ?_⟩
        rintro v σb (⟨a, rfl, ab, Bb⟩ | ⟨a, rfl, ab, tb, ob⟩) hfb
        · obtain ⟨r4, r5⟩ := r3 a
          have r6 := encL_len (A (j + 1)).2.2
          have hlen : (C' ++ (A (j + 1)).2.2).length = C'.length + (A (j + 1)).2.2.length := List.length_append
          refine ⟨fun _ => ⟨_, putsW_M (a := opK t) (b := 0) hc (by decide) hn Bb.2.1 (by omega), ?_⟩, fun z => absurd z (by decide)⟩
          rintro σc Pc hfc
          rw [tlc_go hs a] at hq
          refine ih (A (j + 1)).2.1 (C' ++ (A (j + 1)).2.2 ++ [(opK t, 0)]) σc (by omega) ⟨Bb.pu Pc hfc, ab.puts hfc (by decide), r1, ?_⟩ (fun v' σ' hr => hq v' σ' (MRes.pre ?_))
          · rw [List.length_append, hlen]
            show _ + 1 ≤ _
            omega
          · rw [em_ne (by rw [hk]; exact ht0), hk, ← List.append_assoc]; exact hr
        · refine ⟨fun z => absurd rfl z, fun _ => hq _ _ ?_⟩
          rw [tlc_no hs a]
          exact Or.inr ⟨rfl, rfl, ab, tb, ob⟩
      refine B_X12_product_9 hn (by omega) ⟨_, takesS_M (s := 42) (by decide) hn (by omega) X.1 X.2.1 (by decide) B1.1 At1, ?_⟩
      rintro v2 σ2 (⟨k, rfl, a2⟩ | ⟨k, rfl, a2⟩) hf2
      · have B2 := B1.st hf2 (by decide)
        exact ⟨fun z => absurd z (by decide), fun _ => ⟨fun _ => go 42 5 σ2 k (by decide) (by decide) (by decide) (by decide) B2 a2, fun z => absurd z (by decide)⟩⟩
      have B2 := B1.st hf2 (by decide)
      refine ⟨fun _ => ⟨_, takesS_M (s := 47) (by decide) hn (by omega) X.1 X.2.1 (by decide) B2.1 a2.m, ?_⟩, fun z => absurd rfl z⟩
      rintro v3 σ3 (⟨k3, rfl, a3⟩ | ⟨k3, rfl, a3⟩) hf3
      · have B3 := B2.st hf3 (by decide)
        exact ⟨fun z => absurd z (by decide), fun _ => ⟨fun _ => go 47 6 σ3 k3 (by decide) (by decide) (by decide) (by decide) B3 a3, fun z => absurd z (by decide)⟩⟩
      have B3 := B2.st hf3 (by decide)
      have hs : ¬ isT (KT tx e j) = true := fun z => by
        rcases of_decide_eq_true z with w | w
        · first | exact k w | exact k3 w
        · first | exact k w | exact k3 w
      rw [tlc_end hs] at hq
      refine ⟨fun _ => ⟨fun z => absurd rfl z, fun _ => hq _ _ (Or.inl ⟨rfl, rfl, a3.m, ?_⟩)⟩, fun z => absurd rfl z⟩
      show BM σ3 F tx e (C' ++ []) D
      rw [List.append_nil]; exact B3
  refine S_X12_product hn (by omega) ⟨_, xa σ i C ⟨B, At, hi, hl⟩, ?_⟩
  obtain ⟨r1, r2, r3⟩ := hA i hi
  have ed : prodOf (KT tx e) A i = chn (KT tx e) isT A (400 + 1) i 0 := rfl
  rintro v σ1 (⟨a, rfl, a1, B1⟩ | ⟨a, rfl, a1, t1, o1⟩) hf
  · obtain ⟨r4, r5⟩ := r3 a
    have r6 := encL_len (A i).2.2
    refine ⟨fun _ => loop 400 (A i).2.1 (C ++ (A i).2.2) σ1 (by omega) ⟨B1, a1, r1, ?_⟩ (fun v' σ' hr => ?_), fun z => absurd z (by decide)⟩
    · rw [List.length_append]; omega
    · rw [← hQ, ed, chn_go a]
      exact hr.pre
  · refine ⟨fun z => absurd rfl z, fun _ => ?_⟩
    rw [← hQ, ed, chn_no a]
    exact Or.inr ⟨rfl, rfl, a1, t1, o1⟩
theorem ex_M {d n : Nat} {F : Nat → Nat → Int32} {tx : Nat → Nat} {e m D : Nat} {A : Nat → Res} (hn : FIX ≤ n) (hd : 3 ≤ d) (X : TX tx e m) (hA : RG m A) (xa : XM (d - 1) n F tx e m D A M_X12_product md_X12_product) : XM d n F tx e m D (fun i => chn (KT tx e) isP A 402 i 0) M_X12_ex md_X12_ex := by
  intro σ i C hR
  obtain ⟨B, At, hi, hl⟩ := hR
  have hm := X.2.2.1
  generalize hQ : MRes F tx e C D (chn (KT tx e) isP A 402 i 0) = Q
  have loop : ∀ (g j : Nat) (C' : List Op) (σ1 : St), m ≤ g + j → RdM σ1 F tx e m j C' D → (∀ v σ', MRes F tx e C' D (tlc (KT tx e) isP A g j) v σ' → Q v σ') → K_X12_ex_9 d n σ Q σ1 := by
    intro g
    induction g with
    | zero =>
      intro j C' σ1 hg hR1 hq
      obtain ⟨B1, At1, hj, hl1⟩ := hR1
      have hjm : j = m := by omega
      have hk : KT tx e j = 258 := by rw [hjm]; exact X.2.2.2.1
      have hs : ¬ isP (KT tx e j) = true := by rw [hk]; decide
      rw [tlc_end hs] at hq
      refine B_X12_ex_9 hn (by omega) ⟨_, takesS_M (s := 43) (by decide) hn (by omega) X.1 X.2.1 (by decide) B1.1 At1, ?_⟩
      rintro v2 σ2 (⟨k, -⟩ | ⟨-, rfl, a2⟩) hf2
      · omega
      have B2 := B1.st hf2 (by decide)
      refine ⟨fun _ => ⟨_, takesS_M (s := 45) (by decide) hn (by omega) X.1 X.2.1 (by decide) B2.1 a2.m, ?_⟩, fun z => absurd rfl z⟩
      rintro v3 σ3 (⟨k, -⟩ | ⟨-, rfl, a3⟩) hf3
      · omega
      have B3 := B2.st hf3 (by decide)
      refine ⟨fun _ => ⟨fun z => absurd rfl z, fun _ => hq _ _ (Or.inl ⟨rfl, rfl, a3.m, ?_⟩)⟩, fun z => absurd rfl z⟩
      show BM σ3 F tx e (C' ++ []) D
      rw [List.append_nil]; exact B3
    | succ g ih =>
      intro j C' σ1 hg hR1 hq
      obtain ⟨B1, At1, hj, hl1⟩ := hR1
      have go : ∀ (t : Nat) (c : Int32) (σa : St), KT tx e j = t → isP t = true → nI (opK t) = c → t ≠ 0 → t ≠ 258 → BM σa F tx e C' D → AtM σa tx e (j + 1) → ∃ Q16 : Int32 → St → Prop, Cn (d - 1) n M_X12_product md_X12_product [.ref 11] σa (liI Q16) ∧ ∀ (v19 : Int32) (σ18 : St), Q16 v19 σ18 → Fr md_X12_product σa σ18 → ((v19 ≠ 0 → ∃ Q23 : St → Prop, Cn (d - 1) n M_X12_puts md_X12_puts [.ref 11, .int c, .int 0] σ18 (liV Q23) ∧ ∀ (σ25 : St), Q23 σ25 → Fr md_X12_puts σ18 σ25 → K_X12_ex_9 d n σ Q σ25) ∧ (v19 = 0 → Q 0 σ18)) := by
        intro t c σa hk ht hc ht0 hte Ba ata
        have hlt := notEnd X.2.2 hj hk hte
        have hs : isP (KT tx e j) = true := by rw [hk]; exact ht
        obtain ⟨r1, r2, r3⟩ := hA (j + 1) (by omega)
        refine ⟨_, xa σa (j + 1) C' ⟨Ba, ata, by omega, by omega⟩, ?_⟩
        rintro v σb (⟨a, rfl, ab, Bb⟩ | ⟨a, rfl, ab, tb, ob⟩) hfb
        · obtain ⟨r4, r5⟩ := r3 a
          have r6 := encL_len (A (j + 1)).2.2
          have hlen : (C' ++ (A (j + 1)).2.2).length = C'.length + (A (j + 1)).2.2.length := List.length_append
          refine ⟨fun _ => ⟨_, putsW_M (a := opK t) (b := 0) hc (by decide) hn Bb.2.1 (by omega), ?_⟩, fun z => absurd z (by decide)⟩
          rintro σc Pc hfc
          rw [tlc_go hs a] at hq
          refine ih (A (j + 1)).2.1 (C' ++ (A (j + 1)).2.2 ++ [(opK t, 0)]) σc (by omega) ⟨Bb.pu Pc hfc, ab.puts hfc (by decide), r1, ?_⟩ (fun v' σ' hr => hq v' σ' (MRes.pre ?_))
          · rw [List.length_append, hlen]
            show _ + 1 ≤ _
            omega
          · rw [em_ne (by rw [hk]; exact ht0), hk, ← List.append_assoc]; exact hr
        · refine ⟨fun z => absurd rfl z, fun _ => hq _ _ ?_⟩
          rw [tlc_no hs a]
          exact Or.inr ⟨rfl, rfl, ab, tb, ob⟩
      refine B_X12_ex_9 hn (by omega) ⟨_, takesS_M (s := 43) (by decide) hn (by omega) X.1 X.2.1 (by decide) B1.1 At1, ?_⟩
      rintro v2 σ2 (⟨k, rfl, a2⟩ | ⟨k, rfl, a2⟩) hf2
      · have B2 := B1.st hf2 (by decide)
        exact ⟨fun z => absurd z (by decide), fun _ => ⟨fun _ => go 43 3 σ2 k (by decide) (by decide) (by decide) (by decide) B2 a2, fun z => absurd z (by decide)⟩⟩
      have B2 := B1.st hf2 (by decide)
      refine ⟨fun _ => ⟨_, takesS_M (s := 45) (by decide) hn (by omega) X.1 X.2.1 (by decide) B2.1 a2.m, ?_⟩, fun z => absurd rfl z⟩
      rintro v3 σ3 (⟨k3, rfl, a3⟩ | ⟨k3, rfl, a3⟩) hf3
      · have B3 := B2.st hf3 (by decide)
        exact ⟨fun z => absurd z (by decide), fun _ => ⟨fun _ => go 45 4 σ3 k3 (by decide) (by decide) (by decide) (by decide) B3 a3, fun z => absurd z (by decide)⟩⟩
      have B3 := B2.st hf3 (by decide)
      have hs : ¬ isP (KT tx e j) = true := fun z => by
        rcases of_decide_eq_true z with w | w
        · first | exact k w | exact k3 w
        · first | exact k w | exact k3 w
      rw [tlc_end hs] at hq
      refine ⟨fun _ => ⟨fun z => absurd rfl z, fun _ => hq _ _ (Or.inl ⟨rfl, rfl, a3.m, ?_⟩)⟩, fun z => absurd rfl z⟩
      show BM σ3 F tx e (C' ++ []) D
      rw [List.append_nil]; exact B3
  refine S_X12_ex hn (by omega) ⟨_, xa σ i C ⟨B, At, hi, hl⟩, ?_⟩
  obtain ⟨r1, r2, r3⟩ := hA i hi
  have ed : chn (KT tx e) isP A 402 i 0 = chn (KT tx e) isP A (401 + 1) i 0 := rfl
  rintro v σ1 (⟨a, rfl, a1, B1⟩ | ⟨a, rfl, a1, t1, o1⟩) hf
  · obtain ⟨r4, r5⟩ := r3 a
    have r6 := encL_len (A i).2.2
    refine ⟨fun _ => loop 401 (A i).2.1 (C ++ (A i).2.2) σ1 (by omega) ⟨B1, a1, r1, ?_⟩ (fun v' σ' hr => ?_), fun z => absurd z (by decide)⟩
    · rw [List.length_append]; omega
    · rw [← hQ, ed, chn_go a]
      exact hr.pre
  · refine ⟨fun z => absurd rfl z, fun _ => ?_⟩
    rw [← hQ, ed, chn_no a]
    exact Or.inr ⟨rfl, rfl, a1, t1, o1⟩
theorem all_M {d n : Nat} {F : Nat → Nat → Int32} {tx : Nat → Nat} {e m D : Nat} {A : Nat → Res} (hn : FIX ≤ n) (hd : 3 ≤ d) (X : TX tx e m) (hA : RG m A) (xa : XM (d - 1) n F tx e m D A M_X12_single md_X12_single) : XM d n F tx e m D (allOf (KT tx e) A) M_X12_all md_X12_all := by
  intro σ i C hR
  obtain ⟨B, At, hi, hl⟩ := hR
  have hm := X.2.2.1
  generalize hQ : MRes F tx e C D (allOf (KT tx e) A i) = Q
  have loop : ∀ (g j : Nat) (C' : List Op) (σ1 : St), m ≤ g + j → RdM σ1 F tx e m j C' D → (∀ v σ', MRes F tx e C' D (tlc (KT tx e) isA A g j) v σ' → Q v σ') → K_X12_all_9 d n σ Q σ1 := by
    intro g
    induction g with
    | zero =>
      intro j C' σ1 hg hR1 hq
      obtain ⟨B1, At1, hj, hl1⟩ := hR1
      have hjm : j = m := by omega
      have hk : KT tx e j = 258 := by rw [hjm]; exact X.2.2.2.1
      have hs : ¬ isA (KT tx e j) = true := by rw [hk]; decide
      rw [tlc_end hs] at hq
      refine B_X12_all_9 hn (by omega) ⟨_, takesW_M (c := 4) (by decide) hn (by omega) X.1 X.2.1 (by decide) B1.1 At1, ?_⟩
      rintro v2 σ2 (⟨k, -⟩ | ⟨-, rfl, a2⟩) hf2
      · omega
      have B2 := B1.st hf2 (by decide)
      refine ⟨fun _ => hq _ _ (Or.inl ⟨rfl, rfl, a2.m, ?_⟩), fun z => absurd rfl z⟩
      show BM σ2 F tx e (C' ++ []) D
      rw [List.append_nil]; exact B2
    | succ g ih =>
      intro j C' σ1 hg hR1 hq
      obtain ⟨B1, At1, hj, hl1⟩ := hR1
      have go : ∀ (t : Nat) (c : Int32) (σa : St), KT tx e j = t → isA t = true → nI (opK t) = c → t ≠ 0 → t ≠ 258 → BM σa F tx e C' D → AtM σa tx e (j + 1) → ∃ Q16 : Int32 → St → Prop, Cn (d - 1) n M_X12_single md_X12_single [.ref 11] σa (liI Q16) ∧ ∀ (v19 : Int32) (σ18 : St), Q16 v19 σ18 → Fr md_X12_single σa σ18 → ((v19 ≠ 0 → ∃ Q23 : St → Prop, Cn (d - 1) n M_X12_puts md_X12_puts [.ref 11, .int c, .int 0] σ18 (liV Q23) ∧ ∀ (σ25 : St), Q23 σ25 → Fr md_X12_puts σ18 σ25 → K_X12_all_9 d n σ Q σ25) ∧ (v19 = 0 → Q 0 σ18)) := by
        intro t c σa hk ht hc ht0 hte Ba ata
        have hlt := notEnd X.2.2 hj hk hte
        have hs : isA (KT tx e j) = true := by rw [hk]; exact ht
        obtain ⟨r1, r2, r3⟩ := hA (j + 1) (by omega)
        refine ⟨_, xa σa (j + 1) C' ⟨Ba, ata, by omega, by omega⟩, ?_⟩
        rintro v σb (⟨a, rfl, ab, Bb⟩ | ⟨a, rfl, ab, tb, ob⟩) hfb
        · obtain ⟨r4, r5⟩ := r3 a
          have r6 := encL_len (A (j + 1)).2.2
          have hlen : (C' ++ (A (j + 1)).2.2).length = C'.length + (A (j + 1)).2.2.length := List.length_append
          refine ⟨fun _ => ⟨_, putsW_M (a := opK t) (b := 0) hc (by decide) hn Bb.2.1 (by omega), ?_⟩, fun z => absurd z (by decide)⟩
          rintro σc Pc hfc
          rw [tlc_go hs a] at hq
          refine ih (A (j + 1)).2.1 (C' ++ (A (j + 1)).2.2 ++ [(opK t, 0)]) σc (by omega) ⟨Bb.pu Pc hfc, ab.puts hfc (by decide), r1, ?_⟩ (fun v' σ' hr => hq v' σ' (MRes.pre ?_))
          · rw [List.length_append, hlen]
            show _ + 1 ≤ _
            omega
          · rw [em_ne (by rw [hk]; exact ht0), hk, ← List.append_assoc]; exact hr
        · refine ⟨fun z => absurd rfl z, fun _ => hq _ _ ?_⟩
          rw [tlc_no hs a]
          exact Or.inr ⟨rfl, rfl, ab, tb, ob⟩
      refine B_X12_all_9 hn (by omega) ⟨_, takesW_M (c := 4) (by decide) hn (by omega) X.1 X.2.1 (by decide) B1.1 At1, ?_⟩
      rintro v2 σ2 (⟨k, rfl, a2⟩ | ⟨k, rfl, a2⟩) hf2
      · have B2 := B1.st hf2 (by decide)
        exact ⟨fun z => absurd z (by decide), fun _ => go 5 11 σ2 k (by decide) (by decide) (by decide) (by decide) B2 a2⟩
      have B2 := B1.st hf2 (by decide)
      have hs : ¬ isA (KT tx e j) = true := fun z => k (of_decide_eq_true z)
      rw [tlc_end hs] at hq
      refine ⟨fun _ => hq _ _ (Or.inl ⟨rfl, rfl, a2.m, ?_⟩), fun z => absurd rfl z⟩
      show BM σ2 F tx e (C' ++ []) D
      rw [List.append_nil]; exact B2
  refine S_X12_all hn (by omega) ⟨_, xa σ i C ⟨B, At, hi, hl⟩, ?_⟩
  obtain ⟨r1, r2, r3⟩ := hA i hi
  have ed : allOf (KT tx e) A i = chn (KT tx e) isA A (400 + 1) i 0 := rfl
  rintro v σ1 (⟨a, rfl, a1, B1⟩ | ⟨a, rfl, a1, t1, o1⟩) hf
  · obtain ⟨r4, r5⟩ := r3 a
    have r6 := encL_len (A i).2.2
    refine ⟨fun _ => loop 400 (A i).2.1 (C ++ (A i).2.2) σ1 (by omega) ⟨B1, a1, r1, ?_⟩ (fun v' σ' hr => ?_), fun z => absurd z (by decide)⟩
    · rw [List.length_append]; omega
    · rw [← hQ, ed, chn_go a]
      exact hr.pre
  · refine ⟨fun z => absurd rfl z, fun _ => ?_⟩
    rw [← hQ, ed, chn_no a]
    exact Or.inr ⟨rfl, rfl, a1, t1, o1⟩
theorem any_M {d n : Nat} {F : Nat → Nat → Int32} {tx : Nat → Nat} {e m D : Nat} {A : Nat → Res} (hn : FIX ≤ n) (hd : 3 ≤ d) (X : TX tx e m) (hA : RG m A) (xa : XM (d - 1) n F tx e m D A M_X12_all md_X12_all) : XM d n F tx e m D (fun i => chn (KT tx e) isO A 402 i 0) M_X12_any md_X12_any := by
  intro σ i C hR
  obtain ⟨B, At, hi, hl⟩ := hR
  have hm := X.2.2.1
  generalize hQ : MRes F tx e C D (chn (KT tx e) isO A 402 i 0) = Q
  have loop : ∀ (g j : Nat) (C' : List Op) (σ1 : St), m ≤ g + j → RdM σ1 F tx e m j C' D → (∀ v σ', MRes F tx e C' D (tlc (KT tx e) isO A g j) v σ' → Q v σ') → K_X12_any_9 d n σ Q σ1 := by
    intro g
    induction g with
    | zero =>
      intro j C' σ1 hg hR1 hq
      obtain ⟨B1, At1, hj, hl1⟩ := hR1
      have hjm : j = m := by omega
      have hk : KT tx e j = 258 := by rw [hjm]; exact X.2.2.2.1
      have hs : ¬ isO (KT tx e j) = true := by rw [hk]; decide
      rw [tlc_end hs] at hq
      refine B_X12_any_9 hn (by omega) ⟨_, takesW_M (c := 3) (by decide) hn (by omega) X.1 X.2.1 (by decide) B1.1 At1, ?_⟩
      rintro v2 σ2 (⟨k, -⟩ | ⟨-, rfl, a2⟩) hf2
      · omega
      have B2 := B1.st hf2 (by decide)
      refine ⟨fun _ => hq _ _ (Or.inl ⟨rfl, rfl, a2.m, ?_⟩), fun z => absurd rfl z⟩
      show BM σ2 F tx e (C' ++ []) D
      rw [List.append_nil]; exact B2
    | succ g ih =>
      intro j C' σ1 hg hR1 hq
      obtain ⟨B1, At1, hj, hl1⟩ := hR1
      have go : ∀ (t : Nat) (c : Int32) (σa : St), KT tx e j = t → isO t = true → nI (opK t) = c → t ≠ 0 → t ≠ 258 → BM σa F tx e C' D → AtM σa tx e (j + 1) → ∃ Q16 : Int32 → St → Prop, Cn (d - 1) n M_X12_all md_X12_all [.ref 11] σa (liI Q16) ∧ ∀ (v19 : Int32) (σ18 : St), Q16 v19 σ18 → Fr md_X12_all σa σ18 → ((v19 ≠ 0 → ∃ Q23 : St → Prop, Cn (d - 1) n M_X12_puts md_X12_puts [.ref 11, .int c, .int 0] σ18 (liV Q23) ∧ ∀ (σ25 : St), Q23 σ25 → Fr md_X12_puts σ18 σ25 → K_X12_any_9 d n σ Q σ25) ∧ (v19 = 0 → Q 0 σ18)) := by
        intro t c σa hk ht hc ht0 hte Ba ata
        have hlt := notEnd X.2.2 hj hk hte
        have hs : isO (KT tx e j) = true := by rw [hk]; exact ht
        obtain ⟨r1, r2, r3⟩ := hA (j + 1) (by omega)
        refine ⟨_, xa σa (j + 1) C' ⟨Ba, ata, by omega, by omega⟩, ?_⟩
        rintro v σb (⟨a, rfl, ab, Bb⟩ | ⟨a, rfl, ab, tb, ob⟩) hfb
        · obtain ⟨r4, r5⟩ := r3 a
          have r6 := encL_len (A (j + 1)).2.2
          have hlen : (C' ++ (A (j + 1)).2.2).length = C'.length + (A (j + 1)).2.2.length := List.length_append
          refine ⟨fun _ => ⟨_, putsW_M (a := opK t) (b := 0) hc (by decide) hn Bb.2.1 (by omega), ?_⟩, fun z => absurd z (by decide)⟩
          rintro σc Pc hfc
          rw [tlc_go hs a] at hq
          refine ih (A (j + 1)).2.1 (C' ++ (A (j + 1)).2.2 ++ [(opK t, 0)]) σc (by omega) ⟨Bb.pu Pc hfc, ab.puts hfc (by decide), r1, ?_⟩ (fun v' σ' hr => hq v' σ' (MRes.pre ?_))
          · rw [List.length_append, hlen]
            show _ + 1 ≤ _
            omega
          · rw [em_ne (by rw [hk]; exact ht0), hk, ← List.append_assoc]; exact hr
        · refine ⟨fun z => absurd rfl z, fun _ => hq _ _ ?_⟩
          rw [tlc_no hs a]
          exact Or.inr ⟨rfl, rfl, ab, tb, ob⟩
      refine B_X12_any_9 hn (by omega) ⟨_, takesW_M (c := 3) (by decide) hn (by omega) X.1 X.2.1 (by decide) B1.1 At1, ?_⟩
      rintro v2 σ2 (⟨k, rfl, a2⟩ | ⟨k, rfl, a2⟩) hf2
      · have B2 := B1.st hf2 (by decide)
        exact ⟨fun z => absurd z (by decide), fun _ => go 4 10 σ2 k (by decide) (by decide) (by decide) (by decide) B2 a2⟩
      have B2 := B1.st hf2 (by decide)
      have hs : ¬ isO (KT tx e j) = true := fun z => k (of_decide_eq_true z)
      rw [tlc_end hs] at hq
      refine ⟨fun _ => hq _ _ (Or.inl ⟨rfl, rfl, a2.m, ?_⟩), fun z => absurd rfl z⟩
      show BM σ2 F tx e (C' ++ []) D
      rw [List.append_nil]; exact B2
  refine S_X12_any hn (by omega) ⟨_, xa σ i C ⟨B, At, hi, hl⟩, ?_⟩
  obtain ⟨r1, r2, r3⟩ := hA i hi
  have ed : chn (KT tx e) isO A 402 i 0 = chn (KT tx e) isO A (401 + 1) i 0 := rfl
  rintro v σ1 (⟨a, rfl, a1, B1⟩ | ⟨a, rfl, a1, t1, o1⟩) hf
  · obtain ⟨r4, r5⟩ := r3 a
    have r6 := encL_len (A i).2.2
    refine ⟨fun _ => loop 401 (A i).2.1 (C ++ (A i).2.2) σ1 (by omega) ⟨B1, a1, r1, ?_⟩ (fun v' σ' hr => ?_), fun z => absurd z (by decide)⟩
    · rw [List.length_append]; omega
    · rw [← hQ, ed, chn_go a]
      exact hr.pre
  · refine ⟨fun z => absurd rfl z, fun _ => ?_⟩
    rw [← hQ, ed, chn_no a]
    exact Or.inr ⟨rfl, rfl, a1, t1, o1⟩
