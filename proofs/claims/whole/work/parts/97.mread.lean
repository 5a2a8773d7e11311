/-! ===== the model: a text is read ===== -/
def lowR (q j : Nat) : Prop := q = 50 ∧ j < 9 ∨ 51 ≤ q ∧ q ≤ 54 ∧ j < 144 ∨ (q = 55 ∨ q = 56) ∧ j < 4500
/-- a draft: S stands in row 9 -/
def DrM (σ : St) (S : List Stm) : Prop := gI σ 50 9 = nI S.length ∧ gI σ 11 18 = nI (4500 + (flat S).length) ∧ (∀ i s, S[i]? = some s → StA σ (144 + i) (offS S i) s) ∧ ∀ t o, (flat S)[t]? = some o → gI σ 55 (4500 + t) = nI o.1 ∧ gI σ 56 (4500 + t) = nI o.2
def RMo (tx : Nat → Nat) (e : Nat) (S : List Stm) (σ0 : St) (r : RdS) (v : Int32) (σ' : St) : Prop := gI σ' 11 14 = 0 ∧ (∀ q j, lowR q j → gI σ' q j = gI σ0 q j) ∧ (r.1 = true ∧ v = 1 ∧ gI σ' 11 19 = -1 ∧ DrM σ' (S ++ r.2.2) ∨ r.1 = false ∧ v = 0 ∧ gI σ' 11 19 = nI (sT tx e r.2.1))
theorem flat_one (s : Stm) : flat [s] = s.2.1 ++ s.2.2 := by unfold flat; simp
theorem offS_app {S : List Stm} {s : Stm} {i : Nat} (h : i ≤ S.length) : offS (S ++ [s]) i = offS S i := by
  unfold offS; rw [List.take_append_of_le_length h]
theorem offS_len (S : List Stm) : offS S S.length = (flat S).length := by unfold offS; rw [List.take_length]
/-- the world of a reading: the text, the draft so far -/
def LpM (σ0 σ1 : St) (tx : Nat → Nat) (e : Nat) (S : List Stm) : Prop := TxM σ1 tx e ∧ PsM σ1 (gI σ0) (flat S) ∧ gI σ1 11 14 = 0 ∧ gI σ1 50 9 = nI S.length ∧ (∀ j, j < 9 → gI σ1 50 j = gI σ0 50 j) ∧ (∀ q j, 51 ≤ q → q ≤ 54 → j < 144 → gI σ1 q j = gI σ0 q j) ∧ ∀ i s, S[i]? = some s → StA σ1 (144 + i) (offS S i) s
theorem StA.st {σ σ' : St} {k c : Nat} {s : Stm} (h : StA σ k c s) (hf : ∀ q, 51 ≤ q → q ≤ 54 → gI σ' q k = gI σ q k) : StA σ' k c s := by
  obtain ⟨h1, h2, h3, h4⟩ := h
  exact ⟨by rw [hf 51 (by omega) (by omega)]; exact h1, by rw [hf 52 (by omega) (by omega)]; exact h2, by rw [hf 53 (by omega) (by omega)]; exact h3, by rw [hf 54 (by omega) (by omega)]; exact h4⟩
theorem LpM.w {σ0 σ1 σ2 : St} {tx : Nat → Nat} {e : Nat} {S : List Stm} (h : LpM σ0 σ1 tx e S) (h1 : ∀ q k, 50 ≤ q → q ≤ 60 → gI σ2 q k = gI σ1 q k) (h2 : ∀ k, k = 14 ∨ k = 15 ∨ k = 18 → gI σ2 11 k = gI σ1 11 k) : LpM σ0 σ2 tx e S := by
  obtain ⟨a, b, c, d, f, g, i⟩ := h
  exact ⟨a.w (h2 _ (by omega)) (fun k => h1 _ _ (by omega) (by omega)), b.w (h2 _ (by omega)) (fun k => h1 _ _ (by omega) (by omega)) (fun k => h1 _ _ (by omega) (by omega)), by rw [h2 _ (by omega)]; exact c, by rw [h1 _ _ (by omega) (by omega)]; exact d, fun j hj => by rw [h1 _ _ (by omega) (by omega)]; exact f j hj, fun q j x y z => by rw [h1 _ _ (by omega) (by omega)]; exact g q j x y z, fun k s hk => (i k s hk).st (fun q x y => h1 q _ (by omega) (by omega))⟩
theorem LpM.low {σ0 σ1 : St} {tx : Nat → Nat} {e : Nat} {S : List Stm} (h : LpM σ0 σ1 tx e S) : ∀ q j, lowR q j → gI σ1 q j = gI σ0 q j := by
  rintro q j (⟨rfl, z⟩ | ⟨x, y, z⟩ | ⟨x, y⟩)
  · exact h.2.2.2.2.1 j z
  · exact h.2.2.2.2.2.1 q j x y z
  · exact h.2.1.2.2 q j x y
theorem blanks_fr {σ σ' : St} (hf : Fr md_X12_blanks σ σ') : (∀ q k, 50 ≤ q → q ≤ 60 → gI σ' q k = gI σ q k) ∧ ∀ k, k = 14 ∨ k = 15 ∨ k = 18 → gI σ' 11 k = gI σ 11 k := by
  refine ⟨fun q k a b => hf.1 q k (fun z => ?_), fun k a => hf.1 11 k (fun z => ?_)⟩
  · rcases z with z | z | z | z <;> simp at z <;> omega
  · rcases z with z | z | z | z <;> simp at z <;> omega
theorem reads_M {d n : Nat} {σ : St} {tx : Nat → Nat} {e T : Nat} (hn : FIX ≤ n) (hd : 37 ≤ d) (hT : gI σ 11 14 = nI T) (he : e ≤ T) (hT4 : T ≤ 400) (hB : ∀ k, k < e → gI σ 59 k = sb8 (tx k)) (hx : ∀ k, tx k < 256) : Cn d n M_X12_reads md_X12_reads [.ref 11, .int (nI e)] σ (liI (RMo tx e [] σ (rdS (KT tx e) (VT tx e) 16 0))) := by
  obtain ⟨m, hm1, hm2, hm3⟩ := sT_many tx e
  have X : TX tx e m := ⟨by omega, hx, TkE_text (by omega) hm2 hm3⟩
  have e400 : e ≤ 400 := by omega
  refine S_X12_reads hn (by omega) ?_
  generalize hQ : RMo tx e [] σ (rdS (KT tx e) (VT tx e) 16 0) = Q
  -- over, at a fault
  have failed : ∀ (σ1 : St) (i : Nat) (S : List Stm) (r : RdS), LpM σ σ1 tx e S → AtX σ1 tx e i → r.1 = false → r.2.1 = i → (∀ v σ', RMo tx e S σ r v σ' → Q v σ') → Q 0 (sI σ1 11 19 (gI σ1 11 16)) := by
    intro σ1 i S r L a r1 r2 k
    refine k _ _ ⟨by rw [gI_sI_ne (by omega)]; exact L.2.2.1, fun q j hq => ?_, Or.inr ⟨r1, rfl, ?_⟩⟩
    · rw [gI_sI_ne (by unfold lowR at hq; omega)]; exact L.low q j hq
    · rw [gI_sI_same, r2]; exact a
  have good : ∀ (σ1 : St) (i : Nat) (S : List Stm), LpM σ σ1 tx e S → (∀ v σ', RMo tx e S σ (true, i, []) v σ' → Q v σ') → Q 1 (sI σ1 11 19 (-1)) := by
    intro σ1 i S L k
    refine k _ _ ⟨by rw [gI_sI_ne (by omega)]; exact L.2.2.1, fun q j hq => ?_, Or.inl ⟨rfl, rfl, gI_sI_same _ _ _ _, ?_⟩⟩
    · rw [gI_sI_ne (by unfold lowR at hq; omega)]; exact L.low q j hq
    · show DrM _ (S ++ [])
      rw [List.append_nil]
      have L2 : LpM σ (sI σ1 11 19 (-1)) tx e S := L.w (fun q k a b => gI_sI_ne (by omega)) (fun k hk => gI_sI_ne (by omega))
      exact ⟨L2.2.2.2.1, L2.2.1.1, L2.2.2.2.2.2.2, L2.2.1.2.1⟩
  have zero : ∀ (σ1 : St), Q 0 (sI σ1 11 19 (gI σ1 11 16)) → K_X12_reads_61 d n σ Q σ1 0 := fun σ1 h => by
    refine B_X12_reads_61 hn (by omega) ⟨fun _ => ⟨fun _ => ⟨Or.inl rfl, h⟩, fun z => absurd rfl z⟩, fun z => absurd rfl z⟩
  have ekE : ∀ i, KT tx e i = 258 ↔ e ≤ sT tx e i := fun i => by
    constructor
    · intro h
      rcases Nat.lt_or_ge (sT tx e i) e with z | z
      · have : kT tx e (sT tx e i) ≤ 257 := kT_in (tx := tx) z
        have h2 : kT tx e (sT tx e i) = 258 := h
        omega
      · exact z
    · intro h; exact kT_out (by omega)
  have key : ∀ (g i : Nat) (S : List Stm) (σ1 : St), g + S.length = 16 → LpM σ σ1 tx e S → AtX σ1 tx e i → i ≤ m → (flat S).length ≤ i → (∀ v σ', RMo tx e S σ (rdS (KT tx e) (VT tx e) g i) v σ' → Q v σ') → K_X12_reads_61 d n σ Q σ1 1 := by
    intro g
    induction g with
    | zero =>
      intro i S σ1 hg L a hi hl k
      have hsi := sT_le tx e i
      refine B_X12_reads_61 hn (by omega) ⟨fun z => absurd z (by decide), fun _ => ?_⟩
      have a' : gI σ1 11 16 = nI (sT tx e i) := a
      rw [L.1.1, L.2.2.2.1]
      refine ⟨fun h => ⟨fun z => absurd z (by decide), fun _ => ⟨Or.inr rfl, ?_⟩⟩, fun h => ⟨fun _ => ⟨fun z => absurd rfl z, fun _ => zero σ1 ?_⟩, fun z => absurd ((nI_leI (a := 16) (by decide) (by omega)).mpr (by omega)) z⟩⟩
      · rw [a'] at h
        have h2 := (nI_leI (by omega) (by omega)).mp h
        refine good σ1 i S L (fun v σ' hv => k v σ' ?_)
        have : rdS (KT tx e) (VT tx e) 0 i = (true, i, []) := by
          show (decide (KT tx e i = 258), i, []) = _
          rw [decide_eq_true ((ekE i).mpr h2)]
        rw [this]; exact hv
      · rw [a'] at h
        have h2 : ¬ e ≤ sT tx e i := fun z => h ((nI_leI (by omega) (by omega)).mpr z)
        refine failed σ1 i S _ L a ?_ rfl k
        show decide (KT tx e i = 258) = false
        exact decide_eq_false (fun z => h2 ((ekE i).mp z))
    | succ g ih =>
      intro i S σ1 hg L a hi hl k
      have hsi := sT_le tx e i
      have a' : gI σ1 11 16 = nI (sT tx e i) := a
      refine B_X12_reads_61 hn (by omega) ⟨fun z => absurd z (by decide), fun _ => ?_⟩
      rw [L.1.1, L.2.2.2.1]
      refine ⟨fun h => ⟨fun z => absurd z (by decide), fun _ => ⟨Or.inr rfl, ?_⟩⟩, fun h => ⟨fun z => absurd ((nI_leI (a := 16) (by decide) (by omega)).mp z) (by omega), fun _ => ?_⟩⟩
      · rw [a'] at h
        have h2 := (nI_leI (by omega) (by omega)).mp h
        refine good σ1 i S L (fun v σ' hv => k v σ' ?_)
        have : rdS (KT tx e) (VT tx e) (g + 1) i = (true, i, []) := by
          rw [rdS, if_pos ((ekE i).mpr h2)]
        rw [this]; exact hv
      · rw [a'] at h
        have h2 : ¬ e ≤ sT tx e i := fun z => h ((nI_leI (by omega) (by omega)).mpr z)
        have hne : ¬ KT tx e i = 258 := fun z => h2 ((ekE i).mp z)
        rw [show (144 : Int32) + nI S.length = nI (144 + S.length) from nI_add (a := 144) (b := S.length)]
        obtain ⟨s1, s2, s3⟩ := st_rg (K := KT tx e) (V := VT tx e) X.2.2 hi
        refine ⟨_, statement_M (k := 144 + S.length) hn (by omega) X (by omega) L.1 a.m L.2.1 hi hl, ?_⟩
        rintro v σ2 ⟨ks, t2, h3⟩ hf2
        have f50 : ∀ j, gI σ2 50 j = gI σ1 50 j := fun j => hf2.row (by decide) j
        have f14 : gI σ2 11 14 = gI σ1 11 14 := hf2.cell (by decide)
        have Lw : ∀ q j, 51 ≤ q → q ≤ 54 → j < 144 → gI σ2 q j = gI σ q j := fun q j x y z => by rw [ks q j x y (by omega)]; exact L.2.2.2.2.2.1 q j x y z
        rcases h3 with ⟨b, rfl, ab, pb, sb⟩ | ⟨b, rfl, ab, ob⟩
        · obtain ⟨s4, s5, s6⟩ := s3 b
          generalize hs : stS (KT tx e) (VT tx e) i = r at *
          have er : rdS (KT tx e) (VT tx e) (g + 1) i = ((rdS (KT tx e) (VT tx e) g r.2.1).1, (rdS (KT tx e) (VT tx e) g r.2.1).2.1, r.2.2 :: (rdS (KT tx e) (VT tx e) g r.2.1).2.2) := by
            rw [rdS, if_neg hne, hs, if_pos b]
          refine ⟨fun z => absurd z (by decide), fun _ => ⟨fun _ => ?_, fun z => absurd z (by decide)⟩⟩
          have e50 : gI σ2 50 9 + 1 = nI (S.length + 1) := by rw [f50, L.2.2.2.1, nI_1]
          rw [e50]
          have L2 : LpM σ (sI σ2 50 9 (nI (S.length + 1))) tx e (S ++ [r.2.2]) := by
            refine ⟨t2.w (gI_sI_ne (by omega)) (fun k => gI_sI_ne (by omega)), ?_, ?_, ?_, fun j hj => ?_, fun q j x y z => ?_, fun j s hj => ?_⟩
            · rw [flat_app, flat_one]
              exact pb.w (gI_sI_ne (by omega)) (fun k => gI_sI_ne (by omega)) (fun k => gI_sI_ne (by omega))
            · rw [gI_sI_ne (by omega), f14]; exact L.2.2.1
            · rw [gI_sI_same, List.length_append]; rfl
            · rw [gI_sI_ne (by omega), f50]; exact L.2.2.2.2.1 j hj
            · rw [gI_sI_ne (by omega)]; exact Lw q j x y z
            · have hj2 : j ≤ S.length := by
                have := (List.getElem?_eq_some_iff.mp hj).1
                rw [List.length_append] at this
                have e1 : [r.2.2].length = 1 := rfl
                omega
              rw [offS_app hj2]
              by_cases ej : j = S.length
              · subst ej
                rw [List.getElem?_append_right (Nat.le_refl _), Nat.sub_self] at hj
                simp at hj
                rw [← hj, offS_len]
                exact sb.st (fun q x y => gI_sI_ne (by omega))
              · have hlt : j < S.length := by omega
                rw [List.getElem?_append_left hlt] at hj
                exact (L.2.2.2.2.2.2 j s hj).st (fun q x y => by rw [gI_sI_ne (by omega)]; exact ks q _ x y (by omega))
          have hfl : (flat (S ++ [r.2.2])).length ≤ r.2.1 := by
            rw [flat_app, flat_one, List.length_append, List.length_append]
            have l1 := encL_len r.2.2.2.1
            have l2 := encL_len r.2.2.2.2
            have l3 : (encS r.2.2).length = (encL r.2.2.2.1).length + ((if r.2.2.2.2 = [] then [(1 : Int)] else encL r.2.2.2.2).length + 1) := by
              unfold encS; rw [List.length_append, List.length_append]; rfl
            have l4 : (encL r.2.2.2.2).length ≤ (if r.2.2.2.2 = [] then [(1 : Int)] else encL r.2.2.2.2).length := by
              split
              · next z => rw [z]; exact Nat.zero_le _
              · exact Nat.le_refl _
            omega
          refine ⟨_, blanks_M (i := r.2.1) hn X.1 X.2.1 L2.1 (ab.wr (by omega)), ?_⟩
          rintro σ3 a3 hf3
          obtain ⟨w1, w2⟩ := blanks_fr hf3
          refine ih r.2.1 (S ++ [r.2.2]) σ3 (by rw [List.length_append]; show g + (_ + 1) = 16; omega) (L2.w w1 w2) a3 s1 hfl (fun v' σ' hv => k v' σ' ?_)
          obtain ⟨v1, v2, v3⟩ := hv
          refine ⟨v1, v2, ?_⟩
          rw [er]
          rcases v3 with ⟨x1, x2, x3, x4⟩ | ⟨x1, x2, x3⟩
          · refine Or.inl ⟨x1, x2, x3, ?_⟩
            show DrM σ' (S ++ (r.2.2 :: (rdS (KT tx e) (VT tx e) g r.2.1).2.2))
            rw [List.append_cons]; exact x4
          · exact Or.inr ⟨x1, x2, x3⟩
        · have er : rdS (KT tx e) (VT tx e) (g + 1) i = (false, (stS (KT tx e) (VT tx e) i).2.1, []) := by
            rw [rdS, if_neg hne, if_neg (by rw [b]; decide)]
          refine ⟨fun _ => ⟨fun z => absurd rfl z, fun _ => zero σ2 ?_⟩, fun z => absurd rfl z⟩
          refine k _ _ ⟨by rw [gI_sI_ne (by omega), f14]; exact L.2.2.1, fun q j hq => ?_, Or.inr ⟨by rw [er], rfl, ?_⟩⟩
          · rw [gI_sI_ne (by unfold lowR at hq; omega)]
            rcases hq with ⟨rfl, z⟩ | ⟨x, y, z⟩ | ⟨x, y⟩
            · rw [f50]; exact L.2.2.2.2.1 j z
            · exact Lw q j x y z
            · exact ob q j x y
          · rw [gI_sI_same, er]; exact ab
  -- the text is taken from the tape
  have copy : ∀ y, y ≤ e → ∀ σ1 : St, (∀ q k, q ≠ 60 → gI σ1 q k = gI σ q k) → (∀ k, k < y → gI σ1 60 k = sb8 (tx k)) → K_X12_reads_2 d n σ Q σ1 (nI e) (nI y) := by
    refine up_ind (P := fun y => ∀ σ1 : St, (∀ q k, q ≠ 60 → gI σ1 q k = gI σ q k) → (∀ k, k < y → gI σ1 60 k = sb8 (tx k)) → K_X12_reads_2 d n σ Q σ1 (nI e) (nI y)) (fun σ1 f1 h1 => ?_) (fun y hy ih σ1 f1 h1 => ?_)
    · refine B_X12_reads_2 hn (by omega) ⟨fun _ => ?_, fun z => absurd ((nI_leI (by omega) (by omega)).mpr (Nat.le_refl _)) z⟩
      generalize hτ : sI (sI (sI (sI (sI σ1 11 15 (nI e)) 11 14 0) 11 16 0) 11 18 4500) 50 9 0 = τ
      have g1 : ∀ q k, q ≠ 11 → q ≠ 60 → ¬ (q = 50 ∧ k = 9) → gI τ q k = gI σ q k := fun q k x y z => by
        rw [← hτ, gI_sI_ne (by omega), gI_sI_ne (by omega), gI_sI_ne (by omega), gI_sI_ne (by omega), gI_sI_ne (by omega)]; exact f1 q k y
      have L : LpM σ τ tx e [] := by
        refine ⟨⟨?_, fun k hk => ?_⟩, ⟨?_, fun k o hk => (by cases hk), fun q k hq hk => g1 q k (by omega) (by omega) (by omega)⟩, ?_, ?_, fun j hj => g1 _ _ (by omega) (by omega) (by omega), fun q j x y z => g1 _ _ (by omega) (by omega) (by omega), fun j s hj => by cases hj⟩
        · rw [← hτ, gI_sI_ne (by omega), gI_sI_ne (by omega), gI_sI_ne (by omega), gI_sI_ne (by omega), gI_sI_same]
        · rw [← hτ, gI_sI_ne (by omega), gI_sI_ne (by omega), gI_sI_ne (by omega), gI_sI_ne (by omega), gI_sI_ne (by omega)]; exact h1 k hk
        · rw [← hτ, gI_sI_ne (by omega), gI_sI_same]; rfl
        · rw [← hτ, gI_sI_ne (by omega), gI_sI_ne (by omega), gI_sI_ne (by omega), gI_sI_same]
        · rw [← hτ, gI_sI_same]; rfl
      have a0 : AtM τ tx e 0 := ⟨0, Nat.zero_le _, by rw [← hτ, gI_sI_ne (by omega), gI_sI_ne (by omega), gI_sI_same]; rfl, rfl⟩
      refine ⟨_, blanks_M (i := 0) hn X.1 X.2.1 L.1 a0, ?_⟩
      rintro σ3 a3 hf3
      obtain ⟨w1, w2⟩ := blanks_fr hf3
      exact key 16 0 [] σ3 rfl (L.w w1 w2) a3 (Nat.zero_le _) (Nat.le_refl _) (fun v σ' hv => by rw [← hQ]; exact hv)
    · refine B_X12_reads_2 hn (by omega) ⟨fun z => absurd ((nI_leI (by omega) (by omega)).mp z) (by omega), fun _ => ?_⟩
      have hv : vp_in (nI y) 400 := vp_in_nI (by omega) (by decide)
      rw [nI_clamp (by omega), nI_1, f1 59 y (by omega), hB y hy]
      refine ⟨hv, hv, ih _ (fun q k hq => by rw [gI_sI_ne (by omega)]; exact f1 q k hq) (fun k hk => ?_)⟩
      rw [gI_sI]
      by_cases ey : k = y
      · rw [if_pos ⟨rfl, ey⟩, ey]; unfold sb8; rw [nar8]
      · rw [if_neg (fun z => ey z.2)]; exact h1 k (by omega)
  exact copy 0 (Nat.zero_le _) σ (fun _ _ _ => rfl) (fun k hk => absurd hk (Nat.not_lt_zero _))
