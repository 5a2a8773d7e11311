/-! ===== the component: what bars by the lessons; what the asker looks at ===== -/
def bar4 (w : Wd) (j b : Nat) : Nat :=
  if b / 2 ^ w.N ≠ 0 then 1 else if w.mo < popc b then 2 else if clashB w b = true then 3 else if lackB w j b = true then 4 else 0
theorem bar_bar4 (w : Wd) (r j b : Nat) : bar w r j b = if bar4 w j b ≠ 0 then bar4 w j b else if nev w r j b = true then 5 else 0 := by
  unfold bar bar4
  by_cases h1 : b / 2 ^ w.N ≠ 0
  · simp [h1]
  · simp only [h1, if_false]
    by_cases h2 : w.mo < popc b
    · simp [h2]
    · simp only [h2, if_false]
      by_cases h3 : clashB w b = true
      · simp [h3]
      · simp only [h3]
        by_cases h4 : lackB w j b = true
        · simp [h4]
        · simp [h4]
theorem and_z {a b : Nat} : a &&& b = 0 ↔ ∀ i, ¬ (a.testBit i = true ∧ b.testBit i = true) := by
  constructor
  · intro h i hi
    have : (a &&& b).testBit i = true := by rw [Nat.testBit_and, hi.1, hi.2]; rfl
    rw [h] at this; simp at this
  · intro h
    apply Nat.eq_of_testBit_eq
    intro i
    rw [Nat.testBit_and, Nat.zero_testBit]
    have := h i
    cases ha : a.testBit i <;> cases hb : b.testBit i <;> simp_all
theorem clr_z {a m : Nat} : clr a m = 0 ↔ ∀ i, ¬ (a.testBit i = true ∧ m.testBit i = false) := by
  constructor
  · intro h i hi
    have : (clr a m).testBit i = true := by rw [clr_tb, hi.1, hi.2]; rfl
    rw [h] at this; simp at this
  · intro h
    apply Nat.eq_of_testBit_eq
    intro i
    rw [clr_tb, Nat.zero_testBit]
    have := h i
    cases ha : a.testBit i <;> cases hb : m.testBit i <;> simp_all
theorem clash_at {w : Wd} {b l : Nat} (hl : l < w.N) (hb : b.testBit l = true) (h : ¬ clm w l &&& b = 0) : clashB w b = true := by
  have : ∃ i, (clm w l).testBit i = true ∧ b.testBit i = true := by
    apply Classical.byContradiction
    intro hx
    exact h (and_z.mpr (fun i hi => hx ⟨i, hi⟩))
  obtain ⟨o, h1, h2⟩ := this
  rw [clm, mkm_tb] at h1
  simp at h1
  obtain ⟨ho, hne, f1, f2⟩ := h1
  rcases Nat.lt_or_ge l o with z | z
  · exact clashB_iff.mpr ⟨l, o, z, ho, hb, h2, f1, f2⟩
  · exact clashB_iff.mpr ⟨o, l, by omega, hl, h2, hb, f2, f1⟩
theorem clash_no {w : Wd} {b : Nat} (h : ∀ l, l < w.N → b.testBit l = true → clm w l &&& b = 0) : clashB w b = false := by
  rcases Bool.eq_false_or_eq_true (clashB w b) with e | e
  · obtain ⟨l, o, h1, h2, h3, h4, h5, h6⟩ := clashB_iff.mp e
    have := and_z.mp (h l (by omega) h3) o
    exact absurd ⟨by rw [clm, mkm_tb]; simp; exact ⟨h2, by omega, h5, h6⟩, h4⟩ this
  · exact e
theorem erm_tb {w : Wd} {l o : Nat} : (erm w l).testBit o = true ↔ o < w.N ∧ ∃ k, k < w.A ∧ w.a1 k = l ∧ w.a2 k = o := by
  rw [erm, mkm_tb]
  simp [List.any_eq_true]
theorem lack_at {w : Wd} (hw : WW w) {j b l : Nat} (hb : b.testBit l = true) (h : ¬ clr (erm w l) (b ||| w.dn j) = 0) : lackB w j b = true := by
  have : ∃ i, (erm w l).testBit i = true ∧ (b ||| w.dn j).testBit i = false := by
    apply Classical.byContradiction
    intro hx
    exact h (clr_z.mpr (fun i hi => hx ⟨i, hi⟩))
  obtain ⟨o, h1, h2⟩ := this
  obtain ⟨-, k, hk, e1, e2⟩ := erm_tb.mp h1
  rw [tb_or] at h2
  simp at h2
  subst e1; subst e2
  exact lackB_iff.mpr ⟨k, hk, hb, h2.1, h2.2⟩
theorem lack_no {w : Wd} (hw : WW w) {j b : Nat} (h : ∀ l, l < w.N → b.testBit l = true → clr (erm w l) (b ||| w.dn j) = 0) : lackB w j b = false := by
  rcases Bool.eq_false_or_eq_true (lackB w j b) with e | e
  · obtain ⟨k, hk, h1, h2, h3⟩ := lackB_iff.mp e
    have ha := hw.af k hk
    have := clr_z.mp (h (w.a1 k) ha.1 h1) (w.a2 k)
    exact absurd ⟨erm_tb.mpr ⟨ha.2, k, hk, rfl, rfl⟩, by rw [tb_or, h2, h3]; rfl⟩ this
  · exact e
theorem barOf_spec {d n : Nat} {σ : St} {w : Wd} {j b : Nat} (hn : FIX ≤ n) (hd : 1 ≤ d) (hR : RP σ w) (hw : WW w) (hb : b < 1024) :
    Cn d n M_X6_barOf md_X6_barOf [.ref 1, .int (nI b), .int (nI (w.dn j))] σ (liI (fun v σ' => v = nI (bar4 w j b) ∧ σ = σ')) := by
  have hN := hw.N
  have hdn := hw.dn j
  have hdl : b / 2 ^ w.N ≤ b := Nat.div_le_self _ _
  refine S_X6_barOf hn hd ⟨fun h1 => ?_, fun h1 => ?_⟩
  · rw [hR.N, shrN (by omega) (by omega)] at h1
    have h1' : b / 2 ^ w.N = 0 := (nI_eq (b := 0) (by omega) (by decide)).mp h1
    have hpc : popc b ≤ 10 := popU_le b 10
    have hmo := hw.mo
    rw [bitc hb, hR.mo]
    refine ⟨fun h2 => ?_, fun h2 => ?_⟩
    · have h2' : ¬ w.mo < popc b := by have := (nI_leI (by omega) (by omega)).mp h2; omega
      have loop : ∀ l, l ≤ w.N → ∀ x : Int32, (∀ l', l' < l → b.testBit l' = true → clm w l' &&& b = 0) → ((x = 0 ∧ ∀ l', l' < l → b.testBit l' = true → clr (erm w l') (b ||| w.dn j) = 0) ∨ (x = 1 ∧ lackB w j b = true)) → K_X6_barOf_29 d n σ (fun v σ' => v = nI (bar4 w j b) ∧ σ = σ') σ (nI b) (nI (w.dn j)) x (nI l) := by
        refine up_ind (N := w.N) ?_ ?_
        · intro x hc hx
          have hcl := clash_no hc
          refine B_X6_barOf_29 hn hd ⟨fun _ => ⟨fun h0 => ⟨?_, rfl⟩, fun h0 => ⟨?_, rfl⟩⟩, fun h => absurd (by rw [hR.N]; exact nI_le (Nat.le_refl _) (by omega)) h⟩
          · rcases hx with ⟨-, z⟩ | ⟨z, -⟩
            · simp [bar4, h1', h2', hcl, lack_no hw z]; rfl
            · rw [z] at h0; exact absurd h0 (by decide)
          · rcases hx with ⟨z, -⟩ | ⟨-, z⟩
            · exact absurd z h0
            · simp [bar4, h1', h2', hcl, z]; rfl
        · intro l hl ih x hc hx
          obtain ⟨m1, m2⟩ := hR.msk l hl
          have hv : vp_in (nI l) 10 := vp_in_nI (by omega) (by decide)
          refine B_X6_barOf_29 hn hd ⟨fun h => absurd (by rw [hR.N] at h; exact h) (nI_ge hl (by omega)), fun _ => ⟨fun z => ?_, fun z => ⟨hv, ?_⟩⟩⟩
          · have ht := (cont_z (by omega) (by omega)).mp z
            rw [nI_1]
            refine ih x (fun l' h1 h2 => ?_) ?_
            · rcases Nat.lt_or_ge l' l with q | q
              · exact hc l' q h2
              · rw [show l' = l by omega] at h2; exact absurd h2 ht
            · rcases hx with ⟨a, q⟩ | q
              · refine Or.inl ⟨a, fun l' h1 h2 => ?_⟩
                rcases Nat.lt_or_ge l' l with q2 | q2
                · exact q l' q2 h2
                · rw [show l' = l by omega] at h2; exact absurd h2 ht
              · exact Or.inr q
          · have ht := cont_nz (by omega) (by omega) z
            have hcl : clm w l < 2 ^ w.N := mkm_lt _ _
            have hel : erm w l < 2 ^ w.N := mkm_lt _ _
            have hpw := pow10 hN
            rw [nI_clamp (by omega), m1, m2, nI_and, nI_or, nI_clr]
            have hal : clm w l &&& b ≤ clm w l := Nat.and_le_left
            have hcr := clr_le (erm w l) (b ||| w.dn j)
            refine ⟨fun z2 => ⟨hv, fun z3 => ?_, fun z3 => ?_⟩, fun z2 => ⟨?_, rfl⟩⟩
            · have q2 := (nI_eq (b := 0) (by omega) (by decide)).mp z2
              have q3 := (nI_eq (b := 0) (by omega) (by decide)).mp z3
              rw [nI_1]
              refine ih x (fun l' h1 h2 => ?_) ?_
              · rcases Nat.lt_or_ge l' l with q | q
                · exact hc l' q h2
                · rw [show l' = l by omega]; exact q2
              · rcases hx with ⟨a, q⟩ | q
                · refine Or.inl ⟨a, fun l' h1 h2 => ?_⟩
                  rcases Nat.lt_or_ge l' l with q4 | q4
                  · exact q l' q4 h2
                  · rw [show l' = l by omega]; exact q3
                · exact Or.inr q
            · have q2 := (nI_eq (b := 0) (by omega) (by decide)).mp z2
              have q3 : ¬ clr (erm w l) (b ||| w.dn j) = 0 := fun e => z3 (by rw [e]; rfl)
              rw [nI_1]
              refine ih 1 (fun l' h1 h2 => ?_) (Or.inr ⟨rfl, lack_at hw ht q3⟩)
              rcases Nat.lt_or_ge l' l with q | q
              · exact hc l' q h2
              · rw [show l' = l by omega]; exact q2
            · have q2 : ¬ clm w l &&& b = 0 := fun e => z2 (by rw [e]; rfl)
              simp [bar4, h1', h2', clash_at hl ht q2]; rfl
      exact loop 0 (Nat.zero_le _) 0 (fun l' h => absurd h (by omega)) (Or.inl ⟨rfl, fun l' h => absurd h (by omega)⟩)
    · have h2' : w.mo < popc b := by
        rcases Nat.lt_or_ge w.mo (popc b) with z | z
        · exact z
        · exact absurd (nI_le z (by omega)) h2
      refine ⟨?_, rfl⟩
      simp [bar4, h1', h2']; rfl
  · have h1' : b / 2 ^ w.N ≠ 0 := by
      intro z
      apply h1
      rw [hR.N, shrN (by omega) (by omega), z]; rfl
    refine ⟨?_, rfl⟩
    simp [bar4, h1']; rfl
theorem hrsU_z {w : Wd} (hw : WW w) {b : Nat} : ∀ {l : Nat}, l ≤ w.N → hrsU w b l = 0 → fstU w b l = 40
  | 0, _, _ => rfl
  | l + 1, hl, h => by
    have := hw.ft l (by omega)
    simp only [hrsU] at h
    by_cases ht : b.testBit l = true
    · rw [if_pos ht] at h; omega
    · simp only [fstU, if_neg ht]; rw [if_neg ht] at h; exact hrsU_z hw (by omega) (by omega)
/-- what the asker has looked at -/
def Lk (σ : St) (w : Wd) (b : Nat) : Prop := gI σ 2 6 = nI b ∧ gI σ 2 8 = nI (hrs w b) ∧ gI σ 2 9 = nI (fst0 w b) ∧ gI σ 2 10 = nI (lst w b)
theorem lookAt_spec {d n : Nat} {σ : St} {w : Wd} {b : Nat} (hn : FIX ≤ n) (hd : 1 ≤ d) (hR : RP σ w) (hw : WW w) (hb : b < 1024) :
    Cn d n M_X0_lookAt md_X0_lookAt [.ref 2, .int (nI b)] σ (liV (fun σ' => Lk σ' w b)) := by
  have hN := hw.N
  refine S_X0_lookAt hn hd ?_
  have loop : ∀ l, l ≤ w.N → ∀ σ1 : St, RP σ1 w → gI σ1 2 6 = nI b → gI σ1 2 8 = nI (hrsU w b l) → gI σ1 2 9 = nI (if hrsU w b l = 0 then 0 else fstU w b l) → gI σ1 2 10 = nI (lstU w b l) → K_X0_lookAt_22 d n σ (fun σ' => Lk σ' w b) σ1 (nI b) (nI l) := by
    refine up_ind (N := w.N) ?_ ?_
    · intro σ1 h1 h2 h3 h4 h5
      exact B_X0_lookAt_22 hn hd ⟨fun _ => ⟨h2, h3, h4, h5⟩, fun h => absurd (by rw [h1.N]; exact nI_le (Nat.le_refl _) (by omega)) h⟩
    · intro l hl ih σ1 h1 h2 h3 h4 h5
      have hft := hw.ft l hl
      have r1 := hrsU_le hw b l (by omega)
      have r2 := fstU_le w b l
      have r3 := lstU_le hw b l (by omega)
      have hv : vp_in (nI l) 10 := vp_in_nI (by omega) (by decide)
      obtain ⟨-, l2, l3⟩ := h1.les l (by omega)
      refine B_X0_lookAt_22 hn hd ⟨fun h => absurd (by rw [h1.N] at h; exact h) (nI_ge hl (by omega)), fun _ => ⟨fun z => ?_, fun z => ⟨fun z2 => ⟨hv, hv, hv, hv, ?_⟩, fun z2 => ⟨hv, fun z3 => ⟨hv, hv, hv, ?_⟩, fun z3 => ⟨hv, hv, hv, hv, ?_⟩⟩⟩⟩⟩
      · have ht := (cont_z (by omega) (by omega)).mp z
        rw [nI_1]
        have := ih σ1 h1 h2
        simp only [hrsU, fstU, lstU, if_neg ht, Nat.add_zero] at this
        exact this h3 h4 h5
      · have ht := cont_nz (by omega) (by omega) z
        have hz : hrsU w b l = 0 := by rw [h3] at z2; exact (nI_eq (b := 0) (by omega) (by decide)).mp z2
        have hf40 := hrsU_z hw (by omega) hz
        rw [nI_clamp (by omega), nI_1]
        have := ih (sI (sI (sI σ1 2 9 (gI σ1 13 l)) 2 10 (mxI (gI (sI σ1 2 9 (gI σ1 13 l)) 2 10) (gI (sI σ1 2 9 (gI σ1 13 l)) 14 l))) 2 8 (gI (sI (sI σ1 2 9 (gI σ1 13 l)) 2 10 (mxI (gI (sI σ1 2 9 (gI σ1 13 l)) 2 10) (gI (sI σ1 2 9 (gI σ1 13 l)) 14 l))) 2 8 + (gI (sI (sI σ1 2 9 (gI σ1 13 l)) 2 10 (mxI (gI (sI σ1 2 9 (gI σ1 13 l)) 2 10) (gI (sI σ1 2 9 (gI σ1 13 l)) 14 l))) 14 l - gI (sI (sI σ1 2 9 (gI σ1 13 l)) 2 10 (mxI (gI (sI σ1 2 9 (gI σ1 13 l)) 2 10) (gI (sI σ1 2 9 (gI σ1 13 l)) 14 l))) 13 l)))
        simp only [gI_sI, show ¬ ((13 : Nat) = 2) by decide, show ¬ ((14 : Nat) = 2) by decide, show ¬ ((6 : Nat) = 8) by decide, show ¬ ((6 : Nat) = 9) by decide, show ¬ ((6 : Nat) = 10) by decide, show ¬ ((8 : Nat) = 9) by decide, show ¬ ((8 : Nat) = 10) by decide, show ¬ ((9 : Nat) = 8) by decide, show ¬ ((9 : Nat) = 10) by decide, show ¬ ((10 : Nat) = 8) by decide, show ¬ ((10 : Nat) = 9) by decide, false_and, and_false, and_self, if_true, if_false, l2, l3, h3, h5] at this ⊢
        refine this ?_ h2 ?_ ?_ ?_
        · exact h1.fr (fun k hk => by simp only [gI_sI]; simp) (fun q k a b => by rw [gI_sI_ne (by omega), gI_sI_ne (by omega), gI_sI_ne (by omega)])
        · rw [pk_sub (by omega), nI_add]; simp only [hrsU, if_pos ht]
        · simp only [hrsU, fstU, if_pos ht, hz, hf40]
          rw [if_neg (by omega), show min 40 (w.fr l) = w.fr l by omega]
        · rw [mxI_nI (by omega) (by omega)]; simp only [lstU, if_pos ht]
      · have ht := cont_nz (by omega) (by omega) z
        have hz : ¬ hrsU w b l = 0 := fun e => z2 (by rw [h3, e]; rfl)
        rw [if_neg hz] at h4
        rw [nI_clamp (by omega), h4, l2] at z3
        have z3' := (nI_leI (by omega) (by omega)).mp z3
        rw [nI_clamp (by omega), nI_1]
        have := ih (sI (sI σ1 2 10 (mxI (gI σ1 2 10) (gI σ1 14 l))) 2 8 (gI (sI σ1 2 10 (mxI (gI σ1 2 10) (gI σ1 14 l))) 2 8 + (gI (sI σ1 2 10 (mxI (gI σ1 2 10) (gI σ1 14 l))) 14 l - gI (sI σ1 2 10 (mxI (gI σ1 2 10) (gI σ1 14 l))) 13 l)))
        simp only [gI_sI, show ¬ ((13 : Nat) = 2) by decide, show ¬ ((14 : Nat) = 2) by decide, show ¬ ((6 : Nat) = 8) by decide, show ¬ ((6 : Nat) = 9) by decide, show ¬ ((6 : Nat) = 10) by decide, show ¬ ((8 : Nat) = 9) by decide, show ¬ ((8 : Nat) = 10) by decide, show ¬ ((9 : Nat) = 8) by decide, show ¬ ((9 : Nat) = 10) by decide, show ¬ ((10 : Nat) = 8) by decide, show ¬ ((10 : Nat) = 9) by decide, false_and, and_false, and_self, if_true, if_false, l2, l3, h3, h5, h4] at this ⊢
        refine this ?_ h2 ?_ ?_ ?_
        · exact h1.fr (fun k hk => by simp only [gI_sI]; simp) (fun q k a b => by rw [gI_sI_ne (by omega), gI_sI_ne (by omega)])
        · rw [pk_sub (by omega), nI_add]; simp only [hrsU, if_pos ht]
        · simp only [hrsU, fstU, if_pos ht]
          rw [if_neg (by omega), show min (fstU w b l) (w.fr l) = fstU w b l by omega]
        · rw [mxI_nI (by omega) (by omega)]; simp only [lstU, if_pos ht]
      · have ht := cont_nz (by omega) (by omega) z
        have hz : ¬ hrsU w b l = 0 := fun e => z2 (by rw [h3, e]; rfl)
        rw [if_neg hz] at h4
        have z3' : w.fr l < fstU w b l := by
          rcases Nat.lt_or_ge (w.fr l) (fstU w b l) with q | q
          · exact q
          · exact absurd (by rw [nI_clamp (by omega), h4, l2]; exact nI_le q (by omega)) z3
        rw [nI_clamp (by omega), nI_1]
        have := ih (sI (sI (sI σ1 2 9 (gI σ1 13 l)) 2 10 (mxI (gI (sI σ1 2 9 (gI σ1 13 l)) 2 10) (gI (sI σ1 2 9 (gI σ1 13 l)) 14 l))) 2 8 (gI (sI (sI σ1 2 9 (gI σ1 13 l)) 2 10 (mxI (gI (sI σ1 2 9 (gI σ1 13 l)) 2 10) (gI (sI σ1 2 9 (gI σ1 13 l)) 14 l))) 2 8 + (gI (sI (sI σ1 2 9 (gI σ1 13 l)) 2 10 (mxI (gI (sI σ1 2 9 (gI σ1 13 l)) 2 10) (gI (sI σ1 2 9 (gI σ1 13 l)) 14 l))) 14 l - gI (sI (sI σ1 2 9 (gI σ1 13 l)) 2 10 (mxI (gI (sI σ1 2 9 (gI σ1 13 l)) 2 10) (gI (sI σ1 2 9 (gI σ1 13 l)) 14 l))) 13 l)))
        simp only [gI_sI, show ¬ ((13 : Nat) = 2) by decide, show ¬ ((14 : Nat) = 2) by decide, show ¬ ((6 : Nat) = 8) by decide, show ¬ ((6 : Nat) = 9) by decide, show ¬ ((6 : Nat) = 10) by decide, show ¬ ((8 : Nat) = 9) by decide, show ¬ ((8 : Nat) = 10) by decide, show ¬ ((9 : Nat) = 8) by decide, show ¬ ((9 : Nat) = 10) by decide, show ¬ ((10 : Nat) = 8) by decide, show ¬ ((10 : Nat) = 9) by decide, false_and, and_false, and_self, if_true, if_false, l2, l3, h3, h5] at this ⊢
        refine this ?_ h2 ?_ ?_ ?_
        · exact h1.fr (fun k hk => by simp only [gI_sI]; simp) (fun q k a b => by rw [gI_sI_ne (by omega), gI_sI_ne (by omega), gI_sI_ne (by omega)])
        · rw [pk_sub (by omega), nI_add]; simp only [hrsU, if_pos ht]
        · simp only [hrsU, fstU, if_pos ht]
          rw [if_neg (by omega), show min (fstU w b l) (w.fr l) = w.fr l by omega]
        · rw [mxI_nI (by omega) (by omega)]; simp only [lstU, if_pos ht]
  refine loop 0 (Nat.zero_le _) _ (hR.fr (fun k hk => by simp only [gI_sI]; simp) (fun q k a b => by rw [gI_sI_ne (by omega), gI_sI_ne (by omega), gI_sI_ne (by omega), gI_sI_ne (by omega)])) ?_ ?_ ?_ ?_
  · rw [gI_sI_ne (by omega), gI_sI_ne (by omega), gI_sI_ne (by omega), gI_sI_same]
  · rw [gI_sI_ne (by omega), gI_sI_ne (by omega), gI_sI_same]; rfl
  · rw [gI_sI_ne (by omega), gI_sI_same]; rfl
  · rw [gI_sI_same]; rfl
