/-! ===== the model: atoms, single conditions, levels ===== -/
theorem opens_M {d n : Nat} {σ : St} {D : Nat} (hn : FIX ≤ n) (hD : D ≤ 9) (h : gI σ 11 17 = nI D) : Cn d n M_X12_opens md_X12_opens [.ref 11] σ (liI (fun v σ' => D < 9 ∧ v = 1 ∧ σ' = sI σ 11 17 (nI (D + 1)) ∨ D = 9 ∧ v = 0 ∧ σ' = σ)) := by
  refine S_X12_opens hn ?_
  rw [h, nI_1]
  have e9 : nI D = 9 ↔ D = 9 := nI_eq (b := 9) (by omega) (by decide)
  exact ⟨fun z => Or.inl ⟨by have : ¬ D = 9 := fun w => z (e9.mpr w); omega, rfl, rfl⟩, fun z => Or.inr ⟨e9.mp z, rfl, rfl⟩⟩
theorem cmp_wV {tx : Nat → Nat} {e p c : Nat} (hx : ∀ k, tx k < 256) (hp : p ≤ e) (hc : c < 13) : lg_cmp (lN (wordU tx e p)) (lN (wV c)) = 0 ↔ kT tx e p = c + 1 := by
  have hv := wV_pos hc
  have hw := wordU_lt (e := e) (p := p) hx
  rw [cmp_z, lN_tI (by omega), lN_tI (by omega), ← wordU_kT hp hc]; omega
theorem asked_kT {tx : Nat → Nat} {e p : Nat} (hx : ∀ k, tx k < 256) (hp : p ≤ e) : fn_X12_asked (lN (wordU tx e p)) = if 8 ≤ kT tx e p ∧ kT tx e p ≤ 13 then nI (kT tx e p - 8) else -1 := by
  have h7 : lg_cmp (lN (wordU tx e p)) 427071729268 = 0 ↔ kT tx e p = 8 := cmp_wV (c := 7) hx hp (by decide)
  have h8 : lg_cmp (lN (wordU tx e p)) 448546566771 = 0 ↔ kT tx e p = 9 := cmp_wV (c := 8) hx hp (by decide)
  have h9 : lg_cmp (lN (wordU tx e p)) 439855772532 = 0 ↔ kT tx e p = 10 := cmp_wV (c := 9) hx hp (by decide)
  have h10 : lg_cmp (lN (wordU tx e p)) 1818325876 = 0 ↔ kT tx e p = 11 := cmp_wV (c := 10) hx hp (by decide)
  have h11 : lg_cmp (lN (wordU tx e p)) 1734439027 = 0 ↔ kT tx e p = 12 := cmp_wV (c := 11) hx hp (by decide)
  have h12 : lg_cmp (lN (wordU tx e p)) 483006772069 = 0 ↔ kT tx e p = 13 := cmp_wV (c := 12) hx hp (by decide)
  unfold fn_X12_asked
  simp only [h7, h8, h9, h10, h11, h12]
  generalize kT tx e p = k
  by_cases h : 8 ≤ k ∧ k ≤ 13
  · rcases (by omega : k = 8 ∨ k = 9 ∨ k = 10 ∨ k = 11 ∨ k = 12 ∨ k = 13) with z | z | z | z | z | z <;> subst z <;> decide
  · rw [if_neg h, if_neg (by omega), if_neg (by omega), if_neg (by omega), if_neg (by omega), if_neg (by omega), if_neg (by omega)]
theorem AtX.sg {σ : St} {tx : Nat → Nat} {e i s : Nat} (hs : isSg s = true) (h : KT tx e i = s) (ha : gI σ 11 16 = nI (sT tx e i + 1)) : AtM σ tx e (i + 1) := by
  obtain ⟨h1, h2⟩ := (kT_sign hs).mp h
  have hs' := isSg_iff.mp hs
  refine AtM.nx h1 ?_
  rw [ha]
  unfold tokE
  rw [h2, if_neg (fun z => by have := isL_iff.mp z; omega), if_neg (fun z => by have := isD_iff.mp z; omega)]
theorem AtX.wd {σ : St} {tx : Nat → Nat} {e i c : Nat} (hc : c < 13) (h : KT tx e i = c + 1) (ha : gI σ 11 16 = nI (rE isL tx e (sT tx e i))) : AtM σ tx e (i + 1) := by
  obtain ⟨k1, k2⟩ := kT_wd hc h
  refine AtM.nx k1 ?_
  rw [ha]
  unfold tokE
  rw [if_pos k2]
theorem atom_M {d n : Nat} {F : Nat → Nat → Int32} {tx : Nat → Nat} {e m D : Nat} {E : Option (Nat → Res)} (hn : FIX ≤ n) (hd : 3 ≤ d) (X : TX tx e m) (hD : D ≤ 9) (hE0 : E = none ↔ D = 9) (hE : ∀ f, E = some f → RG m f ∧ XM (d - 1) n F tx e m (D + 1) f M_X12_ex md_X12_ex) : XM d n F tx e m D (atom0 (KT tx e) (VT tx e) E) M_X12_atom md_X12_atom := by
  intro σ i C hR
  obtain ⟨B, At, hi, hl⟩ := hR
  have hm := X.2.2.1
  have hsp := sT_le tx e i
  have he := X.1
  generalize hQ : MRes F tx e C D (atom0 (KT tx e) (VT tx e) E i) = Q
  have bad : ∀ (j : Nat) (σ1 : St), atom0 (KT tx e) (VT tx e) E i = (false, j, []) → AtX σ1 tx e j → TxM σ1 tx e → OpF σ1 F → Q 0 σ1 := fun j σ1 ev a t o => by
    rw [← hQ, ev]; exact Or.inr ⟨rfl, rfl, a, t, o⟩
  refine S_X12_atom hn (by omega) ⟨_, takesNumber_M (h := 99999) hn (by omega) X.1 X.2.1 (by decide) B.1 At, ?_⟩
  rintro v1 σ1 (⟨⟨k, -⟩, rfl, c1, a1⟩ | ⟨k, rfl, a1⟩) hf1
  · have B1 := B.st hf1 (by decide)
    refine ⟨fun z => absurd z (by decide), fun _ => ?_⟩
    rw [c1]
    refine ⟨_, putsW_M (a := 0) (b := VT tx e i) (by decide) rfl hn B1.2.1 (by omega), ?_⟩
    rintro σ2 P2 hf2
    rw [← hQ]
    have ev : atom0 (KT tx e) (VT tx e) E i = (true, i + 1, [(0, VT tx e i)]) := by unfold atom0; rw [if_pos k]
    rw [ev]
    exact Or.inl ⟨rfl, rfl, a1.puts hf2 (by decide), B1.pu P2 hf2⟩
  have B1 := B.st hf1 (by decide)
  have k256 : KT tx e i ≠ 256 := fun z => k ⟨z, vT_le _ _ _⟩
  refine ⟨fun _ => ⟨_, blanks_M hn X.1 X.2.1 B1.1 a1.m, ?_⟩, fun z => absurd rfl z⟩
  rintro σ2 a2 hf2
  have B2 := B1.st hf2 (by decide)
  have ek : KT tx e i = 40 ↔ sT tx e i < e ∧ tx (sT tx e i) = 40 := kT_sign (by decide)
  have words : KT tx e i ≠ 40 → ∃ Q15 : Int32 → St → Prop, Cn (d - 1) n M_X12_takes md_X12_takes [.ref 11, .long 6840691] σ2 (liI Q15) ∧ ∀ (v18 : Int32) (σ17 : St), Q15 v18 σ17 → Fr md_X12_takes σ2 σ17 → ((v18 = 0 → ∃ Q22 : Int64 → St → Prop, Cn (d - 1) n M_X12_word md_X12_word [.ref 11] σ17 (liL Q22) ∧ ∀ (v25 : Int64) (σ24 : St), Q22 v25 σ24 → Fr md_X12_word σ17 σ24 → (((fn_X12_asked v25) ≠ (-1) → ∃ Q29 : St → Prop, Cn (d - 1) n M_X12_puts md_X12_puts [.ref 11, .int 1, .int (fn_X12_asked v25)] (sI σ24 11 16 (gI σ24 11 33)) (liV Q29) ∧ ∀ (σ31 : St), Q29 σ31 → Fr md_X12_puts (sI σ24 11 16 (gI σ24 11 33)) σ31 → Q 1 σ31) ∧ ((fn_X12_asked v25) = (-1) → Q 0 σ24))) ∧ (¬ v18 = 0 → ∃ Q35 : Int32 → St → Prop, Cn (d - 1) n M_X12_takesNumber md_X12_takesNumber [.ref 11, .int 9] σ17 (liI Q35) ∧ ∀ (v38 : Int32) (σ37 : St), Q35 v38 σ37 → Fr md_X12_takesNumber σ17 σ37 → ((v38 ≠ 0 → ∃ Q42 : St → Prop, Cn (d - 1) n M_X12_puts md_X12_puts [.ref 11, .int 2, .int (gI σ37 11 34)] σ37 (liV Q42) ∧ ∀ (σ44 : St), Q42 σ44 → Fr md_X12_puts σ37 σ44 → Q 1 σ44) ∧ (v38 = 0 → Q 0 σ37)))) := by
    intro k40
    refine ⟨_, takesW_M (c := 6) (by decide) hn (by omega) X.1 X.2.1 (by decide) B2.1 a2.m, ?_⟩
    rintro v3 σ3 (⟨k3, rfl, a3⟩ | ⟨k3, rfl, a3⟩) hf3
    · have B3 := B2.st hf3 (by decide)
      have k7 : KT tx e i = 7 := k3
      have hlt := notEnd X.2.2 hi k7 (by decide)
      have ev : atom0 (KT tx e) (VT tx e) E i = if KT tx e (i + 1) = 256 ∧ VT tx e (i + 1) < 10 then (true, i + 2, [(2, VT tx e (i + 1))]) else (false, i + 1, []) := by
        unfold atom0; rw [if_neg k256, if_neg (by omega), if_pos k7]
      refine ⟨fun z => absurd z (by decide), fun _ => ⟨_, takesNumber_M (h := 9) hn (by omega) X.1 X.2.1 (by decide) B3.1 a3, ?_⟩⟩
      rintro v4 σ4 (⟨⟨k4, kv⟩, rfl, c4, a4⟩ | ⟨k4, rfl, a4⟩) hf4
      · have B4 := B3.st hf4 (by decide)
        refine ⟨fun _ => ?_, fun z => absurd z (by decide)⟩
        rw [c4]
        refine ⟨_, putsW_M (a := 2) (b := VT tx e (i + 1)) (by decide) rfl hn B4.2.1 (by omega), ?_⟩
        rintro σ5 P5 hf5
        rw [← hQ, ev, if_pos ⟨k4, by omega⟩]
        exact Or.inl ⟨rfl, rfl, a4.puts hf5 (by decide), B4.pu P5 hf5⟩
      · have B4 := B3.st hf4 (by decide)
        refine ⟨fun z => absurd rfl z, fun _ => bad (i + 1) σ4 ?_ a4 B4.1 B4.2.1.2.2⟩
        rw [ev, if_neg (fun z => k4 ⟨z.1, by have := z.2; omega⟩)]
    · have B3 := B2.st hf3 (by decide)
      have k7 : KT tx e i ≠ 7 := k3
      refine ⟨fun _ => ⟨_, word_M hn (by omega) X.1 X.2.1 B3.1 a3.m, ?_⟩, fun z => absurd rfl z⟩
      rintro v4 σ4 ⟨rfl, a4, c4⟩ hf4
      have B4 := B3.st hf4 (by decide)
      rw [asked_kT X.2.1 hsp]
      by_cases g : 8 ≤ kT tx e (sT tx e i) ∧ kT tx e (sT tx e i) ≤ 13
      · rw [if_pos g]
        have g' : 8 ≤ KT tx e i ∧ KT tx e i ≤ 13 := g
        have gk : KT tx e i = (KT tx e i - 1) + 1 := by omega
        refine ⟨fun _ => ?_, fun z => ?_⟩
        · refine ⟨_, putsW_M (a := 1) (b := KT tx e i - 8) (by decide) rfl hn (B4.at).2.1 (by omega), ?_⟩
          rintro σ5 P5 hf5
          have ev : atom0 (KT tx e) (VT tx e) E i = (true, i + 1, [(1, KT tx e i - 8)]) := by unfold atom0; rw [if_neg k256, if_pos g]
          rw [← hQ, ev]
          have a5 : AtM (sI σ4 11 16 (gI σ4 11 33)) tx e (i + 1) := AtX.wd (c := KT tx e i - 1) (by omega) gk (by rw [gI_sI_same]; exact c4)
          exact Or.inl ⟨rfl, rfl, a5.puts hf5 (by decide), (B4.at).pu P5 hf5⟩
        · exfalso
          have := congrArg Int32.toInt z
          rw [nI_toInt (by omega), show (-1 : Int32).toInt = -1 by decide] at this
          omega
      · rw [if_neg g]
        refine ⟨fun z => absurd rfl z, fun _ => bad i σ4 ?_ a4 B4.1 B4.2.1.2.2⟩
        unfold atom0
        rw [if_neg k256, if_neg g, if_neg k7, if_neg k40]
  have a2' : gI σ2 11 16 = nI (sT tx e i) := a2
  rw [B2.1.1, a2']
  refine ⟨fun h => words (fun z => ?_), fun h => ?_⟩
  · have := (nI_leI (by omega) (by omega)).mp h
    have := (ek.mp z).1
    omega
  · have hlt : sT tx e i < e := by
      have : ¬ e ≤ sT tx e i := fun w => h ((nI_leI (by omega) (by omega)).mpr w)
      omega
    rw [nI_clamp (by omega), B2.1.2 _ hlt]
    have eb : sb8 (tx (sT tx e i)) = 40 ↔ tx (sT tx e i) = 40 := sb8_is (s := 40) (X.2.1 _) (by decide)
    refine ⟨vp_in_nI (by omega) (by decide), fun g => words (fun z => g (eb.mpr (ek.mp z).2)), fun g => ?_⟩
    have k40 : KT tx e i = 40 := ek.mpr ⟨hlt, eb.mp g⟩
    have hlt2 := notEnd X.2.2 hi k40 (by decide)
    refine ⟨_, opens_M hn hD B2.2.2, ?_⟩
    rintro v3 σ3 (⟨hD9, rfl, rfl⟩ | ⟨hD9, rfl, rfl⟩) hf3
    · refine ⟨fun _ => ?_, fun z => absurd z (by decide)⟩
      cases hEe : E with
      | none => exact absurd (hE0.mp hEe) (by omega)
      | some f =>
        obtain ⟨rg, xc⟩ := hE f hEe
        have ev : atom0 (KT tx e) (VT tx e) E i = clsd (KT tx e) 41 (f (i + 1)) := by
          rw [hEe]; unfold atom0; rw [if_neg k256, if_neg (by omega), if_neg (by omega), if_pos k40]
        have r1 := rg (i + 1) (by omega)
        have e16 : gI (sI σ2 11 17 (nI (D + 1))) 11 16 + 1 = nI (sT tx e i + 1) := by rw [gI_sI_ne (by omega), a2', nI_1]
        rw [e16]
        have B3 : BM (sI (sI σ2 11 17 (nI (D + 1))) 11 16 (nI (sT tx e i + 1))) F tx e C (D + 1) := (B2.dp).at
        have a3 : AtM (sI (sI σ2 11 17 (nI (D + 1))) 11 16 (nI (sT tx e i + 1))) tx e (i + 1) := AtX.sg (s := 40) (by decide) k40 (gI_sI_same _ _ _ _)
        refine ⟨_, xc _ (i + 1) C ⟨B3, a3, by omega, by omega⟩, ?_⟩
        rintro v4 σ4 (⟨a, rfl, a4, B4⟩ | ⟨a, rfl, a4, t4, o4⟩) hf4
        · refine ⟨fun z => absurd z (by decide), fun _ => ⟨_, takesS_M (s := 41) (by decide) hn (by omega) X.1 X.2.1 (by decide) B4.1 a4, ?_⟩⟩
          rintro v5 σ5 (⟨k5, rfl, a5⟩ | ⟨k5, rfl, a5⟩) hf5
          · have B5 := B4.st hf5 (by decide)
            refine ⟨fun _ => ?_, fun z => absurd z (by decide)⟩
            rw [B5.2.2, show nI (D + 1) - 1 = nI D from nI_sub (a := D + 1) (b := 1) (by omega)]
            have ec : clsd (KT tx e) 41 (f (i + 1)) = (true, (f (i + 1)).2.1 + 1, (f (i + 1)).2.2) := by unfold clsd; rw [if_pos a, if_pos k5]
            rw [← hQ, ev, ec]
            exact Or.inl ⟨rfl, rfl, a5.dp, B5.dp⟩
          · have B5 := B4.st hf5 (by decide)
            refine ⟨fun z => absurd rfl z, fun _ => bad _ _ ?_ a5 B5.1 B5.2.1.2.2⟩
            rw [ev]; unfold clsd; rw [if_pos a, if_neg k5]
        · refine ⟨fun _ => bad _ _ ?_ a4 t4 o4, fun z => absurd rfl z⟩
          rw [ev]; unfold clsd; rw [if_neg (by rw [a]; decide)]
    · refine ⟨fun z => absurd rfl z, fun _ => bad i _ ?_ a2 B2.1 B2.2.1.2.2⟩
      rw [hE0.mpr hD9]; unfold atom0; rw [if_neg k256, if_neg (by omega), if_neg (by omega), if_pos k40]
