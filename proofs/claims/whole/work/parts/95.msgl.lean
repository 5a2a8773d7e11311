/-! ===== the model: single conditions, levels ===== -/
theorem single_M {d n : Nat} {F : Nat → Nat → Int32} {tx : Nat → Nat} {e m D : Nat} {E : Nat → Res} {S : Option (Nat → Res)} (hn : FIX ≤ n) (hd : 3 ≤ d) (X : TX tx e m) (hD : D ≤ 9) (hS0 : S = none ↔ D = 9) (rgE : RG m E) (xE : XM (d - 1) n F tx e m D E M_X12_ex md_X12_ex) (hS : ∀ f, S = some f → RG m f ∧ XM (d - 1) n F tx e m (D + 1) f M_X12_single md_X12_single ∧ XM (d - 1) n F tx e m (D + 1) (anyOf (KT tx e) f) M_X12_any md_X12_any) : XM d n F tx e m D (sgl0 (KT tx e) E S) M_X12_single md_X12_single := by
  intro σ i C hR
  obtain ⟨B, At, hi, hl⟩ := hR
  have hm := X.2.2.1
  have hsp := sT_le tx e i
  have he := X.1
  generalize hQ : MRes F tx e C D (sgl0 (KT tx e) E S i) = Q
  have bad : ∀ (j : Nat) (σ1 : St), sgl0 (KT tx e) E S i = (false, j, []) → AtX σ1 tx e j → TxM σ1 tx e → OpF σ1 F → Q 0 σ1 := fun j σ1 ev a t o => by
    rw [← hQ, ev]; exact Or.inr ⟨rfl, rfl, a, t, o⟩
  refine S_X12_single hn (by omega) ⟨_, word_M hn (by omega) X.1 X.2.1 B.1 At, ?_⟩
  rintro v1 σ1 ⟨rfl, a1, c1⟩ hf1
  have B1 := B.st hf1 (by decide)
  have ew : lg_cmp (lN (wordU tx e (sT tx e i))) 7237492 = 0 ↔ KT tx e i = 6 := cmp_wV (c := 5) X.2.1 hsp (by decide)
  have a1' : gI σ1 11 16 = nI (sT tx e i) := a1
  have ek : KT tx e i = 91 ↔ sT tx e i < e ∧ tx (sT tx e i) = 91 := kT_sign (by decide)
  refine ⟨fun hw => ?_, fun hw => ?_⟩
  · have k6 : KT tx e i ≠ 6 := fun z => hw (ew.mpr z)
    have cmp : KT tx e i ≠ 91 → ∃ Q9 : Int32 → St → Prop, Cn (d - 1) n M_X12_ex md_X12_ex [.ref 11] σ1 (liI Q9) ∧ ∀ (v12 : Int32) (σ11 : St), Q9 v12 σ11 → Fr md_X12_ex σ1 σ11 → ((v12 ≠ 0 → ∃ Q16 : Int32 → St → Prop, Cn (d - 1) n M_X12_takesSign md_X12_takesSign [.ref 11, .int 60] σ11 (liI Q16) ∧ ∀ (v19 : Int32) (σ18 : St), Q16 v19 σ18 → Fr md_X12_takesSign σ11 σ18 → ((v19 = 0 → ∃ Q23 : Int32 → St → Prop, Cn (d - 1) n M_X12_takesSign md_X12_takesSign [.ref 11, .int 62] σ18 (liI Q23) ∧ ∀ (v26 : Int32) (σ25 : St), Q23 v26 σ25 → Fr md_X12_takesSign σ18 σ25 → ((v26 = 0 → ∃ Q30 : Int32 → St → Prop, Cn (d - 1) n M_X12_takesSign md_X12_takesSign [.ref 11, .int 61] σ25 (liI Q30) ∧ ∀ (v33 : Int32) (σ32 : St), Q30 v33 σ32 → Fr md_X12_takesSign σ25 σ32 → ((v33 = 0 → ((((-1) : Int32) = (-1) → Q 0 σ32) ∧ (¬ ((-1) : Int32) = (-1) → ∃ Q38 : Int32 → St → Prop, Cn (d - 1) n M_X12_ex md_X12_ex [.ref 11] σ32 (liI Q38) ∧ ∀ (v41 : Int32) (σ40 : St), Q38 v41 σ40 → Fr md_X12_ex σ32 σ40 → ((v41 ≠ 0 → ∃ Q45 : St → Prop, Cn (d - 1) n M_X12_puts md_X12_puts [.ref 11, .int (-1), .int 0] σ40 (liV Q45) ∧ ∀ (σ47 : St), Q45 σ47 → Fr md_X12_puts σ40 σ47 → Q 1 σ47) ∧ (v41 = 0 → Q 0 σ40))))) ∧ (¬ v33 = 0 → (((9 : Int32) = (-1) → Q 0 σ32) ∧ (¬ (9 : Int32) = (-1) → ∃ Q52 : Int32 → St → Prop, Cn (d - 1) n M_X12_ex md_X12_ex [.ref 11] σ32 (liI Q52) ∧ ∀ (v55 : Int32) (σ54 : St), Q52 v55 σ54 → Fr md_X12_ex σ32 σ54 → ((v55 ≠ 0 → ∃ Q59 : St → Prop, Cn (d - 1) n M_X12_puts md_X12_puts [.ref 11, .int 9, .int 0] σ54 (liV Q59) ∧ ∀ (σ61 : St), Q59 σ61 → Fr md_X12_puts σ54 σ61 → Q 1 σ61) ∧ (v55 = 0 → Q 0 σ54))))))) ∧ (¬ v26 = 0 → (((8 : Int32) = (-1) → Q 0 σ25) ∧ (¬ (8 : Int32) = (-1) → ∃ Q66 : Int32 → St → Prop, Cn (d - 1) n M_X12_ex md_X12_ex [.ref 11] σ25 (liI Q66) ∧ ∀ (v69 : Int32) (σ68 : St), Q66 v69 σ68 → Fr md_X12_ex σ25 σ68 → ((v69 ≠ 0 → ∃ Q73 : St → Prop, Cn (d - 1) n M_X12_puts md_X12_puts [.ref 11, .int 8, .int 0] σ68 (liV Q73) ∧ ∀ (σ75 : St), Q73 σ75 → Fr md_X12_puts σ68 σ75 → Q 1 σ75) ∧ (v69 = 0 → Q 0 σ68))))))) ∧ (¬ v19 = 0 → (((7 : Int32) = (-1) → Q 0 σ18) ∧ (¬ (7 : Int32) = (-1) → ∃ Q80 : Int32 → St → Prop, Cn (d - 1) n M_X12_ex md_X12_ex [.ref 11] σ18 (liI Q80) ∧ ∀ (v83 : Int32) (σ82 : St), Q80 v83 σ82 → Fr md_X12_ex σ18 σ82 → ((v83 ≠ 0 → ∃ Q87 : St → Prop, Cn (d - 1) n M_X12_puts md_X12_puts [.ref 11, .int 7, .int 0] σ82 (liV Q87) ∧ ∀ (σ89 : St), Q87 σ89 → Fr md_X12_puts σ82 σ89 → Q 1 σ89) ∧ (v83 = 0 → Q 0 σ82))))))) ∧ (v12 = 0 → Q 0 σ11)) := by
      intro k91
      have ev : sgl0 (KT tx e) E S i = if (E i).1 = true then (if KT tx e (E i).2.1 = 60 ∨ KT tx e (E i).2.1 = 62 ∨ KT tx e (E i).2.1 = 61 then (if (E ((E i).2.1 + 1)).1 = true then (true, (E ((E i).2.1 + 1)).2.1, (E i).2.2 ++ (E ((E i).2.1 + 1)).2.2 ++ [(opK (KT tx e (E i).2.1), 0)]) else (false, (E ((E i).2.1 + 1)).2.1, [])) else (false, (E i).2.1, [])) else (false, (E i).2.1, []) := by
        unfold sgl0; rw [if_neg k6, if_neg k91]
      obtain ⟨r1, r2, r3⟩ := rgE i hi
      refine ⟨_, xE σ1 i C ⟨B1, a1.m, hi, hl⟩, ?_⟩
      rintro v2 σ2 (⟨a, rfl, a2, B2⟩ | ⟨a, rfl, a2, t2, o2⟩) hf2
      · obtain ⟨r4, r5⟩ := r3 a
        have r6 := encL_len (E i).2.2
        rw [if_pos a] at ev
        generalize hj : (E i).2.1 = j at r1 r2 r4 r5 a2 ev
        generalize hops : (E i).2.2 = ops at r5 r6 B2 ev
        have lenP : (C ++ ops).length = C.length + ops.length := List.length_append
        refine ⟨fun _ => ?_, fun z => absurd z (by decide)⟩
        have go : ∀ (t : Nat) (c : Int32) (σa : St), KT tx e j = t → (t = 60 ∨ t = 62 ∨ t = 61) → nI (opK t) = c → BM σa F tx e (C ++ ops) D → AtM σa tx e (j + 1) → ∃ Q52 : Int32 → St → Prop, Cn (d - 1) n M_X12_ex md_X12_ex [.ref 11] σa (liI Q52) ∧ ∀ (v55 : Int32) (σ54 : St), Q52 v55 σ54 → Fr md_X12_ex σa σ54 → ((v55 ≠ 0 → ∃ Q59 : St → Prop, Cn (d - 1) n M_X12_puts md_X12_puts [.ref 11, .int c, .int 0] σ54 (liV Q59) ∧ ∀ (σ61 : St), Q59 σ61 → Fr md_X12_puts σ54 σ61 → Q 1 σ61) ∧ (v55 = 0 → Q 0 σ54)) := by
          intro t c σa hk ht hc Ba ata
          have hlt := notEnd X.2.2 r1 hk (by omega)
          rw [hk, if_pos ht] at ev
          obtain ⟨b1, b2, b3⟩ := rgE (j + 1) (by omega)
          refine ⟨_, xE σa (j + 1) (C ++ ops) ⟨Ba, ata, by omega, by omega⟩, ?_⟩
          rintro v3 σ3 (⟨b, rfl, a3, B3⟩ | ⟨b, rfl, a3, t3, o3⟩) hf3
          · obtain ⟨b4, b5⟩ := b3 b
            have b6 := encL_len (E (j + 1)).2.2
            rw [if_pos b] at ev
            refine ⟨fun _ => ⟨_, putsW_M (a := opK t) (b := 0) hc (by decide) hn B3.2.1 (by rw [List.length_append]; omega), ?_⟩, fun z => absurd z (by decide)⟩
            rintro σ4 P4 hf4
            rw [← hQ, ev]
            refine Or.inl ⟨rfl, rfl, a3.puts hf4 (by decide), ?_⟩
            show BM σ4 F tx e (C ++ (ops ++ (E (j + 1)).2.2 ++ [(opK t, 0)])) D
            rw [← List.append_assoc, ← List.append_assoc]
            exact B3.pu P4 hf4
          · refine ⟨fun z => absurd rfl z, fun _ => bad _ _ ?_ a3 t3 o3⟩
            rw [ev, if_neg (by rw [b]; decide)]
        refine ⟨_, takesS_M (s := 60) (by decide) hn (by omega) X.1 X.2.1 (by decide) B2.1 a2, ?_⟩
        rintro v3 σ3 (⟨k3, rfl, a3⟩ | ⟨k3, rfl, a3⟩) hf3
        · exact ⟨fun z => absurd z (by decide), fun _ => ⟨fun z => absurd z (by decide), fun _ => go 60 7 σ3 k3 (by decide) (by decide) (B2.st hf3 (by decide)) a3⟩⟩
        have B3 := B2.st hf3 (by decide)
        refine ⟨fun _ => ⟨_, takesS_M (s := 62) (by decide) hn (by omega) X.1 X.2.1 (by decide) B3.1 a3.m, ?_⟩, fun z => absurd rfl z⟩
        rintro v4 σ4 (⟨k4, rfl, a4⟩ | ⟨k4, rfl, a4⟩) hf4
        · exact ⟨fun z => absurd z (by decide), fun _ => ⟨fun z => absurd z (by decide), fun _ => go 62 8 σ4 k4 (by decide) (by decide) (B3.st hf4 (by decide)) a4⟩⟩
        have B4 := B3.st hf4 (by decide)
        refine ⟨fun _ => ⟨_, takesS_M (s := 61) (by decide) hn (by omega) X.1 X.2.1 (by decide) B4.1 a4.m, ?_⟩, fun z => absurd rfl z⟩
        rintro v5 σ5 (⟨k5, rfl, a5⟩ | ⟨k5, rfl, a5⟩) hf5
        · exact ⟨fun z => absurd z (by decide), fun _ => ⟨fun z => absurd z (by decide), fun _ => go 61 9 σ5 k5 (by decide) (by decide) (B4.st hf5 (by decide)) a5⟩⟩
        have B5 := B4.st hf5 (by decide)
        refine ⟨fun _ => ⟨fun _ => bad _ _ ?_ a5 B5.1 B5.2.1.2.2, fun z => absurd rfl z⟩, fun z => absurd rfl z⟩
        rw [ev, if_neg]
        rintro (z | z | z)
        · exact k3 z
        · exact k4 z
        · exact k5 z
      · refine ⟨fun z => absurd rfl z, fun _ => bad _ _ ?_ a2 t2 o2⟩
        rw [ev, if_neg (by rw [a]; decide)]
    rw [B1.1.1, a1']
    refine ⟨fun h => cmp (fun z => ?_), fun h => ?_⟩
    · have := (nI_leI (by omega) (by omega)).mp h
      have := (ek.mp z).1
      omega
    · have hlt : sT tx e i < e := by
        have : ¬ e ≤ sT tx e i := fun w => h ((nI_leI (by omega) (by omega)).mpr w)
        omega
      rw [nI_clamp (by omega), B1.1.2 _ hlt]
      have eb : sb8 (tx (sT tx e i)) = 91 ↔ tx (sT tx e i) = 91 := sb8_is (s := 91) (X.2.1 _) (by decide)
      refine ⟨vp_in_nI (by omega) (by decide), fun g => cmp (fun z => g (eb.mpr (ek.mp z).2)), fun g => ?_⟩
      have k91 : KT tx e i = 91 := ek.mpr ⟨hlt, eb.mp g⟩
      have hlt2 := notEnd X.2.2 hi k91 (by decide)
      refine ⟨_, opens_M hn hD B1.2.2, ?_⟩
      rintro v3 σ3 (⟨hD9, rfl, rfl⟩ | ⟨hD9, rfl, rfl⟩) hf3
      · refine ⟨fun _ => ?_, fun z => absurd z (by decide)⟩
        cases hSe : S with
        | none => exact absurd (hS0.mp hSe) (by omega)
        | some f =>
          obtain ⟨rg, -, xa⟩ := hS f hSe
          have ev : sgl0 (KT tx e) E S i = clsd (KT tx e) 93 (anyOf (KT tx e) f (i + 1)) := by
            rw [hSe]; unfold sgl0; rw [if_neg k6, if_pos k91]
          have r1 := any_rg X.2.2 rg (i + 1) (by omega)
          have e16 : gI (sI σ1 11 17 (nI (D + 1))) 11 16 + 1 = nI (sT tx e i + 1) := by rw [gI_sI_ne (by omega), a1', nI_1]
          rw [e16]
          have B3 : BM (sI (sI σ1 11 17 (nI (D + 1))) 11 16 (nI (sT tx e i + 1))) F tx e C (D + 1) := (B1.dp).at
          have a3 : AtM (sI (sI σ1 11 17 (nI (D + 1))) 11 16 (nI (sT tx e i + 1))) tx e (i + 1) := AtX.sg (s := 91) (by decide) k91 (gI_sI_same _ _ _ _)
          refine ⟨_, xa _ (i + 1) C ⟨B3, a3, by omega, by omega⟩, ?_⟩
          rintro v4 σ4 (⟨a, rfl, a4, B4⟩ | ⟨a, rfl, a4, t4, o4⟩) hf4
          · refine ⟨fun z => absurd z (by decide), fun _ => ⟨_, takesS_M (s := 93) (by decide) hn (by omega) X.1 X.2.1 (by decide) B4.1 a4, ?_⟩⟩
            rintro v5 σ5 (⟨k5, rfl, a5⟩ | ⟨k5, rfl, a5⟩) hf5
            · have B5 := B4.st hf5 (by decide)
              refine ⟨fun _ => ?_, fun z => absurd z (by decide)⟩
              rw [B5.2.2, show nI (D + 1) - 1 = nI D from nI_sub (a := D + 1) (b := 1) (by omega)]
              have ec : clsd (KT tx e) 93 (anyOf (KT tx e) f (i + 1)) = (true, (anyOf (KT tx e) f (i + 1)).2.1 + 1, (anyOf (KT tx e) f (i + 1)).2.2) := by unfold clsd; rw [if_pos a, if_pos k5]
              rw [← hQ, ev, ec]
              exact Or.inl ⟨rfl, rfl, a5.dp, B5.dp⟩
            · have B5 := B4.st hf5 (by decide)
              refine ⟨fun z => absurd rfl z, fun _ => bad _ _ ?_ a5 B5.1 B5.2.1.2.2⟩
              rw [ev]; unfold clsd; rw [if_pos a, if_neg k5]
          · refine ⟨fun _ => bad _ _ ?_ a4 t4 o4, fun z => absurd rfl z⟩
            rw [ev]; unfold clsd; rw [if_neg (by rw [a]; decide)]
      · refine ⟨fun z => absurd rfl z, fun _ => bad i _ ?_ a1 B1.1 B1.2.1.2.2⟩
        rw [hS0.mpr hD9]; unfold sgl0; rw [if_neg k6, if_pos k91]
  · have k6 : KT tx e i = 6 := ew.mp hw
    have hlt2 := notEnd X.2.2 hi k6 (by decide)
    refine ⟨_, opens_M hn hD B1.2.2, ?_⟩
    rintro v3 σ3 (⟨hD9, rfl, rfl⟩ | ⟨hD9, rfl, rfl⟩) hf3
    · refine ⟨fun _ => ?_, fun z => absurd z (by decide)⟩
      cases hSe : S with
      | none => exact absurd (hS0.mp hSe) (by omega)
      | some f =>
        obtain ⟨rg, xc, -⟩ := hS f hSe
        have ev : sgl0 (KT tx e) E S i = if (f (i + 1)).1 = true then (true, (f (i + 1)).2.1, (f (i + 1)).2.2 ++ [(12, 0)]) else (false, (f (i + 1)).2.1, []) := by
          rw [hSe]; unfold sgl0; rw [if_pos k6]
        obtain ⟨r1, r2, r3⟩ := rg (i + 1) (by omega)
        have e16 : gI (sI σ1 11 17 (nI (D + 1))) 11 33 = nI (rE isL tx e (sT tx e i)) := by rw [gI_sI_ne (by omega)]; exact c1
        rw [e16]
        have B3 : BM (sI (sI σ1 11 17 (nI (D + 1))) 11 16 (nI (rE isL tx e (sT tx e i)))) F tx e C (D + 1) := (B1.dp).at
        have a3 : AtM (sI (sI σ1 11 17 (nI (D + 1))) 11 16 (nI (rE isL tx e (sT tx e i)))) tx e (i + 1) := AtX.wd (c := 5) (by decide) k6 (gI_sI_same _ _ _ _)
        refine ⟨_, xc _ (i + 1) C ⟨B3, a3, by omega, by omega⟩, ?_⟩
        rintro v4 σ4 (⟨a, rfl, a4, B4⟩ | ⟨a, rfl, a4, t4, o4⟩) hf4
        · obtain ⟨r4, r5⟩ := r3 a
          have r6 := encL_len (f (i + 1)).2.2
          refine ⟨fun _ => ?_, fun z => absurd z (by decide)⟩
          rw [B4.2.2, show nI (D + 1) - 1 = nI D from nI_sub (a := D + 1) (b := 1) (by omega)]
          have B5 : BM (sI σ4 11 17 (nI D)) F tx e (C ++ (f (i + 1)).2.2) D := B4.dp
          refine ⟨_, putsW_M (a := 12) (b := 0) (by decide) (by decide) hn B5.2.1 (by rw [List.length_append]; omega), ?_⟩
          rintro σ6 P6 hf6
          rw [← hQ, ev, if_pos a]
          refine Or.inl ⟨rfl, rfl, (a4.dp).puts hf6 (by decide), ?_⟩
          show BM σ6 F tx e (C ++ ((f (i + 1)).2.2 ++ [(12, 0)])) D
          rw [← List.append_assoc]
          exact B5.pu P6 hf6
        · refine ⟨fun z => absurd rfl z, fun _ => bad _ _ ?_ a4 t4 o4⟩
          rw [ev, if_neg (by rw [a]; decide)]
    · refine ⟨fun z => absurd rfl z, fun _ => bad i _ ?_ a1 B1.1 B1.2.1.2.2⟩
      rw [hS0.mpr hD9]; unfold sgl0; rw [if_pos k6]
/-! levels -/
theorem prodR {K V : Nat → Nat} {m : Nat} {A : Nat → Res} (hT : TkE K V m) (hA : RG m A) : RG m (prodOf K A) := chn0_rg (A := A) hT (by decide) hA
theorem allR {K V : Nat → Nat} {m : Nat} {A : Nat → Res} (hT : TkE K V m) (hA : RG m A) : RG m (allOf K A) := chn0_rg (A := A) hT (by decide) hA
theorem exOf_M {d n : Nat} {F : Nat → Nat → Int32} {tx : Nat → Nat} {e m D : Nat} {A : Nat → Res} (hn : FIX ≤ n) (hd : 4 ≤ d) (X : TX tx e m) (hA : RG m A) (xa : XM (d - 2) n F tx e m D A M_X12_atom md_X12_atom) : XM d n F tx e m D (exOf (KT tx e) A) M_X12_ex md_X12_ex :=
  ex_M hn (by omega) X (prodR X.2.2 hA) (product_M (d := d - 1) hn (by omega) X hA (by rw [show d - 1 - 1 = d - 2 by omega]; exact xa))
theorem anyOf_M {d n : Nat} {F : Nat → Nat → Int32} {tx : Nat → Nat} {e m D : Nat} {A : Nat → Res} (hn : FIX ≤ n) (hd : 4 ≤ d) (X : TX tx e m) (hA : RG m A) (xa : XM (d - 2) n F tx e m D A M_X12_single md_X12_single) : XM d n F tx e m D (anyOf (KT tx e) A) M_X12_any md_X12_any :=
  any_M hn (by omega) X (allR X.2.2 hA) (all_M (d := d - 1) hn (by omega) X hA (by rw [show d - 1 - 1 = d - 2 by omega]; exact xa))
theorem exL_M {n : Nat} {F : Nat → Nat → Int32} {tx : Nat → Nat} {e m : Nat} (hn : FIX ≤ n) (X : TX tx e m) : ∀ L d D, D + L = 9 → 3 * L + 5 ≤ d → XM d n F tx e m D (exS (KT tx e) (VT tx e) L) M_X12_ex md_X12_ex
  | 0, d, D, hD, hd => exOf_M hn (by omega) X (atom_rg X.2.2 0) (atom_M hn (by omega) X (by omega) ⟨fun _ => by omega, fun _ => rfl⟩ (fun f h => by cases h))
  | L + 1, d, D, hD, hd => exOf_M hn (by omega) X (atom_rg X.2.2 (L + 1)) (atom_M hn (by omega) X (by omega) ⟨fun h => (by cases h), fun h => by omega⟩ (fun f h => by
    cases h
    exact ⟨exS_rg X.2.2 L, exL_M hn X L (d - 2 - 1) (D + 1) (by omega) (by omega)⟩))
theorem oneL_M {n : Nat} {F : Nat → Nat → Int32} {tx : Nat → Nat} {e m : Nat} (hn : FIX ≤ n) (X : TX tx e m) : ∀ L d D, D + L = 9 → 3 * L + 6 ≤ d → XM d n F tx e m D (oneS (KT tx e) (VT tx e) L) M_X12_single md_X12_single
  | 0, d, D, hD, hd => single_M hn (by omega) X (by omega) ⟨fun _ => by omega, fun _ => rfl⟩ (exS_rg X.2.2 0) (exL_M hn X 0 (d - 1) D hD (by omega)) (fun f h => by cases h)
  | L + 1, d, D, hD, hd => single_M hn (by omega) X (by omega) ⟨fun h => (by cases h), fun h => by omega⟩ (exS_rg X.2.2 (L + 1)) (exL_M hn X (L + 1) (d - 1) D hD (by omega)) (fun f h => by
    cases h
    exact ⟨one_rg X.2.2 L, oneL_M hn X L (d - 1) (D + 1) (by omega) (by omega), anyOf_M hn (by omega) X (one_rg X.2.2 L) (oneL_M hn X L (d - 1 - 2) (D + 1) (by omega) (by omega))⟩)
theorem anyL_M {n : Nat} {F : Nat → Nat → Int32} {tx : Nat → Nat} {e m : Nat} (hn : FIX ≤ n) (X : TX tx e m) {L d D : Nat} (hD : D + L = 9) (hd : 3 * L + 8 ≤ d) : XM d n F tx e m D (anyS (KT tx e) (VT tx e) L) M_X12_any md_X12_any := anyOf_M hn (by omega) X (one_rg X.2.2 L) (oneL_M hn X L (d - 2) D hD (by omega))
