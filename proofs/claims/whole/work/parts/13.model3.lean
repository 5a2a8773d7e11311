abbrev K_X12_dear_25 (d n : Nat) (σ0 : St) (Q : Int32 → St → Prop) (σ : St) (x1 : Int32) (x2 : Int32) (x3 : Int32) : Prop := Ev (d, n, md_X12_dear, σ0, liI Q) M_X12_dear 25 [some (.ref 11), some (.int x1), some (.int x2), some (.int x3)] [] σ
theorem B_X12_dear_25 {d n : Nat} {σ0 : St} {Q : Int32 → St → Prop}  {σ : St} {x1 : Int32} {x2 : Int32} {x3 : Int32} (hn : FIX ≤ n) (hd : 2 ≤ d) (h : ((((1 : Int32) <<< ((gI σ 11 0) &&& 31)) ≤ x3 → ((x2 ≠ (-1) → vp_in x1 8 ∧ Q (x2 - (gI σ 47 x1.toNatClampNeg)) σ) ∧ (x2 = (-1) → Q (-1) σ))) ∧ (¬ ((1 : Int32) <<< ((gI σ 11 0) &&& 31)) ≤ x3 → pre_X12_isLawful σ x1 x3 ∧ (((fn_X12_isLawful σ x1 x3) = 0 → K_X12_dear_25 d n σ0 Q σ x1 x2 (x3 + 1)) ∧ (¬ (fn_X12_isLawful σ x1 x3) = 0 → pre_X12_worthOf σ x1 x3 ∧ (((fn_X12_worthOf σ x1 x3) ≤ (gI σ 11 41) → K_X12_dear_25 d n σ0 Q σ x1 x2 (x3 + 1)) ∧ (¬ (fn_X12_worthOf σ x1 x3) ≤ (gI σ 11 41) → ((x2 = (-1) → ∃ Q6 : Int32 → St → Prop, Cn (d - 1) n M_X12_costOf md_X12_costOf [.ref 11, .int x3] σ (liI Q6) ∧ ∀ (v9 : Int32) (σ8 : St), Q6 v9 σ8 → Fr md_X12_costOf σ σ8 → K_X12_dear_25 d n σ0 Q σ8 x1 v9 (x3 + 1)) ∧ (¬ x2 = (-1) → ∃ Q12 : Int32 → St → Prop, Cn (d - 1) n M_X12_costOf md_X12_costOf [.ref 11, .int x3] σ (liI Q12) ∧ ∀ (v15 : Int32) (σ14 : St), Q12 v15 σ14 → Fr md_X12_costOf σ σ14 → ((x2 ≤ v15 → K_X12_dear_25 d n σ0 Q σ14 x1 x2 (x3 + 1)) ∧ (¬ x2 ≤ v15 → ∃ Q19 : Int32 → St → Prop, Cn (d - 1) n M_X12_costOf md_X12_costOf [.ref 11, .int x3] σ14 (liI Q19) ∧ ∀ (v22 : Int32) (σ21 : St), Q19 v22 σ21 → Fr md_X12_costOf σ14 σ21 → K_X12_dear_25 d n σ0 Q σ21 x1 v22 (x3 + 1)))))))))))) : K_X12_dear_25 d n σ0 Q σ x1 x2 x3 := by
  refine e_iload_n dX12_dear_25 rfl rfl ?_
  refine e_iconst dX12_dear_26 ci_1 ?_
  refine e_aload_n dX12_dear_27 rfl rfl ?_
  refine e_getI dX12_dear_28 fl_X12_131 (ob_11 hn) rfl ?_
  refine e_ishl dX12_dear_31 ?_
  refine e_icmp_ge (tgt := 83) dX12_dear_32 (by decide) (fun c1 => ?_) (fun c1 => ?_)
  · replace h := h.1 c1
    refine e_iload_n dX12_dear_83 rfl rfl ?_
    refine e_iconst dX12_dear_84 ci_m1 ?_
    refine e_icmp_ne (tgt := 92) dX12_dear_85 (by decide) (fun c2 => ?_) (fun c2 => ?_)
    · replace h := h.1 c2
      refine e_iload_n dX12_dear_92 rfl rfl ?_
      refine e_aload_n dX12_dear_93 rfl rfl ?_
      refine e_getR (y := 47) dX12_dear_94 fl_X12_35 (ob_11 hn) rfl rfl ?_
      refine e_iload_n dX12_dear_97 rfl rfl ?_
      refine e_iald dX12_dear_98 (ar_47 hn) h.1 ?_
      replace h := h.2
      refine e_isub dX12_dear_99 ?_
      exact e_iret dX12_dear_100 rfl ⟨_, rfl, h⟩
    · replace h := h.2 c2
      refine e_iconst dX12_dear_88 ci_m1 ?_
      refine e_goto (tgt := 100) dX12_dear_89 (by decide) ?_
      exact e_iret dX12_dear_100 rfl ⟨_, rfl, h⟩
  · replace h := h.2 c1
    refine e_aload_n dX12_dear_35 rfl rfl ?_
    refine e_iload_n dX12_dear_36 rfl rfl ?_
    refine e_iload_n dX12_dear_37 rfl rfl ?_
    refine e_callV (M' := M_X12_isLawful) (as := [.int x1, .int x3]) (rest := []) dX12_dear_38 ml_X12_348 mk_X12_isLawful (ob_11 hn) rfl rfl rfl (Nat.le_of_ble_eq_true rfl) (show 0 < d by omega) (sp_X12_isLawful hn h.1) Md_nil (fun v σv hq hf => ?_)
    obtain ⟨v, rfl, rfl, rfl⟩ := hq
    replace h := h.2
    refine e_if_eq (tgt := 77) dX12_dear_41 (by decide) (fun c3 => ?_) (fun c3 => ?_)
    · replace h := h.1 c3
      refine e_iinc dX12_dear_77 rfl (ii_1 _) rfl (by decide) ?_
      refine e_goto (tgt := 25) dX12_dear_80 (by decide) ?_
      exact h
    · replace h := h.2 c3
      refine e_aload_n dX12_dear_44 rfl rfl ?_
      refine e_iload_n dX12_dear_45 rfl rfl ?_
      refine e_iload_n dX12_dear_46 rfl rfl ?_
      refine e_callV (M' := M_X12_worthOf) (as := [.int x1, .int x3]) (rest := []) dX12_dear_47 ml_X12_354 mk_X12_worthOf (ob_11 hn) rfl rfl rfl (Nat.le_of_ble_eq_true rfl) (show 0 < d by omega) (sp_X12_worthOf hn h.1) Md_nil (fun v σv hq hf => ?_)
      obtain ⟨v, rfl, rfl, rfl⟩ := hq
      replace h := h.2
      refine e_aload_n dX12_dear_50 rfl rfl ?_
      refine e_getI dX12_dear_51 fl_X12_345 (ob_11 hn) rfl ?_
      refine e_icmp_le (tgt := 77) dX12_dear_54 (by decide) (fun c4 => ?_) (fun c4 => ?_)
      · replace h := h.1 c4
        refine e_iinc dX12_dear_77 rfl (ii_1 _) rfl (by decide) ?_
        refine e_goto (tgt := 25) dX12_dear_80 (by decide) ?_
        exact h
      · replace h := h.2 c4
        refine e_iload_n dX12_dear_57 rfl rfl ?_
        refine e_iconst dX12_dear_58 ci_m1 ?_
        refine e_icmp_eq (tgt := 71) dX12_dear_59 (by decide) (fun c5 => ?_) (fun c5 => ?_)
        · replace h := h.1 c5
          refine e_aload_n dX12_dear_71 rfl rfl ?_
          refine e_iload_n dX12_dear_72 rfl rfl ?_
          obtain ⟨Q6, hc7, h⟩ := h
          refine e_callV (M' := M_X12_costOf) (as := [.int x3]) (rest := []) dX12_dear_73 ml_X12_351 mk_X12_costOf (ob_11 hn) rfl rfl rfl (Nat.le_of_ble_eq_true rfl) (show 0 < d by omega) hc7 (Md_le (b := md_X12_dear) (by decide)) (fun v σ8 hq hf => ?_)
          obtain ⟨v9, rfl, hq⟩ := hq
          replace h := h v9 σ8 hq hf
          refine e_istore_n dX12_dear_76 rfl rfl (by decide) ?_
          refine e_iinc dX12_dear_77 rfl (ii_1 _) rfl (by decide) ?_
          refine e_goto (tgt := 25) dX12_dear_80 (by decide) ?_
          exact h
        · replace h := h.2 c5
          refine e_aload_n dX12_dear_62 rfl rfl ?_
          refine e_iload_n dX12_dear_63 rfl rfl ?_
          obtain ⟨Q12, hc13, h⟩ := h
          refine e_callV (M' := M_X12_costOf) (as := [.int x3]) (rest := []) dX12_dear_64 ml_X12_351 mk_X12_costOf (ob_11 hn) rfl rfl rfl (Nat.le_of_ble_eq_true rfl) (show 0 < d by omega) hc13 (Md_le (b := md_X12_dear) (by decide)) (fun v σ14 hq hf => ?_)
          obtain ⟨v15, rfl, hq⟩ := hq
          replace h := h v15 σ14 hq hf
          refine e_iload_n dX12_dear_67 rfl rfl ?_
          refine e_icmp_ge (tgt := 77) dX12_dear_68 (by decide) (fun c18 => ?_) (fun c18 => ?_)
          · replace h := h.1 c18
            refine e_iinc dX12_dear_77 rfl (ii_1 _) rfl (by decide) ?_
            refine e_goto (tgt := 25) dX12_dear_80 (by decide) ?_
            exact h
          · replace h := h.2 c18
            refine e_aload_n dX12_dear_71 rfl rfl ?_
            refine e_iload_n dX12_dear_72 rfl rfl ?_
            obtain ⟨Q19, hc20, h⟩ := h
            refine e_callV (M' := M_X12_costOf) (as := [.int x3]) (rest := []) dX12_dear_73 ml_X12_351 mk_X12_costOf (ob_11 hn) rfl rfl rfl (Nat.le_of_ble_eq_true rfl) (show 0 < d by omega) hc20 (Md_le (b := md_X12_dear) (by decide)) (fun v σ21 hq hf => ?_)
            obtain ⟨v22, rfl, hq⟩ := hq
            replace h := h v22 σ21 hq hf
            refine e_istore_n dX12_dear_76 rfl rfl (by decide) ?_
            refine e_iinc dX12_dear_77 rfl (ii_1 _) rfl (by decide) ?_
            refine e_goto (tgt := 25) dX12_dear_80 (by decide) ?_
            exact h
theorem S_X12_dear {d n : Nat} {Q : Int32 → St → Prop} {σ : St} {a1 : Int32} (hn : FIX ≤ n) (hd : 2 ≤ d) (h : (((fn_X12_isPerson σ a1) ≠ 0 → ∃ Q2 : St → Prop, Cn (d - 1) n M_X12_told md_X12_told [.ref 11] σ (liV Q2) ∧ ∀ (σ4 : St), Q2 σ4 → Fr md_X12_told σ σ4 → ∃ Q8 : Int32 → St → Prop, Cn (d - 1) n M_X12_buysBy md_X12_buysBy [.ref 11, .int a1] σ4 (liI Q8) ∧ ∀ (v11 : Int32) (σ10 : St), Q8 v11 σ10 → Fr md_X12_buysBy σ4 σ10 → K_X12_dear_25 d n σ Q σ10 a1 (-1) 0) ∧ ((fn_X12_isPerson σ a1) = 0 → Q (-2) σ))) : Cn d n M_X12_dear md_X12_dear [.ref 11, .int a1] σ (liI Q) := by
  refine Cn.of (k0 := 2) (by decide) rfl ?_
  show Ev (d, n, md_X12_dear, σ, liI Q) M_X12_dear 0 [some (.ref 11), some (.int a1), none, none] [] σ
  refine e_aload_n dX12_dear_0 rfl rfl ?_
  refine e_iload_n dX12_dear_1 rfl rfl ?_
  refine e_callV (M' := M_X12_isPerson) (as := [.int a1]) (rest := []) dX12_dear_2 ml_X12_151 mk_X12_isPerson (ob_11 hn) rfl rfl rfl (Nat.le_of_ble_eq_true rfl) (show 0 < d by omega) (sp_X12_isPerson hn (show 1 ≤ d - 1 by omega)) Md_nil (fun v σv hq hf => ?_)
  obtain ⟨v, rfl, rfl, rfl⟩ := hq
  refine e_if_ne (tgt := 11) dX12_dear_5 (by decide) (fun c1 => ?_) (fun c1 => ?_)
  · replace h := h.1 c1
    refine e_aload_n dX12_dear_11 rfl rfl ?_
    obtain ⟨Q2, hc3, h⟩ := h
    refine e_callV (M' := M_X12_told) (as := []) (rest := []) dX12_dear_12 ml_X12_360 mk_X12_told (ob_11 hn) rfl rfl rfl (Nat.le_of_ble_eq_true rfl) (show 0 < d by omega) hc3 (Md_le (b := md_X12_dear) (by decide)) (fun v σ4 hq hf => ?_)
    obtain ⟨rfl, hq⟩ := hq
    replace h := h σ4 hq hf
    refine e_aload_n dX12_dear_15 rfl rfl ?_
    refine e_iload_n dX12_dear_16 rfl rfl ?_
    obtain ⟨Q8, hc9, h⟩ := h
    refine e_callV (M' := M_X12_buysBy) (as := [.int a1]) (rest := []) dX12_dear_17 ml_X12_363 mk_X12_buysBy (ob_11 hn) rfl rfl rfl (Nat.le_of_ble_eq_true rfl) (show 0 < d by omega) hc9 (Md_le (b := md_X12_dear) (by decide)) (fun v σ10 hq hf => ?_)
    obtain ⟨v11, rfl, hq⟩ := hq
    replace h := h v11 σ10 hq hf
    refine e_pop dX12_dear_20 rfl ?_
    refine e_iconst dX12_dear_21 ci_m1 ?_
    refine e_istore_n dX12_dear_22 rfl rfl (by decide) ?_
    refine e_iconst dX12_dear_23 ci_0 ?_
    refine e_istore_n dX12_dear_24 rfl rfl (by decide) ?_
    exact h
  · replace h := h.2 c1
    refine e_bipush dX12_dear_8 cb_m2 ?_
    exact e_iret dX12_dear_10 rfl ⟨_, rfl, h⟩
abbrev K_X12_squares_2 (d n : Nat) (σ0 : St) (Q : Int32 → St → Prop) (σ : St) (x1 : Int32) : Prop := Ev (d, n, md_X12_squares, σ0, liI Q) M_X12_squares 2 [some (.ref 11), some (.int x1), none, none] [] σ
abbrev K_X12_squares_35 (d n : Nat) (σ0 : St) (Q : Int32 → St → Prop) (σ : St) (x1 : Int32) (x2 : Int32) : Prop := Ev (d, n, md_X12_squares, σ0, liI Q) M_X12_squares 35 [some (.ref 11), some (.int x1), some (.int x2), none] [] σ
abbrev K_X12_squares_58 (d n : Nat) (σ0 : St) (Q : Int32 → St → Prop) (σ : St) (x1 : Int32) (x2 : Int32) (x3 : Int32) : Prop := Ev (d, n, md_X12_squares, σ0, liI Q) M_X12_squares 58 [some (.ref 11), some (.int x1), some (.int x2), some (.int x3)] [] σ
theorem B_X12_squares_2 {d n : Nat} {σ0 : St} {Q : Int32 → St → Prop}  {σ : St} {x1 : Int32} (hn : FIX ≤ n) (hd : 1 ≤ d) (h : (((gI σ 11 1) ≤ x1 → K_X12_squares_35 d n σ0 Q σ 0 0) ∧ (¬ (gI σ 11 1) ≤ x1 → ∃ Q2 : Int32 → St → Prop, Cn (d - 1) n M_X12_buysBy md_X12_buysBy [.ref 11, .int x1] σ (liI Q2) ∧ ∀ (v5 : Int32) (σ4 : St), Q2 v5 σ4 → Fr md_X12_buysBy σ σ4 → vp_in x1 8 ∧ K_X12_squares_2 d n σ0 Q (sI σ4 64 x1.toNatClampNeg (mxI 0 v5)) (x1 + 1)))) : K_X12_squares_2 d n σ0 Q σ x1 := by
  refine e_iload_n dX12_squares_2 rfl rfl ?_
  refine e_aload_n dX12_squares_3 rfl rfl ?_
  refine e_getI dX12_squares_4 fl_X12_138 (ob_11 hn) rfl ?_
  refine e_icmp_ge (tgt := 31) dX12_squares_7 (by decide) (fun c1 => ?_) (fun c1 => ?_)
  · replace h := h.1 c1
    refine e_iconst dX12_squares_31 ci_0 ?_
    refine e_istore_n dX12_squares_32 rfl rfl (by decide) ?_
    refine e_iconst dX12_squares_33 ci_0 ?_
    refine e_istore_n dX12_squares_34 rfl rfl (by decide) ?_
    exact h
  · replace h := h.2 c1
    refine e_aload_n dX12_squares_10 rfl rfl ?_
    refine e_getR (y := 64) dX12_squares_11 fl_X12_98 (ob_11 hn) rfl rfl ?_
    refine e_iload_n dX12_squares_14 rfl rfl ?_
    refine e_iconst dX12_squares_15 ci_0 ?_
    refine e_aload_n dX12_squares_16 rfl rfl ?_
    refine e_iload_n dX12_squares_17 rfl rfl ?_
    obtain ⟨Q2, hc3, h⟩ := h
    refine e_callV (M' := M_X12_buysBy) (as := [.int x1]) (rest := [.int 0, .int x1, .ref 64]) dX12_squares_18 ml_X12_363 mk_X12_buysBy (ob_11 hn) rfl rfl rfl (Nat.le_of_ble_eq_true rfl) (show 0 < d by omega) hc3 (Md_le (b := md_X12_squares) (by decide)) (fun v σ4 hq hf => ?_)
    obtain ⟨v5, rfl, hq⟩ := hq
    replace h := h v5 σ4 hq hf
    refine e_mmax (st := [.int x1, .ref 64]) dX12_squares_21 ml_X12_304 (Nat.le_of_ble_eq_true rfl) (show 0 < d by omega) ?_
    refine e_iast dX12_squares_24 (ar_64 hn) h.1 (md_r (m := md_X12_squares) (by decide)) ?_
    replace h := h.2
    refine e_iinc dX12_squares_25 rfl (ii_1 _) rfl (by decide) ?_
    refine e_goto (tgt := 2) dX12_squares_28 (by decide) ?_
    exact h
theorem B_X12_squares_35 {d n : Nat} {σ0 : St} {Q : Int32 → St → Prop}  {σ : St} {x1 : Int32} {x2 : Int32} (hn : FIX ≤ n) (hd : 1 ≤ d) (h : (((gI σ 11 0) ≤ x2 → Q x1 σ) ∧ (¬ (gI σ 11 0) ≤ x2 → vp_in x2 10 ∧ vp_in x2 10 ∧ K_X12_squares_58 d n σ0 Q (sI σ 65 x2.toNatClampNeg (-(gI σ 41 x2.toNatClampNeg))) x1 x2 0))) : K_X12_squares_35 d n σ0 Q σ x1 x2 := by
  refine e_iload_n dX12_squares_35 rfl rfl ?_
  refine e_aload_n dX12_squares_36 rfl rfl ?_
  refine e_getI dX12_squares_37 fl_X12_131 (ob_11 hn) rfl ?_
  refine e_icmp_ge (tgt := 141) dX12_squares_40 (by decide) (fun c1 => ?_) (fun c1 => ?_)
  · replace h := h.1 c1
    refine e_iload_n dX12_squares_141 rfl rfl ?_
    exact e_iret dX12_squares_142 rfl ⟨_, rfl, h⟩
  · replace h := h.2 c1
    refine e_aload_n dX12_squares_43 rfl rfl ?_
    refine e_getR (y := 65) dX12_squares_44 fl_X12_101 (ob_11 hn) rfl rfl ?_
    refine e_iload_n dX12_squares_47 rfl rfl ?_
    refine e_aload_n dX12_squares_48 rfl rfl ?_
    refine e_getR (y := 41) dX12_squares_49 fl_X12_16 (ob_11 hn) rfl rfl ?_
    refine e_iload_n dX12_squares_52 rfl rfl ?_
    refine e_iald dX12_squares_53 (ar_41 hn) h.1 ?_
    replace h := h.2
    refine e_ineg dX12_squares_54 ?_
    refine e_iast dX12_squares_55 (ar_65 hn) h.1 (md_r (m := md_X12_squares) (by decide)) ?_
    replace h := h.2
    refine e_iconst dX12_squares_56 ci_0 ?_
    refine e_istore_n dX12_squares_57 rfl rfl (by decide) ?_
    exact h
theorem B_X12_squares_58 {d n : Nat} {σ0 : St} {Q : Int32 → St → Prop}  {σ : St} {x1 : Int32} {x2 : Int32} {x3 : Int32} (hn : FIX ≤ n) (hd : 1 ≤ d) (h : (((gI σ 11 1) ≤ x3 → vp_in x2 10 ∧ (((0 : Int32) ≤ (gI σ 65 x2.toNatClampNeg) → vp_in x2 10 ∧ vp_in x2 10 ∧ K_X12_squares_35 d n σ0 Q σ (x1 + ((gI σ 65 x2.toNatClampNeg) * (gI σ 65 x2.toNatClampNeg))) (x2 + 1)) ∧ (¬ (0 : Int32) ≤ (gI σ 65 x2.toNatClampNeg) → vp_in x2 10 ∧ (((gI σ 63 x2.toNatClampNeg) ≠ 0 → vp_in x2 10 ∧ vp_in x2 10 ∧ K_X12_squares_35 d n σ0 Q σ (x1 + ((gI σ 65 x2.toNatClampNeg) * (gI σ 65 x2.toNatClampNeg))) (x2 + 1)) ∧ ((gI σ 63 x2.toNatClampNeg) = 0 → vp_in x2 10 ∧ vp_in x2 10 ∧ vp_in x2 10 ∧ K_X12_squares_35 d n σ0 Q (sI σ 65 x2.toNatClampNeg 0) (x1 + ((gI (sI σ 65 x2.toNatClampNeg 0) 65 x2.toNatClampNeg) * (gI (sI σ 65 x2.toNatClampNeg 0) 65 x2.toNatClampNeg))) (x2 + 1)))))) ∧ (¬ (gI σ 11 1) ≤ x3 → vp_in x2 10 ∧ vp_in x3 8 ∧ vp_in x2 10 ∧ K_X12_squares_58 d n σ0 Q (sI σ 65 x2.toNatClampNeg ((gI σ 65 x2.toNatClampNeg) + (fn_X12_one (fn_X12_holds (gI σ 64 x3.toNatClampNeg) x2)))) x1 x2 (x3 + 1)))) : K_X12_squares_58 d n σ0 Q σ x1 x2 x3 := by
  refine e_iload_n dX12_squares_58 rfl rfl ?_
  refine e_aload_n dX12_squares_59 rfl rfl ?_
  refine e_getI dX12_squares_60 fl_X12_138 (ob_11 hn) rfl ?_
  refine e_icmp_ge (tgt := 94) dX12_squares_63 (by decide) (fun c1 => ?_) (fun c1 => ?_)
  · replace h := h.1 c1
    refine e_aload_n dX12_squares_94 rfl rfl ?_
    refine e_getR (y := 65) dX12_squares_95 fl_X12_101 (ob_11 hn) rfl rfl ?_
    refine e_iload_n dX12_squares_98 rfl rfl ?_
    refine e_iald dX12_squares_99 (ar_65 hn) h.1 ?_
    replace h := h.2
    refine e_if_ge (tgt := 119) dX12_squares_100 (by decide) (fun c2 => ?_) (fun c2 => ?_)
    · replace h := h.1 c2
      refine e_iload_n dX12_squares_119 rfl rfl ?_
      refine e_aload_n dX12_squares_120 rfl rfl ?_
      refine e_getR (y := 65) dX12_squares_121 fl_X12_101 (ob_11 hn) rfl rfl ?_
      refine e_iload_n dX12_squares_124 rfl rfl ?_
      refine e_iald dX12_squares_125 (ar_65 hn) h.1 ?_
      replace h := h.2
      refine e_aload_n dX12_squares_126 rfl rfl ?_
      refine e_getR (y := 65) dX12_squares_127 fl_X12_101 (ob_11 hn) rfl rfl ?_
      refine e_iload_n dX12_squares_130 rfl rfl ?_
      refine e_iald dX12_squares_131 (ar_65 hn) h.1 ?_
      replace h := h.2
      refine e_imul dX12_squares_132 ?_
      refine e_iadd dX12_squares_133 ?_
      refine e_istore_n dX12_squares_134 rfl rfl (by decide) ?_
      refine e_iinc dX12_squares_135 rfl (ii_1 _) rfl (by decide) ?_
      refine e_goto (tgt := 35) dX12_squares_138 (by decide) ?_
      refine e_kill [true, true, true, false] ?_
      exact h
    · replace h := h.2 c2
      refine e_aload_n dX12_squares_103 rfl rfl ?_
      refine e_getR (y := 63) dX12_squares_104 fl_X12_95 (ob_11 hn) rfl rfl ?_
      refine e_iload_n dX12_squares_107 rfl rfl ?_
      refine e_iald dX12_squares_108 (ar_63 hn) h.1 ?_
      replace h := h.2
      refine e_if_ne (tgt := 119) dX12_squares_109 (by decide) (fun c3 => ?_) (fun c3 => ?_)
      · replace h := h.1 c3
        refine e_iload_n dX12_squares_119 rfl rfl ?_
        refine e_aload_n dX12_squares_120 rfl rfl ?_
        refine e_getR (y := 65) dX12_squares_121 fl_X12_101 (ob_11 hn) rfl rfl ?_
        refine e_iload_n dX12_squares_124 rfl rfl ?_
        refine e_iald dX12_squares_125 (ar_65 hn) h.1 ?_
        replace h := h.2
        refine e_aload_n dX12_squares_126 rfl rfl ?_
        refine e_getR (y := 65) dX12_squares_127 fl_X12_101 (ob_11 hn) rfl rfl ?_
        refine e_iload_n dX12_squares_130 rfl rfl ?_
        refine e_iald dX12_squares_131 (ar_65 hn) h.1 ?_
        replace h := h.2
        refine e_imul dX12_squares_132 ?_
        refine e_iadd dX12_squares_133 ?_
        refine e_istore_n dX12_squares_134 rfl rfl (by decide) ?_
        refine e_iinc dX12_squares_135 rfl (ii_1 _) rfl (by decide) ?_
        refine e_goto (tgt := 35) dX12_squares_138 (by decide) ?_
        refine e_kill [true, true, true, false] ?_
        exact h
      · replace h := h.2 c3
        refine e_aload_n dX12_squares_112 rfl rfl ?_
        refine e_getR (y := 65) dX12_squares_113 fl_X12_101 (ob_11 hn) rfl rfl ?_
        refine e_iload_n dX12_squares_116 rfl rfl ?_
        refine e_iconst dX12_squares_117 ci_0 ?_
        refine e_iast dX12_squares_118 (ar_65 hn) h.1 (md_r (m := md_X12_squares) (by decide)) ?_
        replace h := h.2
        refine e_iload_n dX12_squares_119 rfl rfl ?_
        refine e_aload_n dX12_squares_120 rfl rfl ?_
        refine e_getR (y := 65) dX12_squares_121 fl_X12_101 (ob_11 hn) rfl rfl ?_
        refine e_iload_n dX12_squares_124 rfl rfl ?_
        refine e_iald dX12_squares_125 (ar_65 hn) h.1 ?_
        replace h := h.2
        refine e_aload_n dX12_squares_126 rfl rfl ?_
        refine e_getR (y := 65) dX12_squares_127 fl_X12_101 (ob_11 hn) rfl rfl ?_
        refine e_iload_n dX12_squares_130 rfl rfl ?_
        refine e_iald dX12_squares_131 (ar_65 hn) h.1 ?_
        replace h := h.2
        refine e_imul dX12_squares_132 ?_
        refine e_iadd dX12_squares_133 ?_
        refine e_istore_n dX12_squares_134 rfl rfl (by decide) ?_
        refine e_iinc dX12_squares_135 rfl (ii_1 _) rfl (by decide) ?_
        refine e_goto (tgt := 35) dX12_squares_138 (by decide) ?_
        refine e_kill [true, true, true, false] ?_
        exact h
  · replace h := h.2 c1
    refine e_aload_n dX12_squares_66 rfl rfl ?_
    refine e_getR (y := 65) dX12_squares_67 fl_X12_101 (ob_11 hn) rfl rfl ?_
    refine e_iload_n dX12_squares_70 rfl rfl ?_
    refine e_dup2 dX12_squares_71 rfl rfl ?_
    refine e_iald dX12_squares_72 (ar_65 hn) h.1 ?_
    replace h := h.2
    refine e_aload_n dX12_squares_73 rfl rfl ?_
    refine e_getR (y := 64) dX12_squares_74 fl_X12_98 (ob_11 hn) rfl rfl ?_
    refine e_iload_n dX12_squares_77 rfl rfl ?_
    refine e_iald dX12_squares_78 (ar_64 hn) h.1 ?_
    replace h := h.2
    refine e_iload_n dX12_squares_79 rfl rfl ?_
    refine e_callS (M' := M_X12_holds) (as := [.int (gI σ 64 x3.toNatClampNeg), .int x2]) (rest := [.int (gI σ 65 x2.toNatClampNeg), .int x2, .ref 65]) dX12_squares_80 ml_X12_289 mk_X12_holds rfl (Nat.le_of_ble_eq_true rfl) (show 0 < d by omega) (sp_X12_holds) Md_nil (fun v σv hq hf => ?_)
    obtain ⟨v, rfl, rfl, rfl⟩ := hq
    refine e_callS (M' := M_X12_one) (as := [.int (fn_X12_holds (gI σ 64 x3.toNatClampNeg) x2)]) (rest := [.int (gI σ 65 x2.toNatClampNeg), .int x2, .ref 65]) dX12_squares_83 ml_X12_293 mk_X12_one rfl (Nat.le_of_ble_eq_true rfl) (show 0 < d by omega) (sp_X12_one) Md_nil (fun v σv hq hf => ?_)
    obtain ⟨v, rfl, rfl, rfl⟩ := hq
    refine e_iadd dX12_squares_86 ?_
    refine e_iast dX12_squares_87 (ar_65 hn) h.1 (md_r (m := md_X12_squares) (by decide)) ?_
    replace h := h.2
    refine e_iinc dX12_squares_88 rfl (ii_1 _) rfl (by decide) ?_
    refine e_goto (tgt := 58) dX12_squares_91 (by decide) ?_
    exact h
theorem S_X12_squares {d n : Nat} {Q : Int32 → St → Prop} {σ : St}  (hn : FIX ≤ n) (hd : 1 ≤ d) (h : K_X12_squares_2 d n σ Q σ 0) : Cn d n M_X12_squares md_X12_squares [.ref 11] σ (liI Q) := by
  refine Cn.of (k0 := 3) (by decide) rfl ?_
  show Ev (d, n, md_X12_squares, σ, liI Q) M_X12_squares 0 [some (.ref 11), none, none, none] [] σ
  refine e_iconst dX12_squares_0 ci_0 ?_
  refine e_istore_n dX12_squares_1 rfl rfl (by decide) ?_
  exact h
theorem S_X12_over {d n : Nat} {Q : Int32 → St → Prop} {σ : St} {a1 : Int32} (hn : FIX ≤ n) (hd : 2 ≤ d) (h : (((fn_X12_isLesson σ a1) ≠ 0 → ∃ Q2 : St → Prop, Cn (d - 1) n M_X12_told md_X12_told [.ref 11] σ (liV Q2) ∧ ∀ (σ4 : St), Q2 σ4 → Fr md_X12_told σ σ4 → ∃ Q8 : Int32 → St → Prop, Cn (d - 1) n M_X12_squares md_X12_squares [.ref 11] σ4 (liI Q8) ∧ ∀ (v11 : Int32) (σ10 : St), Q8 v11 σ10 → Fr md_X12_squares σ4 σ10 → vp_in a1 10 ∧ Q (gI σ10 65 a1.toNatClampNeg) σ10) ∧ ((fn_X12_isLesson σ a1) = 0 → Q (-100) σ))) : Cn d n M_X12_over md_X12_over [.ref 11, .int a1] σ (liI Q) := by
  refine Cn.of (k0 := 0) (by decide) rfl ?_
  show Ev (d, n, md_X12_over, σ, liI Q) M_X12_over 0 [some (.ref 11), some (.int a1)] [] σ
  refine e_aload_n dX12_over_0 rfl rfl ?_
  refine e_iload_n dX12_over_1 rfl rfl ?_
  refine e_callV (M' := M_X12_isLesson) (as := [.int a1]) (rest := []) dX12_over_2 ml_X12_141 mk_X12_isLesson (ob_11 hn) rfl rfl rfl (Nat.le_of_ble_eq_true rfl) (show 0 < d by omega) (sp_X12_isLesson hn (show 1 ≤ d - 1 by omega)) Md_nil (fun v σv hq hf => ?_)
  obtain ⟨v, rfl, rfl, rfl⟩ := hq
  refine e_if_ne (tgt := 11) dX12_over_5 (by decide) (fun c1 => ?_) (fun c1 => ?_)
  · replace h := h.1 c1
    refine e_aload_n dX12_over_11 rfl rfl ?_
    obtain ⟨Q2, hc3, h⟩ := h
    refine e_callV (M' := M_X12_told) (as := []) (rest := []) dX12_over_12 ml_X12_360 mk_X12_told (ob_11 hn) rfl rfl rfl (Nat.le_of_ble_eq_true rfl) (show 0 < d by omega) hc3 (Md_le (b := md_X12_over) (by decide)) (fun v σ4 hq hf => ?_)
    obtain ⟨rfl, hq⟩ := hq
    replace h := h σ4 hq hf
    refine e_aload_n dX12_over_15 rfl rfl ?_
    obtain ⟨Q8, hc9, h⟩ := h
    refine e_callV (M' := M_X12_squares) (as := []) (rest := []) dX12_over_16 ml_X12_366 mk_X12_squares (ob_11 hn) rfl rfl rfl (Nat.le_of_ble_eq_true rfl) (show 0 < d by omega) hc9 (Md_le (b := md_X12_over) (by decide)) (fun v σ10 hq hf => ?_)
    obtain ⟨v11, rfl, hq⟩ := hq
    replace h := h v11 σ10 hq hf
    refine e_pop dX12_over_19 rfl ?_
    refine e_aload_n dX12_over_20 rfl rfl ?_
    refine e_getR (y := 65) dX12_over_21 fl_X12_101 (ob_11 hn) rfl rfl ?_
    refine e_iload_n dX12_over_24 rfl rfl ?_
    refine e_iald dX12_over_25 (ar_65 hn) h.1 ?_
    replace h := h.2
    exact e_iret dX12_over_26 rfl ⟨_, rfl, h⟩
  · replace h := h.2 c1
    refine e_bipush dX12_over_8 cb_m100 ?_
    exact e_iret dX12_over_10 rfl ⟨_, rfl, h⟩
theorem S_X12_square {d n : Nat} {Q : Int32 → St → Prop} {σ : St}  (hn : FIX ≤ n) (hd : 1 ≤ d) (h : ∃ Q1 : St → Prop, Cn (d - 1) n M_X12_told md_X12_told [.ref 11] σ (liV Q1) ∧ ∀ (σ3 : St), Q1 σ3 → Fr md_X12_told σ σ3 → ∃ Q7 : Int32 → St → Prop, Cn (d - 1) n M_X12_squares md_X12_squares [.ref 11] σ3 (liI Q7) ∧ ∀ (v10 : Int32) (σ9 : St), Q7 v10 σ9 → Fr md_X12_squares σ3 σ9 → Q v10 σ9) : Cn d n M_X12_square md_X12_square [.ref 11] σ (liI Q) := by
  refine Cn.of (k0 := 0) (by decide) rfl ?_
  show Ev (d, n, md_X12_square, σ, liI Q) M_X12_square 0 [some (.ref 11)] [] σ
  refine e_aload_n dX12_square_0 rfl rfl ?_
  obtain ⟨Q1, hc2, h⟩ := h
  refine e_callV (M' := M_X12_told) (as := []) (rest := []) dX12_square_1 ml_X12_360 mk_X12_told (ob_11 hn) rfl rfl rfl (Nat.le_of_ble_eq_true rfl) (show 0 < d by omega) hc2 (Md_le (b := md_X12_square) (by decide)) (fun v σ3 hq hf => ?_)
  obtain ⟨rfl, hq⟩ := hq
  replace h := h σ3 hq hf
  refine e_aload_n dX12_square_4 rfl rfl ?_
  obtain ⟨Q7, hc8, h⟩ := h
  refine e_callV (M' := M_X12_squares) (as := []) (rest := []) dX12_square_5 ml_X12_366 mk_X12_squares (ob_11 hn) rfl rfl rfl (Nat.le_of_ble_eq_true rfl) (show 0 < d by omega) hc8 (Md_le (b := md_X12_square) (by decide)) (fun v σ9 hq hf => ?_)
  obtain ⟨v10, rfl, hq⟩ := hq
  replace h := h v10 σ9 hq hf
  exact e_iret dX12_square_8 rfl ⟨_, rfl, h⟩
abbrev K_X12_wasGone_14 (d n : Nat) (σ0 : St) (Q : Int32 → St → Prop) (σ : St) (x1 : Int32) : Prop := Ev (d, n, md_X12_wasGone, σ0, liI Q) M_X12_wasGone 14 [some (.ref 11), some (.int x1), none, none] [] σ
abbrev K_X12_wasGone_26 (d n : Nat) (σ0 : St) (Q : Int32 → St → Prop) (σ : St) (x1 : Int32) (x2 : Int32) (x3 : Int32) : Prop := Ev (d, n, md_X12_wasGone, σ0, liI Q) M_X12_wasGone 26 [some (.ref 11), some (.int x1), some (.int x2), some (.int x3)] [] σ
theorem B_X12_wasGone_14 {d n : Nat} {σ0 : St} {Q : Int32 → St → Prop}  {σ : St} {x1 : Int32} (hn : FIX ≤ n) (hd : 1 ≤ d) (h : (((gI σ 11 49) < x1 → Q 0 σ) ∧ (¬ (gI σ 11 49) < x1 → K_X12_wasGone_26 d n σ0 Q σ x1 1 0))) : K_X12_wasGone_14 d n σ0 Q σ x1 := by
  refine e_iload_n dX12_wasGone_14 rfl rfl ?_
  refine e_aload_n dX12_wasGone_15 rfl rfl ?_
  refine e_getI dX12_wasGone_16 fl_X12_370 (ob_11 hn) rfl ?_
  refine e_icmp_gt (tgt := 82) dX12_wasGone_19 (by decide) (fun c1 => ?_) (fun c1 => ?_)
  · replace h := h.1 c1
    refine e_iconst dX12_wasGone_82 ci_0 ?_
    exact e_zret dX12_wasGone_83 rfl (nar_z (Or.inl rfl)) ⟨_, rfl, h⟩
  · replace h := h.2 c1
    refine e_iconst dX12_wasGone_22 ci_1 ?_
    refine e_istore_n dX12_wasGone_23 rfl rfl (by decide) ?_
    refine e_iconst dX12_wasGone_24 ci_0 ?_
    refine e_istore_n dX12_wasGone_25 rfl rfl (by decide) ?_
    exact h
theorem B_X12_wasGone_26 {d n : Nat} {σ0 : St} {Q : Int32 → St → Prop}  {σ : St} {x1 : Int32} {x2 : Int32} {x3 : Int32} (hn : FIX ≤ n) (hd : 1 ≤ d) (h : (((gI σ 11 0) ≤ x3 → ((x2 = 0 → K_X12_wasGone_14 d n σ0 Q σ (x1 + 1)) ∧ (¬ x2 = 0 → Q 1 σ))) ∧ (¬ (gI σ 11 0) ≤ x3 → ((x2 = 0 → K_X12_wasGone_26 d n σ0 Q σ x1 0 (x3 + 1)) ∧ (¬ x2 = 0 → vp_in ((10 * x1) + x3) 610 ∧ vp_in x3 10 ∧ (((gI σ 66 ((10 * x1) + x3).toNatClampNeg) ≠ (gI σ 63 x3.toNatClampNeg) → K_X12_wasGone_26 d n σ0 Q σ x1 0 (x3 + 1)) ∧ ((gI σ 66 ((10 * x1) + x3).toNatClampNeg) = (gI σ 63 x3.toNatClampNeg) → K_X12_wasGone_26 d n σ0 Q σ x1 1 (x3 + 1)))))))) : K_X12_wasGone_26 d n σ0 Q σ x1 x2 x3 := by
  refine e_iload_n dX12_wasGone_26 rfl rfl ?_
  refine e_aload_n dX12_wasGone_27 rfl rfl ?_
  refine e_getI dX12_wasGone_28 fl_X12_131 (ob_11 hn) rfl ?_
  refine e_icmp_ge (tgt := 70) dX12_wasGone_31 (by decide) (fun c1 => ?_) (fun c1 => ?_)
  · replace h := h.1 c1
    refine e_iload_n dX12_wasGone_70 rfl rfl ?_
    refine e_if_eq (tgt := 76) dX12_wasGone_71 (by decide) (fun c2 => ?_) (fun c2 => ?_)
    · replace h := h.1 c2
      refine e_iinc dX12_wasGone_76 rfl (ii_1 _) rfl (by decide) ?_
      refine e_goto (tgt := 14) dX12_wasGone_79 (by decide) ?_
      refine e_kill [true, true, false, false] ?_
      exact h
    · replace h := h.2 c2
      refine e_iconst dX12_wasGone_74 ci_1 ?_
      exact e_zret dX12_wasGone_75 rfl (nar_z (Or.inr rfl)) ⟨_, rfl, h⟩
  · replace h := h.2 c1
    refine e_iload_n dX12_wasGone_34 rfl rfl ?_
    refine e_if_eq (tgt := 62) dX12_wasGone_35 (by decide) (fun c3 => ?_) (fun c3 => ?_)
    · replace h := h.1 c3
      refine e_iconst dX12_wasGone_62 ci_0 ?_
      refine e_istore_n dX12_wasGone_63 rfl rfl (by decide) ?_
      refine e_iinc dX12_wasGone_64 rfl (ii_1 _) rfl (by decide) ?_
      refine e_goto (tgt := 26) dX12_wasGone_67 (by decide) ?_
      exact h
    · replace h := h.2 c3
      refine e_aload_n dX12_wasGone_38 rfl rfl ?_
      refine e_getR (y := 66) dX12_wasGone_39 fl_X12_104 (ob_11 hn) rfl rfl ?_
      refine e_bipush dX12_wasGone_42 cb_10 ?_
      refine e_iload_n dX12_wasGone_44 rfl rfl ?_
      refine e_imul dX12_wasGone_45 ?_
      refine e_iload_n dX12_wasGone_46 rfl rfl ?_
      refine e_iadd dX12_wasGone_47 ?_
      refine e_iald dX12_wasGone_48 (ar_66 hn) h.1 ?_
      replace h := h.2
      refine e_aload_n dX12_wasGone_49 rfl rfl ?_
      refine e_getR (y := 63) dX12_wasGone_50 fl_X12_95 (ob_11 hn) rfl rfl ?_
      refine e_iload_n dX12_wasGone_53 rfl rfl ?_
      refine e_iald dX12_wasGone_54 (ar_63 hn) h.1 ?_
      replace h := h.2
      refine e_icmp_ne (tgt := 62) dX12_wasGone_55 (by decide) (fun c4 => ?_) (fun c4 => ?_)
      · replace h := h.1 c4
        refine e_iconst dX12_wasGone_62 ci_0 ?_
        refine e_istore_n dX12_wasGone_63 rfl rfl (by decide) ?_
        refine e_iinc dX12_wasGone_64 rfl (ii_1 _) rfl (by decide) ?_
        refine e_goto (tgt := 26) dX12_wasGone_67 (by decide) ?_
        exact h
      · replace h := h.2 c4
        refine e_iconst dX12_wasGone_58 ci_1 ?_
        refine e_goto (tgt := 63) dX12_wasGone_59 (by decide) ?_
        refine e_istore_n dX12_wasGone_63 rfl rfl (by decide) ?_
        refine e_iinc dX12_wasGone_64 rfl (ii_1 _) rfl (by decide) ?_
        refine e_goto (tgt := 26) dX12_wasGone_67 (by decide) ?_
        exact h
theorem S_X12_wasGone {d n : Nat} {Q : Int32 → St → Prop} {σ : St}  (hn : FIX ≤ n) (hd : 1 ≤ d) (h : K_X12_wasGone_14 d n σ Q σ (mxI 0 (((gI σ 11 49) + 1) - 8))) : Cn d n M_X12_wasGone md_X12_wasGone [.ref 11] σ (liI Q) := by
  refine Cn.of (k0 := 3) (by decide) rfl ?_
  show Ev (d, n, md_X12_wasGone, σ, liI Q) M_X12_wasGone 0 [some (.ref 11), none, none, none] [] σ
  refine e_iconst dX12_wasGone_0 ci_0 ?_
  refine e_aload_n dX12_wasGone_1 rfl rfl ?_
  refine e_getI dX12_wasGone_2 fl_X12_370 (ob_11 hn) rfl ?_
  refine e_iconst dX12_wasGone_5 ci_1 ?_
  refine e_iadd dX12_wasGone_6 ?_
  refine e_bipush dX12_wasGone_7 cb_8 ?_
  refine e_isub dX12_wasGone_9 ?_
  refine e_mmax (st := []) dX12_wasGone_10 ml_X12_304 (Nat.le_of_ble_eq_true rfl) (show 0 < d by omega) ?_
  refine e_istore_n dX12_wasGone_13 rfl rfl (by decide) ?_
  exact h
abbrev K_X12_tries_2 (d n : Nat) (σ0 : St) (Q : St → Prop) (σ : St) (x1 : Int32) (x2 : Int32) : Prop := Ev (d, n, md_X12_tries, σ0, liV Q) M_X12_tries 2 [some (.ref 11), some (.int x1), some (.int x2)] [] σ
theorem B_X12_tries_2 {d n : Nat} {σ0 : St} {Q : St → Prop}  {σ : St} {x1 : Int32} {x2 : Int32} (hn : FIX ≤ n) (hd : 2 ≤ d) (h : (((10 : Int32) ≤ x2 → Q σ) ∧ (¬ (10 : Int32) ≤ x2 → vp_in x2 10 ∧ vp_in x2 10 ∧ ((x1 ≠ (gI (sI σ 63 x2.toNatClampNeg (gI σ 67 x2.toNatClampNeg)) 11 0) → ((x2 ≠ x1 → K_X12_tries_2 d n σ0 Q (sI σ 63 x2.toNatClampNeg (gI σ 67 x2.toNatClampNeg)) x1 (x2 + 1)) ∧ (x2 = x1 → vp_in x2 10 ∧ vp_in x2 10 ∧ (((gI (sI σ 63 x2.toNatClampNeg (gI σ 67 x2.toNatClampNeg)) 68 x2.toNatClampNeg) ≤ 0 → vp_in x2 10 ∧ K_X12_tries_2 d n σ0 Q (sI (sI σ 63 x2.toNatClampNeg (gI σ 67 x2.toNatClampNeg)) 63 x2.toNatClampNeg (fn_X12_held_ ((gI (sI σ 63 x2.toNatClampNeg (gI σ 67 x2.toNatClampNeg)) 67 x2.toNatClampNeg) + (-(gI (sI σ 63 x2.toNatClampNeg (gI σ 67 x2.toNatClampNeg)) 11 4))))) x1 (x2 + 1)) ∧ (¬ (gI (sI σ 63 x2.toNatClampNeg (gI σ 67 x2.toNatClampNeg)) 68 x2.toNatClampNeg) ≤ 0 → vp_in x2 10 ∧ K_X12_tries_2 d n σ0 Q (sI (sI σ 63 x2.toNatClampNeg (gI σ 67 x2.toNatClampNeg)) 63 x2.toNatClampNeg (fn_X12_held_ ((gI (sI σ 63 x2.toNatClampNeg (gI σ 67 x2.toNatClampNeg)) 67 x2.toNatClampNeg) + (gI (sI σ 63 x2.toNatClampNeg (gI σ 67 x2.toNatClampNeg)) 11 4)))) x1 (x2 + 1)))))) ∧ (x1 = (gI (sI σ 63 x2.toNatClampNeg (gI σ 67 x2.toNatClampNeg)) 11 0) → vp_in x2 10 ∧ vp_in x2 10 ∧ vp_in x2 10 ∧ K_X12_tries_2 d n σ0 Q (sI (sI σ 63 x2.toNatClampNeg (gI σ 67 x2.toNatClampNeg)) 63 x2.toNatClampNeg (fn_X12_held_ ((gI (sI σ 63 x2.toNatClampNeg (gI σ 67 x2.toNatClampNeg)) 67 x2.toNatClampNeg) + ((gI (sI σ 63 x2.toNatClampNeg (gI σ 67 x2.toNatClampNeg)) 68 x2.toNatClampNeg) * (gI (sI σ 63 x2.toNatClampNeg (gI σ 67 x2.toNatClampNeg)) 11 4))))) x1 (x2 + 1)))))) : K_X12_tries_2 d n σ0 Q σ x1 x2 := by
  refine e_iload_n dX12_tries_2 rfl rfl ?_
  refine e_bipush dX12_tries_3 cb_10 ?_
  refine e_icmp_ge (tgt := 106) dX12_tries_5 (by decide) (fun c1 => ?_) (fun c1 => ?_)
  · replace h := h.1 c1
    exact e_vret dX12_tries_106 rfl ⟨rfl, h⟩
  · replace h := h.2 c1
    refine e_aload_n dX12_tries_8 rfl rfl ?_
    refine e_getR (y := 63) dX12_tries_9 fl_X12_95 (ob_11 hn) rfl rfl ?_
    refine e_iload_n dX12_tries_12 rfl rfl ?_
    refine e_aload_n dX12_tries_13 rfl rfl ?_
    refine e_getR (y := 67) dX12_tries_14 fl_X12_107 (ob_11 hn) rfl rfl ?_
    refine e_iload_n dX12_tries_17 rfl rfl ?_
    refine e_iald dX12_tries_18 (ar_67 hn) h.1 ?_
    replace h := h.2
    refine e_iast dX12_tries_19 (ar_63 hn) h.1 (md_r (m := md_X12_tries) (by decide)) ?_
    replace h := h.2
    refine e_iload_n dX12_tries_20 rfl rfl ?_
    refine e_aload_n dX12_tries_21 rfl rfl ?_
    refine e_getI dX12_tries_22 fl_X12_131 (ob_11 hn) rfl ?_
    refine e_icmp_ne (tgt := 58) dX12_tries_25 (by decide) (fun c2 => ?_) (fun c2 => ?_)
    · replace h := h.1 c2
      refine e_iload_n dX12_tries_58 rfl rfl ?_
      refine e_iload_n dX12_tries_59 rfl rfl ?_
      refine e_icmp_ne (tgt := 100) dX12_tries_60 (by decide) (fun c3 => ?_) (fun c3 => ?_)
      · replace h := h.1 c3
        refine e_iinc dX12_tries_100 rfl (ii_1 _) rfl (by decide) ?_
        refine e_goto (tgt := 2) dX12_tries_103 (by decide) ?_
        exact h
      · replace h := h.2 c3
        refine e_aload_n dX12_tries_63 rfl rfl ?_
        refine e_getR (y := 63) dX12_tries_64 fl_X12_95 (ob_11 hn) rfl rfl ?_
        refine e_iload_n dX12_tries_67 rfl rfl ?_
        refine e_aload_n dX12_tries_68 rfl rfl ?_
        refine e_getR (y := 67) dX12_tries_69 fl_X12_107 (ob_11 hn) rfl rfl ?_
        refine e_iload_n dX12_tries_72 rfl rfl ?_
        refine e_iald dX12_tries_73 (ar_67 hn) h.1 ?_
        replace h := h.2
        refine e_aload_n dX12_tries_74 rfl rfl ?_
        refine e_getR (y := 68) dX12_tries_75 fl_X12_110 (ob_11 hn) rfl rfl ?_
        refine e_iload_n dX12_tries_78 rfl rfl ?_
        refine e_iald dX12_tries_79 (ar_68 hn) h.1 ?_
        replace h := h.2
        refine e_if_le (tgt := 90) dX12_tries_80 (by decide) (fun c4 => ?_) (fun c4 => ?_)
        · replace h := h.1 c4
          refine e_aload_n dX12_tries_90 rfl rfl ?_
          refine e_getI dX12_tries_91 fl_X12_13 (ob_11 hn) rfl ?_
          refine e_ineg dX12_tries_94 ?_
          refine e_iadd dX12_tries_95 ?_
          refine e_callS (M' := M_X12_held_) (as := [.int ((gI (sI σ 63 x2.toNatClampNeg (gI σ 67 x2.toNatClampNeg)) 67 x2.toNatClampNeg) + (-(gI (sI σ 63 x2.toNatClampNeg (gI σ 67 x2.toNatClampNeg)) 11 4)))]) (rest := [.int x2, .ref 63]) dX12_tries_96 ml_X12_373 mk_X12_held_ rfl (Nat.le_of_ble_eq_true rfl) (show 0 < d by omega) (sp_X12_held_ (show 1 ≤ d - 1 by omega)) Md_nil (fun v σv hq hf => ?_)
          obtain ⟨v, rfl, rfl, rfl⟩ := hq
          refine e_iast dX12_tries_99 (ar_63 hn) h.1 (md_r (m := md_X12_tries) (by decide)) ?_
          replace h := h.2
          refine e_iinc dX12_tries_100 rfl (ii_1 _) rfl (by decide) ?_
          refine e_goto (tgt := 2) dX12_tries_103 (by decide) ?_
          exact h
        · replace h := h.2 c4
          refine e_aload_n dX12_tries_83 rfl rfl ?_
          refine e_getI dX12_tries_84 fl_X12_13 (ob_11 hn) rfl ?_
          refine e_goto (tgt := 95) dX12_tries_87 (by decide) ?_
          refine e_iadd dX12_tries_95 ?_
          refine e_callS (M' := M_X12_held_) (as := [.int ((gI (sI σ 63 x2.toNatClampNeg (gI σ 67 x2.toNatClampNeg)) 67 x2.toNatClampNeg) + (gI (sI σ 63 x2.toNatClampNeg (gI σ 67 x2.toNatClampNeg)) 11 4))]) (rest := [.int x2, .ref 63]) dX12_tries_96 ml_X12_373 mk_X12_held_ rfl (Nat.le_of_ble_eq_true rfl) (show 0 < d by omega) (sp_X12_held_ (show 1 ≤ d - 1 by omega)) Md_nil (fun v σv hq hf => ?_)
          obtain ⟨v, rfl, rfl, rfl⟩ := hq
          refine e_iast dX12_tries_99 (ar_63 hn) h.1 (md_r (m := md_X12_tries) (by decide)) ?_
          replace h := h.2
          refine e_iinc dX12_tries_100 rfl (ii_1 _) rfl (by decide) ?_
          refine e_goto (tgt := 2) dX12_tries_103 (by decide) ?_
          exact h
    · replace h := h.2 c2
      refine e_aload_n dX12_tries_28 rfl rfl ?_
      refine e_getR (y := 63) dX12_tries_29 fl_X12_95 (ob_11 hn) rfl rfl ?_
      refine e_iload_n dX12_tries_32 rfl rfl ?_
      refine e_aload_n dX12_tries_33 rfl rfl ?_
      refine e_getR (y := 67) dX12_tries_34 fl_X12_107 (ob_11 hn) rfl rfl ?_
      refine e_iload_n dX12_tries_37 rfl rfl ?_
      refine e_iald dX12_tries_38 (ar_67 hn) h.1 ?_
      replace h := h.2
      refine e_aload_n dX12_tries_39 rfl rfl ?_
      refine e_getR (y := 68) dX12_tries_40 fl_X12_110 (ob_11 hn) rfl rfl ?_
      refine e_iload_n dX12_tries_43 rfl rfl ?_
      refine e_iald dX12_tries_44 (ar_68 hn) h.1 ?_
      replace h := h.2
      refine e_aload_n dX12_tries_45 rfl rfl ?_
      refine e_getI dX12_tries_46 fl_X12_13 (ob_11 hn) rfl ?_
      refine e_imul dX12_tries_49 ?_
      refine e_iadd dX12_tries_50 ?_
      refine e_callS (M' := M_X12_held_) (as := [.int ((gI (sI σ 63 x2.toNatClampNeg (gI σ 67 x2.toNatClampNeg)) 67 x2.toNatClampNeg) + ((gI (sI σ 63 x2.toNatClampNeg (gI σ 67 x2.toNatClampNeg)) 68 x2.toNatClampNeg) * (gI (sI σ 63 x2.toNatClampNeg (gI σ 67 x2.toNatClampNeg)) 11 4)))]) (rest := [.int x2, .ref 63]) dX12_tries_51 ml_X12_373 mk_X12_held_ rfl (Nat.le_of_ble_eq_true rfl) (show 0 < d by omega) (sp_X12_held_ (show 1 ≤ d - 1 by omega)) Md_nil (fun v σv hq hf => ?_)
      obtain ⟨v, rfl, rfl, rfl⟩ := hq
      refine e_iast dX12_tries_54 (ar_63 hn) h.1 (md_r (m := md_X12_tries) (by decide)) ?_
      replace h := h.2
      refine e_goto (tgt := 100) dX12_tries_55 (by decide) ?_
      refine e_iinc dX12_tries_100 rfl (ii_1 _) rfl (by decide) ?_
      refine e_goto (tgt := 2) dX12_tries_103 (by decide) ?_
      exact h
theorem S_X12_tries {d n : Nat} {Q : St → Prop} {σ : St} {a1 : Int32} (hn : FIX ≤ n) (hd : 2 ≤ d) (h : K_X12_tries_2 d n σ Q σ a1 0) : Cn d n M_X12_tries md_X12_tries [.ref 11, .int a1] σ (liV Q) := by
  refine Cn.of (k0 := 1) (by decide) rfl ?_
  show Ev (d, n, md_X12_tries, σ, liV Q) M_X12_tries 0 [some (.ref 11), some (.int a1), none] [] σ
  refine e_iconst dX12_tries_0 ci_0 ?_
  refine e_istore_n dX12_tries_1 rfl rfl (by decide) ?_
  exact h
abbrev K_X12_goesOn_6 (d n : Nat) (σ0 : St) (Q : Int32 → St → Prop) (σ : St) (x1 : Int32) (x2 : Int32) (x3 : Int32) : Prop := Ev (d, n, md_X12_goesOn, σ0, liI Q) M_X12_goesOn 6 [some (.ref 11), some (.int x1), some (.int x2), some (.int x3), none] [] σ
abbrev K_X12_goesOn_109 (d n : Nat) (σ0 : St) (Q : Int32 → St → Prop) (σ : St) (x2 : Int32) (x3 : Int32) : Prop := Ev (d, n, md_X12_goesOn, σ0, liI Q) M_X12_goesOn 109 [some (.ref 11), none, some (.int x2), some (.int x3), none] [] σ
abbrev K_X12_goesOn_179 (d n : Nat) (σ0 : St) (Q : Int32 → St → Prop) (σ : St) (x2 : Int32) (x3 : Int32) : Prop := Ev (d, n, md_X12_goesOn, σ0, liI Q) M_X12_goesOn 179 [some (.ref 11), none, some (.int x2), some (.int x3), none] [] σ
theorem B_X12_goesOn_6 {d n : Nat} {σ0 : St} {Q : Int32 → St → Prop}  {σ : St} {x1 : Int32} {x2 : Int32} {x3 : Int32} (hn : FIX ≤ n) (hd : 1 ≤ d) (h : (((gI σ 11 0) < x3 → ((x1 ≠ (-1) → ∃ Q3 : St → Prop, Cn (d - 1) n M_X12_tries md_X12_tries [.ref 11, .int x1] σ (liV Q3) ∧ ∀ (σ5 : St), Q3 σ5 → Fr md_X12_tries σ σ5 → ∃ Q9 : Int32 → St → Prop, Cn (d - 1) n M_X12_squares md_X12_squares [.ref 11] σ5 (liI Q9) ∧ ∀ (v12 : Int32) (σ11 : St), Q9 v12 σ11 → Fr md_X12_squares σ5 σ11 → K_X12_goesOn_109 d n σ0 Q (sI σ11 11 49 ((gI σ11 11 49) + 1)) x2 0) ∧ (x1 = (-1) → Q 0 σ))) ∧ (¬ (gI σ 11 0) < x3 → (((gI σ 11 0) ≤ x3 → ∃ Q16 : St → Prop, Cn (d - 1) n M_X12_tries md_X12_tries [.ref 11, .int x3] σ (liV Q16) ∧ ∀ (σ18 : St), Q16 σ18 → Fr md_X12_tries σ σ18 → ∃ Q22 : Int32 → St → Prop, Cn (d - 1) n M_X12_wasGone md_X12_wasGone [.ref 11] σ18 (liI Q22) ∧ ∀ (v25 : Int32) (σ24 : St), Q22 v25 σ24 → Fr md_X12_wasGone σ18 σ24 → ((v25 = 0 → ∃ Q29 : Int32 → St → Prop, Cn (d - 1) n M_X12_squares md_X12_squares [.ref 11] σ24 (liI Q29) ∧ ∀ (v32 : Int32) (σ31 : St), Q29 v32 σ31 → Fr md_X12_squares σ24 σ31 → ((x1 = (-1) → K_X12_goesOn_6 d n σ0 Q σ31 x3 v32 (x3 + 1)) ∧ (¬ x1 = (-1) → ((v32 < x2 → K_X12_goesOn_6 d n σ0 Q σ31 x3 v32 (x3 + 1)) ∧ (¬ v32 < x2 → K_X12_goesOn_6 d n σ0 Q σ31 x1 x2 (x3 + 1)))))) ∧ (¬ v25 = 0 → K_X12_goesOn_6 d n σ0 Q σ24 x1 x2 (x3 + 1)))) ∧ (¬ (gI σ 11 0) ≤ x3 → vp_in x3 10 ∧ (((gI σ 68 x3.toNatClampNeg) ≠ 0 → ∃ Q38 : St → Prop, Cn (d - 1) n M_X12_tries md_X12_tries [.ref 11, .int x3] σ (liV Q38) ∧ ∀ (σ40 : St), Q38 σ40 → Fr md_X12_tries σ σ40 → ∃ Q44 : Int32 → St → Prop, Cn (d - 1) n M_X12_wasGone md_X12_wasGone [.ref 11] σ40 (liI Q44) ∧ ∀ (v47 : Int32) (σ46 : St), Q44 v47 σ46 → Fr md_X12_wasGone σ40 σ46 → ((v47 = 0 → ∃ Q51 : Int32 → St → Prop, Cn (d - 1) n M_X12_squares md_X12_squares [.ref 11] σ46 (liI Q51) ∧ ∀ (v54 : Int32) (σ53 : St), Q51 v54 σ53 → Fr md_X12_squares σ46 σ53 → ((x1 = (-1) → K_X12_goesOn_6 d n σ0 Q σ53 x3 v54 (x3 + 1)) ∧ (¬ x1 = (-1) → ((v54 < x2 → K_X12_goesOn_6 d n σ0 Q σ53 x3 v54 (x3 + 1)) ∧ (¬ v54 < x2 → K_X12_goesOn_6 d n σ0 Q σ53 x1 x2 (x3 + 1)))))) ∧ (¬ v47 = 0 → K_X12_goesOn_6 d n σ0 Q σ46 x1 x2 (x3 + 1)))) ∧ ((gI σ 68 x3.toNatClampNeg) = 0 → K_X12_goesOn_6 d n σ0 Q σ x1 x2 (x3 + 1)))))))) : K_X12_goesOn_6 d n σ0 Q σ x1 x2 x3 := by
  refine e_iload_n dX12_goesOn_6 rfl rfl ?_
  refine e_aload_n dX12_goesOn_7 rfl rfl ?_
  refine e_getI dX12_goesOn_8 fl_X12_131 (ob_11 hn) rfl ?_
  refine e_icmp_gt (tgt := 80) dX12_goesOn_11 (by decide) (fun c1 => ?_) (fun c1 => ?_)
  · replace h := h.1 c1
    refine e_iload_n dX12_goesOn_80 rfl rfl ?_
    refine e_iconst dX12_goesOn_81 ci_m1 ?_
    refine e_icmp_ne (tgt := 87) dX12_goesOn_82 (by decide) (fun c2 => ?_) (fun c2 => ?_)
    · replace h := h.1 c2
      refine e_aload_n dX12_goesOn_87 rfl rfl ?_
      refine e_iload_n dX12_goesOn_88 rfl rfl ?_
      obtain ⟨Q3, hc4, h⟩ := h
      refine e_callV (M' := M_X12_tries) (as := [.int x1]) (rest := []) dX12_goesOn_89 ml_X12_381 mk_X12_tries (ob_11 hn) rfl rfl rfl (Nat.le_of_ble_eq_true rfl) (show 0 < d by omega) hc4 (Md_le (b := md_X12_goesOn) (by decide)) (fun v σ5 hq hf => ?_)
      obtain ⟨rfl, hq⟩ := hq
      replace h := h σ5 hq hf
      refine e_aload_n dX12_goesOn_92 rfl rfl ?_
      obtain ⟨Q9, hc10, h⟩ := h
      refine e_callV (M' := M_X12_squares) (as := []) (rest := []) dX12_goesOn_93 ml_X12_366 mk_X12_squares (ob_11 hn) rfl rfl rfl (Nat.le_of_ble_eq_true rfl) (show 0 < d by omega) hc10 (Md_le (b := md_X12_goesOn) (by decide)) (fun v σ11 hq hf => ?_)
      obtain ⟨v12, rfl, hq⟩ := hq
      replace h := h v12 σ11 hq hf
      refine e_pop dX12_goesOn_96 rfl ?_
      refine e_aload_n dX12_goesOn_97 rfl rfl ?_
      refine e_dup dX12_goesOn_98 rfl ?_
      refine e_getI dX12_goesOn_99 fl_X12_370 (ob_11 hn) rfl ?_
      refine e_iconst dX12_goesOn_102 ci_1 ?_
      refine e_iadd dX12_goesOn_103 ?_
      refine e_putI dX12_goesOn_104 fl_X12_370 (ob_11 hn) rfl (fpI_12_49 _) (md_c (m := md_X12_goesOn) (by decide)) ?_
      refine e_iconst dX12_goesOn_107 ci_0 ?_
      refine e_istore_n dX12_goesOn_108 rfl rfl (by decide) ?_
      refine e_kill [true, false, true, true, false] ?_
      exact h
    · replace h := h.2 c2
      refine e_iconst dX12_goesOn_85 ci_0 ?_
      exact e_zret dX12_goesOn_86 rfl (nar_z (Or.inl rfl)) ⟨_, rfl, h⟩
  · replace h := h.2 c1
    refine e_iload_n dX12_goesOn_14 rfl rfl ?_
    refine e_aload_n dX12_goesOn_15 rfl rfl ?_
    refine e_getI dX12_goesOn_16 fl_X12_131 (ob_11 hn) rfl ?_
    refine e_icmp_ge (tgt := 34) dX12_goesOn_19 (by decide) (fun c15 => ?_) (fun c15 => ?_)
    · replace h := h.1 c15
      refine e_aload_n dX12_goesOn_34 rfl rfl ?_
      refine e_iload_n dX12_goesOn_35 rfl rfl ?_
      obtain ⟨Q16, hc17, h⟩ := h
      refine e_callV (M' := M_X12_tries) (as := [.int x3]) (rest := []) dX12_goesOn_36 ml_X12_381 mk_X12_tries (ob_11 hn) rfl rfl rfl (Nat.le_of_ble_eq_true rfl) (show 0 < d by omega) hc17 (Md_le (b := md_X12_goesOn) (by decide)) (fun v σ18 hq hf => ?_)
      obtain ⟨rfl, hq⟩ := hq
      replace h := h σ18 hq hf
      refine e_aload_n dX12_goesOn_39 rfl rfl ?_
      obtain ⟨Q22, hc23, h⟩ := h
      refine e_callV (M' := M_X12_wasGone) (as := []) (rest := []) dX12_goesOn_40 ml_X12_384 mk_X12_wasGone (ob_11 hn) rfl rfl rfl (Nat.le_of_ble_eq_true rfl) (show 0 < d by omega) hc23 (Md_le (b := md_X12_goesOn) (by decide)) (fun v σ24 hq hf => ?_)
      obtain ⟨v25, rfl, hq⟩ := hq
      replace h := h v25 σ24 hq hf
      refine e_if_eq (tgt := 49) dX12_goesOn_43 (by decide) (fun c28 => ?_) (fun c28 => ?_)
      · replace h := h.1 c28
        refine e_aload_n dX12_goesOn_49 rfl rfl ?_
        obtain ⟨Q29, hc30, h⟩ := h
        refine e_callV (M' := M_X12_squares) (as := []) (rest := []) dX12_goesOn_50 ml_X12_366 mk_X12_squares (ob_11 hn) rfl rfl rfl (Nat.le_of_ble_eq_true rfl) (show 0 < d by omega) hc30 (Md_le (b := md_X12_goesOn) (by decide)) (fun v σ31 hq hf => ?_)
        obtain ⟨v32, rfl, hq⟩ := hq
        replace h := h v32 σ31 hq hf
        refine e_istore dX12_goesOn_53 rfl (by decide) ?_
        refine e_iload_n dX12_goesOn_55 rfl rfl ?_
        refine e_iconst dX12_goesOn_56 ci_m1 ?_
        refine e_icmp_eq (tgt := 69) dX12_goesOn_57 (by decide) (fun c35 => ?_) (fun c35 => ?_)
        · replace h := h.1 c35
          refine e_iload_n dX12_goesOn_69 rfl rfl ?_
          refine e_istore_n dX12_goesOn_70 rfl rfl (by decide) ?_
          refine e_iload dX12_goesOn_71 rfl ?_
          refine e_istore_n dX12_goesOn_73 rfl rfl (by decide) ?_
          refine e_iinc dX12_goesOn_74 rfl (ii_1 _) rfl (by decide) ?_
          refine e_goto (tgt := 6) dX12_goesOn_77 (by decide) ?_
          refine e_kill [true, true, true, true, false] ?_
          exact h
        · replace h := h.2 c35
          refine e_iload dX12_goesOn_60 rfl ?_
          refine e_iload_n dX12_goesOn_62 rfl rfl ?_
          refine e_icmp_lt (tgt := 69) dX12_goesOn_63 (by decide) (fun c36 => ?_) (fun c36 => ?_)
          · replace h := h.1 c36
            refine e_iload_n dX12_goesOn_69 rfl rfl ?_
            refine e_istore_n dX12_goesOn_70 rfl rfl (by decide) ?_
            refine e_iload dX12_goesOn_71 rfl ?_
            refine e_istore_n dX12_goesOn_73 rfl rfl (by decide) ?_
            refine e_iinc dX12_goesOn_74 rfl (ii_1 _) rfl (by decide) ?_
            refine e_goto (tgt := 6) dX12_goesOn_77 (by decide) ?_
            refine e_kill [true, true, true, true, false] ?_
            exact h
          · replace h := h.2 c36
            refine e_goto (tgt := 74) dX12_goesOn_66 (by decide) ?_
            refine e_iinc dX12_goesOn_74 rfl (ii_1 _) rfl (by decide) ?_
            refine e_goto (tgt := 6) dX12_goesOn_77 (by decide) ?_
            refine e_kill [true, true, true, true, false] ?_
            exact h
      · replace h := h.2 c28
        refine e_goto (tgt := 74) dX12_goesOn_46 (by decide) ?_
        refine e_iinc dX12_goesOn_74 rfl (ii_1 _) rfl (by decide) ?_
        refine e_goto (tgt := 6) dX12_goesOn_77 (by decide) ?_
        exact h
    · replace h := h.2 c15
      refine e_aload_n dX12_goesOn_22 rfl rfl ?_
      refine e_getR (y := 68) dX12_goesOn_23 fl_X12_110 (ob_11 hn) rfl rfl ?_
      refine e_iload_n dX12_goesOn_26 rfl rfl ?_
      refine e_iald dX12_goesOn_27 (ar_68 hn) h.1 ?_
      replace h := h.2
      refine e_if_ne (tgt := 34) dX12_goesOn_28 (by decide) (fun c37 => ?_) (fun c37 => ?_)
      · replace h := h.1 c37
        refine e_aload_n dX12_goesOn_34 rfl rfl ?_
        refine e_iload_n dX12_goesOn_35 rfl rfl ?_
        obtain ⟨Q38, hc39, h⟩ := h
        refine e_callV (M' := M_X12_tries) (as := [.int x3]) (rest := []) dX12_goesOn_36 ml_X12_381 mk_X12_tries (ob_11 hn) rfl rfl rfl (Nat.le_of_ble_eq_true rfl) (show 0 < d by omega) hc39 (Md_le (b := md_X12_goesOn) (by decide)) (fun v σ40 hq hf => ?_)
        obtain ⟨rfl, hq⟩ := hq
        replace h := h σ40 hq hf
        refine e_aload_n dX12_goesOn_39 rfl rfl ?_
        obtain ⟨Q44, hc45, h⟩ := h
        refine e_callV (M' := M_X12_wasGone) (as := []) (rest := []) dX12_goesOn_40 ml_X12_384 mk_X12_wasGone (ob_11 hn) rfl rfl rfl (Nat.le_of_ble_eq_true rfl) (show 0 < d by omega) hc45 (Md_le (b := md_X12_goesOn) (by decide)) (fun v σ46 hq hf => ?_)
        obtain ⟨v47, rfl, hq⟩ := hq
        replace h := h v47 σ46 hq hf
        refine e_if_eq (tgt := 49) dX12_goesOn_43 (by decide) (fun c50 => ?_) (fun c50 => ?_)
        · replace h := h.1 c50
          refine e_aload_n dX12_goesOn_49 rfl rfl ?_
          obtain ⟨Q51, hc52, h⟩ := h
          refine e_callV (M' := M_X12_squares) (as := []) (rest := []) dX12_goesOn_50 ml_X12_366 mk_X12_squares (ob_11 hn) rfl rfl rfl (Nat.le_of_ble_eq_true rfl) (show 0 < d by omega) hc52 (Md_le (b := md_X12_goesOn) (by decide)) (fun v σ53 hq hf => ?_)
          obtain ⟨v54, rfl, hq⟩ := hq
          replace h := h v54 σ53 hq hf
          refine e_istore dX12_goesOn_53 rfl (by decide) ?_
          refine e_iload_n dX12_goesOn_55 rfl rfl ?_
          refine e_iconst dX12_goesOn_56 ci_m1 ?_
          refine e_icmp_eq (tgt := 69) dX12_goesOn_57 (by decide) (fun c57 => ?_) (fun c57 => ?_)
          · replace h := h.1 c57
            refine e_iload_n dX12_goesOn_69 rfl rfl ?_
            refine e_istore_n dX12_goesOn_70 rfl rfl (by decide) ?_
            refine e_iload dX12_goesOn_71 rfl ?_
            refine e_istore_n dX12_goesOn_73 rfl rfl (by decide) ?_
            refine e_iinc dX12_goesOn_74 rfl (ii_1 _) rfl (by decide) ?_
            refine e_goto (tgt := 6) dX12_goesOn_77 (by decide) ?_
            refine e_kill [true, true, true, true, false] ?_
            exact h
          · replace h := h.2 c57
            refine e_iload dX12_goesOn_60 rfl ?_
            refine e_iload_n dX12_goesOn_62 rfl rfl ?_
            refine e_icmp_lt (tgt := 69) dX12_goesOn_63 (by decide) (fun c58 => ?_) (fun c58 => ?_)
            · replace h := h.1 c58
              refine e_iload_n dX12_goesOn_69 rfl rfl ?_
              refine e_istore_n dX12_goesOn_70 rfl rfl (by decide) ?_
              refine e_iload dX12_goesOn_71 rfl ?_
              refine e_istore_n dX12_goesOn_73 rfl rfl (by decide) ?_
              refine e_iinc dX12_goesOn_74 rfl (ii_1 _) rfl (by decide) ?_
              refine e_goto (tgt := 6) dX12_goesOn_77 (by decide) ?_
              refine e_kill [true, true, true, true, false] ?_
              exact h
            · replace h := h.2 c58
              refine e_goto (tgt := 74) dX12_goesOn_66 (by decide) ?_
              refine e_iinc dX12_goesOn_74 rfl (ii_1 _) rfl (by decide) ?_
              refine e_goto (tgt := 6) dX12_goesOn_77 (by decide) ?_
              refine e_kill [true, true, true, true, false] ?_
              exact h
        · replace h := h.2 c50
          refine e_goto (tgt := 74) dX12_goesOn_46 (by decide) ?_
          refine e_iinc dX12_goesOn_74 rfl (ii_1 _) rfl (by decide) ?_
          refine e_goto (tgt := 6) dX12_goesOn_77 (by decide) ?_
          exact h
      · replace h := h.2 c37
        refine e_goto (tgt := 74) dX12_goesOn_31 (by decide) ?_
        refine e_iinc dX12_goesOn_74 rfl (ii_1 _) rfl (by decide) ?_
        refine e_goto (tgt := 6) dX12_goesOn_77 (by decide) ?_
        exact h
theorem B_X12_goesOn_109 {d n : Nat} {σ0 : St} {Q : Int32 → St → Prop}  {σ : St} {x2 : Int32} {x3 : Int32} (hn : FIX ≤ n) (hd : 1 ≤ d) (h : (((10 : Int32) ≤ x3 → K_X12_goesOn_179 d n σ0 Q σ x2 0) ∧ (¬ (10 : Int32) ≤ x3 → vp_in x3 10 ∧ vp_in x3 10 ∧ vp_in x3 10 ∧ vp_in ((10 * (gI (sI σ 70 x3.toNatClampNeg (gI σ 63 x3.toNatClampNeg)) 11 49)) + x3) 610 ∧ (((gI (sI (sI σ 70 x3.toNatClampNeg (gI σ 63 x3.toNatClampNeg)) 66 ((10 * (gI (sI σ 70 x3.toNatClampNeg (gI σ 63 x3.toNatClampNeg)) 11 49)) + x3).toNatClampNeg (gI (sI σ 70 x3.toNatClampNeg (gI σ 63 x3.toNatClampNeg)) 63 x3.toNatClampNeg)) 11 0) ≤ x3 → vp_in x3 10 ∧ K_X12_goesOn_109 d n σ0 Q (sI (sI (sI σ 70 x3.toNatClampNeg (gI σ 63 x3.toNatClampNeg)) 66 ((10 * (gI (sI σ 70 x3.toNatClampNeg (gI σ 63 x3.toNatClampNeg)) 11 49)) + x3).toNatClampNeg (gI (sI σ 70 x3.toNatClampNeg (gI σ 63 x3.toNatClampNeg)) 63 x3.toNatClampNeg)) 68 x3.toNatClampNeg 0) x2 (x3 + 1)) ∧ (¬ (gI (sI (sI σ 70 x3.toNatClampNeg (gI σ 63 x3.toNatClampNeg)) 66 ((10 * (gI (sI σ 70 x3.toNatClampNeg (gI σ 63 x3.toNatClampNeg)) 11 49)) + x3).toNatClampNeg (gI (sI σ 70 x3.toNatClampNeg (gI σ 63 x3.toNatClampNeg)) 63 x3.toNatClampNeg)) 11 0) ≤ x3 → vp_in x3 10 ∧ vp_in x3 10 ∧ K_X12_goesOn_109 d n σ0 Q (sI (sI (sI σ 70 x3.toNatClampNeg (gI σ 63 x3.toNatClampNeg)) 66 ((10 * (gI (sI σ 70 x3.toNatClampNeg (gI σ 63 x3.toNatClampNeg)) 11 49)) + x3).toNatClampNeg (gI (sI σ 70 x3.toNatClampNeg (gI σ 63 x3.toNatClampNeg)) 63 x3.toNatClampNeg)) 68 x3.toNatClampNeg (gI (sI (sI σ 70 x3.toNatClampNeg (gI σ 63 x3.toNatClampNeg)) 66 ((10 * (gI (sI σ 70 x3.toNatClampNeg (gI σ 63 x3.toNatClampNeg)) 11 49)) + x3).toNatClampNeg (gI (sI σ 70 x3.toNatClampNeg (gI σ 63 x3.toNatClampNeg)) 63 x3.toNatClampNeg)) 65 x3.toNatClampNeg)) x2 (x3 + 1)))))) : K_X12_goesOn_109 d n σ0 Q σ x2 x3 := by
  refine e_iload_n dX12_goesOn_109 rfl rfl ?_
  refine e_bipush dX12_goesOn_110 cb_10 ?_
  refine e_icmp_ge (tgt := 177) dX12_goesOn_112 (by decide) (fun c1 => ?_) (fun c1 => ?_)
  · replace h := h.1 c1
    refine e_iconst dX12_goesOn_177 ci_0 ?_
    refine e_istore_n dX12_goesOn_178 rfl rfl (by decide) ?_
    exact h
  · replace h := h.2 c1
    refine e_aload_n dX12_goesOn_115 rfl rfl ?_
    refine e_getR (y := 70) dX12_goesOn_116 fl_X12_116 (ob_11 hn) rfl rfl ?_
    refine e_iload_n dX12_goesOn_119 rfl rfl ?_
    refine e_aload_n dX12_goesOn_120 rfl rfl ?_
    refine e_getR (y := 63) dX12_goesOn_121 fl_X12_95 (ob_11 hn) rfl rfl ?_
    refine e_iload_n dX12_goesOn_124 rfl rfl ?_
    refine e_iald dX12_goesOn_125 (ar_63 hn) h.1 ?_
    replace h := h.2
    refine e_iast dX12_goesOn_126 (ar_70 hn) h.1 (md_r (m := md_X12_goesOn) (by decide)) ?_
    replace h := h.2
    refine e_aload_n dX12_goesOn_127 rfl rfl ?_
    refine e_getR (y := 66) dX12_goesOn_128 fl_X12_104 (ob_11 hn) rfl rfl ?_
    refine e_bipush dX12_goesOn_131 cb_10 ?_
    refine e_aload_n dX12_goesOn_133 rfl rfl ?_
    refine e_getI dX12_goesOn_134 fl_X12_370 (ob_11 hn) rfl ?_
    refine e_imul dX12_goesOn_137 ?_
    refine e_iload_n dX12_goesOn_138 rfl rfl ?_
    refine e_iadd dX12_goesOn_139 ?_
    refine e_aload_n dX12_goesOn_140 rfl rfl ?_
    refine e_getR (y := 63) dX12_goesOn_141 fl_X12_95 (ob_11 hn) rfl rfl ?_
    refine e_iload_n dX12_goesOn_144 rfl rfl ?_
    refine e_iald dX12_goesOn_145 (ar_63 hn) h.1 ?_
    replace h := h.2
    refine e_iast dX12_goesOn_146 (ar_66 hn) h.1 (md_r (m := md_X12_goesOn) (by decide)) ?_
    replace h := h.2
    refine e_aload_n dX12_goesOn_147 rfl rfl ?_
    refine e_getR (y := 68) dX12_goesOn_148 fl_X12_110 (ob_11 hn) rfl rfl ?_
    refine e_iload_n dX12_goesOn_151 rfl rfl ?_
    refine e_iload_n dX12_goesOn_152 rfl rfl ?_
    refine e_aload_n dX12_goesOn_153 rfl rfl ?_
    refine e_getI dX12_goesOn_154 fl_X12_131 (ob_11 hn) rfl ?_
    refine e_icmp_ge (tgt := 169) dX12_goesOn_157 (by decide) (fun c2 => ?_) (fun c2 => ?_)
    · replace h := h.1 c2
      refine e_iconst dX12_goesOn_169 ci_0 ?_
      refine e_iast dX12_goesOn_170 (ar_68 hn) h.1 (md_r (m := md_X12_goesOn) (by decide)) ?_
      replace h := h.2
      refine e_iinc dX12_goesOn_171 rfl (ii_1 _) rfl (by decide) ?_
      refine e_goto (tgt := 109) dX12_goesOn_174 (by decide) ?_
      exact h
    · replace h := h.2 c2
      refine e_aload_n dX12_goesOn_160 rfl rfl ?_
      refine e_getR (y := 65) dX12_goesOn_161 fl_X12_101 (ob_11 hn) rfl rfl ?_
      refine e_iload_n dX12_goesOn_164 rfl rfl ?_
      refine e_iald dX12_goesOn_165 (ar_65 hn) h.1 ?_
      replace h := h.2
      refine e_goto (tgt := 170) dX12_goesOn_166 (by decide) ?_
      refine e_iast dX12_goesOn_170 (ar_68 hn) h.1 (md_r (m := md_X12_goesOn) (by decide)) ?_
      replace h := h.2
      refine e_iinc dX12_goesOn_171 rfl (ii_1 _) rfl (by decide) ?_
      refine e_goto (tgt := 109) dX12_goesOn_174 (by decide) ?_
      exact h
theorem B_X12_goesOn_179 {d n : Nat} {σ0 : St} {Q : Int32 → St → Prop}  {σ : St} {x2 : Int32} {x3 : Int32} (hn : FIX ≤ n) (hd : 1 ≤ d) (h : (((10 : Int32) ≤ x3 → Q 1 (sI σ 11 50 (mnI (gI σ 11 50) x2))) ∧ (¬ (10 : Int32) ≤ x3 → vp_in x3 10 ∧ vp_in x3 10 ∧ (((gI (sI σ 67 x3.toNatClampNeg (gI σ 70 x3.toNatClampNeg)) 11 50) ≤ x2 → K_X12_goesOn_179 d n σ0 Q (sI σ 67 x3.toNatClampNeg (gI σ 70 x3.toNatClampNeg)) x2 (x3 + 1)) ∧ (¬ (gI (sI σ 67 x3.toNatClampNeg (gI σ 70 x3.toNatClampNeg)) 11 50) ≤ x2 → vp_in x3 10 ∧ vp_in x3 10 ∧ K_X12_goesOn_179 d n σ0 Q (sI (sI σ 67 x3.toNatClampNeg (gI σ 70 x3.toNatClampNeg)) 69 x3.toNatClampNeg (gI (sI σ 67 x3.toNatClampNeg (gI σ 70 x3.toNatClampNeg)) 70 x3.toNatClampNeg)) x2 (x3 + 1)))))) : K_X12_goesOn_179 d n σ0 Q σ x2 x3 := by
  refine e_iload_n dX12_goesOn_179 rfl rfl ?_
  refine e_bipush dX12_goesOn_180 cb_10 ?_
  refine e_icmp_ge (tgt := 223) dX12_goesOn_182 (by decide) (fun c1 => ?_) (fun c1 => ?_)
  · replace h := h.1 c1
    refine e_aload_n dX12_goesOn_223 rfl rfl ?_
    refine e_aload_n dX12_goesOn_224 rfl rfl ?_
    refine e_getI dX12_goesOn_225 fl_X12_375 (ob_11 hn) rfl ?_
    refine e_iload_n dX12_goesOn_228 rfl rfl ?_
    refine e_mmin (st := [.ref 11]) dX12_goesOn_229 ml_X12_301 (Nat.le_of_ble_eq_true rfl) (show 0 < d by omega) ?_
    refine e_putI dX12_goesOn_232 fl_X12_375 (ob_11 hn) rfl (fpI_12_50 _) (md_c (m := md_X12_goesOn) (by decide)) ?_
    refine e_iconst dX12_goesOn_235 ci_1 ?_
    exact e_zret dX12_goesOn_236 rfl (nar_z (Or.inr rfl)) ⟨_, rfl, h⟩
  · replace h := h.2 c1
    refine e_aload_n dX12_goesOn_185 rfl rfl ?_
    refine e_getR (y := 67) dX12_goesOn_186 fl_X12_107 (ob_11 hn) rfl rfl ?_
    refine e_iload_n dX12_goesOn_189 rfl rfl ?_
    refine e_aload_n dX12_goesOn_190 rfl rfl ?_
    refine e_getR (y := 70) dX12_goesOn_191 fl_X12_116 (ob_11 hn) rfl rfl ?_
    refine e_iload_n dX12_goesOn_194 rfl rfl ?_
    refine e_iald dX12_goesOn_195 (ar_70 hn) h.1 ?_
    replace h := h.2
    refine e_iast dX12_goesOn_196 (ar_67 hn) h.1 (md_r (m := md_X12_goesOn) (by decide)) ?_
    replace h := h.2
    refine e_iload_n dX12_goesOn_197 rfl rfl ?_
    refine e_aload_n dX12_goesOn_198 rfl rfl ?_
    refine e_getI dX12_goesOn_199 fl_X12_375 (ob_11 hn) rfl ?_
    refine e_icmp_ge (tgt := 217) dX12_goesOn_202 (by decide) (fun c2 => ?_) (fun c2 => ?_)
    · replace h := h.1 c2
      refine e_iinc dX12_goesOn_217 rfl (ii_1 _) rfl (by decide) ?_
      refine e_goto (tgt := 179) dX12_goesOn_220 (by decide) ?_
      exact h
    · replace h := h.2 c2
      refine e_aload_n dX12_goesOn_205 rfl rfl ?_
      refine e_getR (y := 69) dX12_goesOn_206 fl_X12_113 (ob_11 hn) rfl rfl ?_
      refine e_iload_n dX12_goesOn_209 rfl rfl ?_
      refine e_aload_n dX12_goesOn_210 rfl rfl ?_
      refine e_getR (y := 70) dX12_goesOn_211 fl_X12_116 (ob_11 hn) rfl rfl ?_
      refine e_iload_n dX12_goesOn_214 rfl rfl ?_
      refine e_iald dX12_goesOn_215 (ar_70 hn) h.1 ?_
      replace h := h.2
      refine e_iast dX12_goesOn_216 (ar_69 hn) h.1 (md_r (m := md_X12_goesOn) (by decide)) ?_
      replace h := h.2
      refine e_iinc dX12_goesOn_217 rfl (ii_1 _) rfl (by decide) ?_
      refine e_goto (tgt := 179) dX12_goesOn_220 (by decide) ?_
      exact h
theorem S_X12_goesOn {d n : Nat} {Q : Int32 → St → Prop} {σ : St}  (hn : FIX ≤ n) (hd : 1 ≤ d) (h : K_X12_goesOn_6 d n σ Q σ (-1) 0 0) : Cn d n M_X12_goesOn md_X12_goesOn [.ref 11] σ (liI Q) := by
  refine Cn.of (k0 := 4) (by decide) rfl ?_
  show Ev (d, n, md_X12_goesOn, σ, liI Q) M_X12_goesOn 0 [some (.ref 11), none, none, none, none] [] σ
  refine e_iconst dX12_goesOn_0 ci_m1 ?_
  refine e_istore_n dX12_goesOn_1 rfl rfl (by decide) ?_
  refine e_iconst dX12_goesOn_2 ci_0 ?_
  refine e_istore_n dX12_goesOn_3 rfl rfl (by decide) ?_
  refine e_iconst dX12_goesOn_4 ci_0 ?_
  refine e_istore_n dX12_goesOn_5 rfl rfl (by decide) ?_
  exact h
abbrev K_X12_fits_19 (d n : Nat) (σ0 : St) (Q : St → Prop) (σ : St) (x1 : Int32) (x2 : Int32) : Prop := Ev (d, n, md_X12_fits, σ0, liV Q) M_X12_fits 19 [some (.ref 11), some (.int x1), some (.int x2)] [] σ
abbrev K_X12_fits_93 (d n : Nat) (σ0 : St) (Q : St → Prop) (σ : St) (x1 : Int32) (x2 : Int32) : Prop := Ev (d, n, md_X12_fits, σ0, liV Q) M_X12_fits 93 [some (.ref 11), some (.int x1), some (.int x2)] [] σ
theorem B_X12_fits_19 {d n : Nat} {σ0 : St} {Q : St → Prop}  {σ : St} {x1 : Int32} {x2 : Int32} (hn : FIX ≤ n) (hd : 1 ≤ d) (h : (((10 : Int32) ≤ x2 → K_X12_fits_93 d n σ0 Q σ x1 1) ∧ (¬ (10 : Int32) ≤ x2 → vp_in x2 10 ∧ vp_in x2 10 ∧ vp_in x2 10 ∧ vp_in x2 10 ∧ vp_in x2 10 ∧ vp_in x2 610 ∧ (((gI (sI (sI (sI σ 67 x2.toNatClampNeg (gI σ 63 x2.toNatClampNeg)) 69 x2.toNatClampNeg (gI (sI σ 67 x2.toNatClampNeg (gI σ 63 x2.toNatClampNeg)) 63 x2.toNatClampNeg)) 66 x2.toNatClampNeg (gI (sI (sI σ 67 x2.toNatClampNeg (gI σ 63 x2.toNatClampNeg)) 69 x2.toNatClampNeg (gI (sI σ 67 x2.toNatClampNeg (gI σ 63 x2.toNatClampNeg)) 63 x2.toNatClampNeg)) 63 x2.toNatClampNeg)) 11 0) ≤ x2 → vp_in x2 10 ∧ K_X12_fits_19 d n σ0 Q (sI (sI (sI (sI σ 67 x2.toNatClampNeg (gI σ 63 x2.toNatClampNeg)) 69 x2.toNatClampNeg (gI (sI σ 67 x2.toNatClampNeg (gI σ 63 x2.toNatClampNeg)) 63 x2.toNatClampNeg)) 66 x2.toNatClampNeg (gI (sI (sI σ 67 x2.toNatClampNeg (gI σ 63 x2.toNatClampNeg)) 69 x2.toNatClampNeg (gI (sI σ 67 x2.toNatClampNeg (gI σ 63 x2.toNatClampNeg)) 63 x2.toNatClampNeg)) 63 x2.toNatClampNeg)) 68 x2.toNatClampNeg 0) x1 (x2 + 1)) ∧ (¬ (gI (sI (sI (sI σ 67 x2.toNatClampNeg (gI σ 63 x2.toNatClampNeg)) 69 x2.toNatClampNeg (gI (sI σ 67 x2.toNatClampNeg (gI σ 63 x2.toNatClampNeg)) 63 x2.toNatClampNeg)) 66 x2.toNatClampNeg (gI (sI (sI σ 67 x2.toNatClampNeg (gI σ 63 x2.toNatClampNeg)) 69 x2.toNatClampNeg (gI (sI σ 67 x2.toNatClampNeg (gI σ 63 x2.toNatClampNeg)) 63 x2.toNatClampNeg)) 63 x2.toNatClampNeg)) 11 0) ≤ x2 → vp_in x2 10 ∧ vp_in x2 10 ∧ K_X12_fits_19 d n σ0 Q (sI (sI (sI (sI σ 67 x2.toNatClampNeg (gI σ 63 x2.toNatClampNeg)) 69 x2.toNatClampNeg (gI (sI σ 67 x2.toNatClampNeg (gI σ 63 x2.toNatClampNeg)) 63 x2.toNatClampNeg)) 66 x2.toNatClampNeg (gI (sI (sI σ 67 x2.toNatClampNeg (gI σ 63 x2.toNatClampNeg)) 69 x2.toNatClampNeg (gI (sI σ 67 x2.toNatClampNeg (gI σ 63 x2.toNatClampNeg)) 63 x2.toNatClampNeg)) 63 x2.toNatClampNeg)) 68 x2.toNatClampNeg (gI (sI (sI (sI σ 67 x2.toNatClampNeg (gI σ 63 x2.toNatClampNeg)) 69 x2.toNatClampNeg (gI (sI σ 67 x2.toNatClampNeg (gI σ 63 x2.toNatClampNeg)) 63 x2.toNatClampNeg)) 66 x2.toNatClampNeg (gI (sI (sI σ 67 x2.toNatClampNeg (gI σ 63 x2.toNatClampNeg)) 69 x2.toNatClampNeg (gI (sI σ 67 x2.toNatClampNeg (gI σ 63 x2.toNatClampNeg)) 63 x2.toNatClampNeg)) 63 x2.toNatClampNeg)) 65 x2.toNatClampNeg)) x1 (x2 + 1)))))) : K_X12_fits_19 d n σ0 Q σ x1 x2 := by
  refine e_iload_n dX12_fits_19 rfl rfl ?_
  refine e_bipush dX12_fits_20 cb_10 ?_
  refine e_icmp_ge (tgt := 91) dX12_fits_22 (by decide) (fun c1 => ?_) (fun c1 => ?_)
  · replace h := h.1 c1
    refine e_iconst dX12_fits_91 ci_1 ?_
    refine e_istore_n dX12_fits_92 rfl rfl (by decide) ?_
    exact h
  · replace h := h.2 c1
    refine e_aload_n dX12_fits_25 rfl rfl ?_
    refine e_getR (y := 67) dX12_fits_26 fl_X12_107 (ob_11 hn) rfl rfl ?_
    refine e_iload_n dX12_fits_29 rfl rfl ?_
    refine e_aload_n dX12_fits_30 rfl rfl ?_
    refine e_getR (y := 63) dX12_fits_31 fl_X12_95 (ob_11 hn) rfl rfl ?_
    refine e_iload_n dX12_fits_34 rfl rfl ?_
    refine e_iald dX12_fits_35 (ar_63 hn) h.1 ?_
    replace h := h.2
    refine e_iast dX12_fits_36 (ar_67 hn) h.1 (md_r (m := md_X12_fits) (by decide)) ?_
    replace h := h.2
    refine e_aload_n dX12_fits_37 rfl rfl ?_
    refine e_getR (y := 69) dX12_fits_38 fl_X12_113 (ob_11 hn) rfl rfl ?_
    refine e_iload_n dX12_fits_41 rfl rfl ?_
    refine e_aload_n dX12_fits_42 rfl rfl ?_
    refine e_getR (y := 63) dX12_fits_43 fl_X12_95 (ob_11 hn) rfl rfl ?_
    refine e_iload_n dX12_fits_46 rfl rfl ?_
    refine e_iald dX12_fits_47 (ar_63 hn) h.1 ?_
    replace h := h.2
    refine e_iast dX12_fits_48 (ar_69 hn) h.1 (md_r (m := md_X12_fits) (by decide)) ?_
    replace h := h.2
    refine e_aload_n dX12_fits_49 rfl rfl ?_
    refine e_getR (y := 66) dX12_fits_50 fl_X12_104 (ob_11 hn) rfl rfl ?_
    refine e_iload_n dX12_fits_53 rfl rfl ?_
    refine e_aload_n dX12_fits_54 rfl rfl ?_
    refine e_getR (y := 63) dX12_fits_55 fl_X12_95 (ob_11 hn) rfl rfl ?_
    refine e_iload_n dX12_fits_58 rfl rfl ?_
    refine e_iald dX12_fits_59 (ar_63 hn) h.1 ?_
    replace h := h.2
    refine e_iast dX12_fits_60 (ar_66 hn) h.1 (md_r (m := md_X12_fits) (by decide)) ?_
    replace h := h.2
    refine e_aload_n dX12_fits_61 rfl rfl ?_
    refine e_getR (y := 68) dX12_fits_62 fl_X12_110 (ob_11 hn) rfl rfl ?_
    refine e_iload_n dX12_fits_65 rfl rfl ?_
    refine e_iload_n dX12_fits_66 rfl rfl ?_
    refine e_aload_n dX12_fits_67 rfl rfl ?_
    refine e_getI dX12_fits_68 fl_X12_131 (ob_11 hn) rfl ?_
    refine e_icmp_ge (tgt := 83) dX12_fits_71 (by decide) (fun c2 => ?_) (fun c2 => ?_)
    · replace h := h.1 c2
      refine e_iconst dX12_fits_83 ci_0 ?_
      refine e_iast dX12_fits_84 (ar_68 hn) h.1 (md_r (m := md_X12_fits) (by decide)) ?_
      replace h := h.2
      refine e_iinc dX12_fits_85 rfl (ii_1 _) rfl (by decide) ?_
      refine e_goto (tgt := 19) dX12_fits_88 (by decide) ?_
      exact h
    · replace h := h.2 c2
      refine e_aload_n dX12_fits_74 rfl rfl ?_
      refine e_getR (y := 65) dX12_fits_75 fl_X12_101 (ob_11 hn) rfl rfl ?_
      refine e_iload_n dX12_fits_78 rfl rfl ?_
      refine e_iald dX12_fits_79 (ar_65 hn) h.1 ?_
      replace h := h.2
      refine e_goto (tgt := 84) dX12_fits_80 (by decide) ?_
      refine e_iast dX12_fits_84 (ar_68 hn) h.1 (md_r (m := md_X12_fits) (by decide)) ?_
      replace h := h.2
      refine e_iinc dX12_fits_85 rfl (ii_1 _) rfl (by decide) ?_
      refine e_goto (tgt := 19) dX12_fits_88 (by decide) ?_
      exact h
theorem B_X12_fits_93 {d n : Nat} {σ0 : St} {Q : St → Prop}  {σ : St} {x1 : Int32} {x2 : Int32} (hn : FIX ≤ n) (hd : 1 ≤ d) (h : ((x2 = 0 → Q σ) ∧ (¬ x2 = 0 → ((x1 ≤ (gI σ 11 49) → Q σ) ∧ (¬ x1 ≤ (gI σ 11 49) → ∃ Q3 : Int32 → St → Prop, Cn (d - 1) n M_X12_goesOn md_X12_goesOn [.ref 11] σ (liI Q3) ∧ ∀ (v6 : Int32) (σ5 : St), Q3 v6 σ5 → Fr md_X12_goesOn σ σ5 → K_X12_fits_93 d n σ0 Q σ5 x1 v6))))) : K_X12_fits_93 d n σ0 Q σ x1 x2 := by
  refine e_iload_n dX12_fits_93 rfl rfl ?_
  refine e_if_eq (tgt := 113) dX12_fits_94 (by decide) (fun c1 => ?_) (fun c1 => ?_)
  · replace h := h.1 c1
    exact e_vret dX12_fits_113 rfl ⟨rfl, h⟩
  · replace h := h.2 c1
    refine e_aload_n dX12_fits_97 rfl rfl ?_
    refine e_getI dX12_fits_98 fl_X12_370 (ob_11 hn) rfl ?_
    refine e_iload_n dX12_fits_101 rfl rfl ?_
    refine e_icmp_ge (tgt := 113) dX12_fits_102 (by decide) (fun c2 => ?_) (fun c2 => ?_)
    · replace h := h.1 c2
      exact e_vret dX12_fits_113 rfl ⟨rfl, h⟩
    · replace h := h.2 c2
      refine e_aload_n dX12_fits_105 rfl rfl ?_
      obtain ⟨Q3, hc4, h⟩ := h
      refine e_callV (M' := M_X12_goesOn) (as := []) (rest := []) dX12_fits_106 ml_X12_378 mk_X12_goesOn (ob_11 hn) rfl rfl rfl (Nat.le_of_ble_eq_true rfl) (show 0 < d by omega) hc4 (Md_le (b := md_X12_fits) (by decide)) (fun v σ5 hq hf => ?_)
      obtain ⟨v6, rfl, hq⟩ := hq
      replace h := h v6 σ5 hq hf
      refine e_istore_n dX12_fits_109 rfl rfl (by decide) ?_
      refine e_goto (tgt := 93) dX12_fits_110 (by decide) ?_
      exact h
theorem S_X12_fits {d n : Nat} {Q : St → Prop} {σ : St} {a1 : Int32} (hn : FIX ≤ n) (hd : 1 ≤ d) (h : ∃ Q1 : St → Prop, Cn (d - 1) n M_X12_told md_X12_told [.ref 11] σ (liV Q1) ∧ ∀ (σ3 : St), Q1 σ3 → Fr md_X12_told σ σ3 → ∃ Q7 : Int32 → St → Prop, Cn (d - 1) n M_X12_squares md_X12_squares [.ref 11] (sI σ3 11 49 0) (liI Q7) ∧ ∀ (v10 : Int32) (σ9 : St), Q7 v10 σ9 → Fr md_X12_squares (sI σ3 11 49 0) σ9 → K_X12_fits_19 d n σ Q (sI σ9 11 50 v10) a1 0) : Cn d n M_X12_fits md_X12_fits [.ref 11, .int a1] σ (liV Q) := by
  refine Cn.of (k0 := 1) (by decide) rfl ?_
  show Ev (d, n, md_X12_fits, σ, liV Q) M_X12_fits 0 [some (.ref 11), some (.int a1), none] [] σ
  refine e_aload_n dX12_fits_0 rfl rfl ?_
  obtain ⟨Q1, hc2, h⟩ := h
  refine e_callV (M' := M_X12_told) (as := []) (rest := []) dX12_fits_1 ml_X12_360 mk_X12_told (ob_11 hn) rfl rfl rfl (Nat.le_of_ble_eq_true rfl) (show 0 < d by omega) hc2 (Md_le (b := md_X12_fits) (by decide)) (fun v σ3 hq hf => ?_)
  obtain ⟨rfl, hq⟩ := hq
  replace h := h σ3 hq hf
  refine e_aload_n dX12_fits_4 rfl rfl ?_
  refine e_iconst dX12_fits_5 ci_0 ?_
  refine e_putI dX12_fits_6 fl_X12_370 (ob_11 hn) rfl (fpI_12_49 _) (md_c (m := md_X12_fits) (by decide)) ?_
  refine e_aload_n dX12_fits_9 rfl rfl ?_
  refine e_aload_n dX12_fits_10 rfl rfl ?_
  obtain ⟨Q7, hc8, h⟩ := h
  refine e_callV (M' := M_X12_squares) (as := []) (rest := [.ref 11]) dX12_fits_11 ml_X12_366 mk_X12_squares (ob_11 hn) rfl rfl rfl (Nat.le_of_ble_eq_true rfl) (show 0 < d by omega) hc8 (Md_le (b := md_X12_fits) (by decide)) (fun v σ9 hq hf => ?_)
  obtain ⟨v10, rfl, hq⟩ := hq
  replace h := h v10 σ9 hq hf
  refine e_putI dX12_fits_14 fl_X12_375 (ob_11 hn) rfl (fpI_12_50 _) (md_c (m := md_X12_fits) (by decide)) ?_
  refine e_iconst dX12_fits_17 ci_0 ?_
  refine e_istore_n dX12_fits_18 rfl rfl (by decide) ?_
  exact h
theorem S_X12_fit {d n : Nat} {Q : Int32 → St → Prop} {σ : St} {a1 : Int32} {a2 : Int32} (hn : FIX ≤ n) (hd : 1 ≤ d) (h : (((fn_X12_isIn a1 1 60) = 0 → Q (-1) σ) ∧ (¬ (fn_X12_isIn a1 1 60) = 0 → (((fn_X12_isIn a2 0 1) ≠ 0 → ∃ Q3 : St → Prop, Cn (d - 1) n M_X12_fits md_X12_fits [.ref 11, .int a1] σ (liV Q3) ∧ ∀ (σ5 : St), Q3 σ5 → Fr md_X12_fits σ σ5 → ((a2 ≠ 0 → ((a2 ≠ 1 → vp_in (a2 - 10) 10 ∧ Q (gI σ5 69 (a2 - 10).toNatClampNeg) σ5) ∧ (a2 = 1 → Q (gI σ5 11 49) σ5))) ∧ (a2 = 0 → Q (gI σ5 11 50) σ5))) ∧ ((fn_X12_isIn a2 0 1) = 0 → (((fn_X12_isIn a2 10 (9 + (gI σ 11 0))) ≠ 0 → ∃ Q12 : St → Prop, Cn (d - 1) n M_X12_fits md_X12_fits [.ref 11, .int a1] σ (liV Q12) ∧ ∀ (σ14 : St), Q12 σ14 → Fr md_X12_fits σ σ14 → ((a2 ≠ 0 → ((a2 ≠ 1 → vp_in (a2 - 10) 10 ∧ Q (gI σ14 69 (a2 - 10).toNatClampNeg) σ14) ∧ (a2 = 1 → Q (gI σ14 11 49) σ14))) ∧ (a2 = 0 → Q (gI σ14 11 50) σ14))) ∧ ((fn_X12_isIn a2 10 (9 + (gI σ 11 0))) = 0 → Q (-1) σ))))))) : Cn d n M_X12_fit md_X12_fit [.ref 11, .int a1, .int a2] σ (liI Q) := by
  refine Cn.of (k0 := 0) (by decide) rfl ?_
  show Ev (d, n, md_X12_fit, σ, liI Q) M_X12_fit 0 [some (.ref 11), some (.int a1), some (.int a2)] [] σ
  refine e_iload_n dX12_fit_0 rfl rfl ?_
  refine e_iconst dX12_fit_1 ci_1 ?_
  refine e_bipush dX12_fit_2 cb_60 ?_
  refine e_callS (M' := M_X12_isIn) (as := [.int a1, .int 1, .int 60]) (rest := []) dX12_fit_4 ml_X12_134 mk_X12_isIn rfl (Nat.le_of_ble_eq_true rfl) (show 0 < d by omega) (sp_X12_isIn) Md_nil (fun v σv hq hf => ?_)
  obtain ⟨v, rfl, rfl, rfl⟩ := hq
  refine e_if_eq (tgt := 35) dX12_fit_7 (by decide) (fun c1 => ?_) (fun c1 => ?_)
  · replace h := h.1 c1
    refine e_iconst dX12_fit_35 ci_m1 ?_
    exact e_iret dX12_fit_36 rfl ⟨_, rfl, h⟩
  · replace h := h.2 c1
    refine e_iload_n dX12_fit_10 rfl rfl ?_
    refine e_iconst dX12_fit_11 ci_0 ?_
    refine e_iconst dX12_fit_12 ci_1 ?_
    refine e_callS (M' := M_X12_isIn) (as := [.int a2, .int 0, .int 1]) (rest := []) dX12_fit_13 ml_X12_134 mk_X12_isIn rfl (Nat.le_of_ble_eq_true rfl) (show 0 < d by omega) (sp_X12_isIn) Md_nil (fun v σv hq hf => ?_)
    obtain ⟨v, rfl, rfl, rfl⟩ := hq
    refine e_if_ne (tgt := 37) dX12_fit_16 (by decide) (fun c2 => ?_) (fun c2 => ?_)
    · replace h := h.1 c2
      refine e_aload_n dX12_fit_37 rfl rfl ?_
      refine e_iload_n dX12_fit_38 rfl rfl ?_
      obtain ⟨Q3, hc4, h⟩ := h
      refine e_callV (M' := M_X12_fits) (as := [.int a1]) (rest := []) dX12_fit_39 ml_X12_387 mk_X12_fits (ob_11 hn) rfl rfl rfl (Nat.le_of_ble_eq_true rfl) (show 0 < d by omega) hc4 (Md_le (b := md_X12_fit) (by decide)) (fun v σ5 hq hf => ?_)
      obtain ⟨rfl, hq⟩ := hq
      replace h := h σ5 hq hf
      refine e_iload_n dX12_fit_42 rfl rfl ?_
      refine e_if_ne (tgt := 53) dX12_fit_43 (by decide) (fun c9 => ?_) (fun c9 => ?_)
      · replace h := h.1 c9
        refine e_iload_n dX12_fit_53 rfl rfl ?_
        refine e_iconst dX12_fit_54 ci_1 ?_
        refine e_icmp_ne (tgt := 65) dX12_fit_55 (by decide) (fun c10 => ?_) (fun c10 => ?_)
        · replace h := h.1 c10
          refine e_aload_n dX12_fit_65 rfl rfl ?_
          refine e_getR (y := 69) dX12_fit_66 fl_X12_113 (ob_11 hn) rfl rfl ?_
          refine e_iload_n dX12_fit_69 rfl rfl ?_
          refine e_bipush dX12_fit_70 cb_10 ?_
          refine e_isub dX12_fit_72 ?_
          refine e_iald dX12_fit_73 (ar_69 hn) h.1 ?_
          replace h := h.2
          exact e_iret dX12_fit_74 rfl ⟨_, rfl, h⟩
        · replace h := h.2 c10
          refine e_aload_n dX12_fit_58 rfl rfl ?_
          refine e_getI dX12_fit_59 fl_X12_370 (ob_11 hn) rfl ?_
          refine e_goto (tgt := 74) dX12_fit_62 (by decide) ?_
          exact e_iret dX12_fit_74 rfl ⟨_, rfl, h⟩
      · replace h := h.2 c9
        refine e_aload_n dX12_fit_46 rfl rfl ?_
        refine e_getI dX12_fit_47 fl_X12_375 (ob_11 hn) rfl ?_
        refine e_goto (tgt := 74) dX12_fit_50 (by decide) ?_
        exact e_iret dX12_fit_74 rfl ⟨_, rfl, h⟩
    · replace h := h.2 c2
      refine e_iload_n dX12_fit_19 rfl rfl ?_
      refine e_bipush dX12_fit_20 cb_10 ?_
      refine e_bipush dX12_fit_22 cb_9 ?_
      refine e_aload_n dX12_fit_24 rfl rfl ?_
      refine e_getI dX12_fit_25 fl_X12_131 (ob_11 hn) rfl ?_
      refine e_iadd dX12_fit_28 ?_
      refine e_callS (M' := M_X12_isIn) (as := [.int a2, .int 10, .int (9 + (gI σ 11 0))]) (rest := []) dX12_fit_29 ml_X12_134 mk_X12_isIn rfl (Nat.le_of_ble_eq_true rfl) (show 0 < d by omega) (sp_X12_isIn) Md_nil (fun v σv hq hf => ?_)
      obtain ⟨v, rfl, rfl, rfl⟩ := hq
      refine e_if_ne (tgt := 37) dX12_fit_32 (by decide) (fun c11 => ?_) (fun c11 => ?_)
      · replace h := h.1 c11
        refine e_aload_n dX12_fit_37 rfl rfl ?_
        refine e_iload_n dX12_fit_38 rfl rfl ?_
        obtain ⟨Q12, hc13, h⟩ := h
        refine e_callV (M' := M_X12_fits) (as := [.int a1]) (rest := []) dX12_fit_39 ml_X12_387 mk_X12_fits (ob_11 hn) rfl rfl rfl (Nat.le_of_ble_eq_true rfl) (show 0 < d by omega) hc13 (Md_le (b := md_X12_fit) (by decide)) (fun v σ14 hq hf => ?_)
        obtain ⟨rfl, hq⟩ := hq
        replace h := h σ14 hq hf
        refine e_iload_n dX12_fit_42 rfl rfl ?_
        refine e_if_ne (tgt := 53) dX12_fit_43 (by decide) (fun c18 => ?_) (fun c18 => ?_)
        · replace h := h.1 c18
          refine e_iload_n dX12_fit_53 rfl rfl ?_
          refine e_iconst dX12_fit_54 ci_1 ?_
          refine e_icmp_ne (tgt := 65) dX12_fit_55 (by decide) (fun c19 => ?_) (fun c19 => ?_)
          · replace h := h.1 c19
            refine e_aload_n dX12_fit_65 rfl rfl ?_
            refine e_getR (y := 69) dX12_fit_66 fl_X12_113 (ob_11 hn) rfl rfl ?_
            refine e_iload_n dX12_fit_69 rfl rfl ?_
            refine e_bipush dX12_fit_70 cb_10 ?_
            refine e_isub dX12_fit_72 ?_
            refine e_iald dX12_fit_73 (ar_69 hn) h.1 ?_
            replace h := h.2
            exact e_iret dX12_fit_74 rfl ⟨_, rfl, h⟩
          · replace h := h.2 c19
            refine e_aload_n dX12_fit_58 rfl rfl ?_
            refine e_getI dX12_fit_59 fl_X12_370 (ob_11 hn) rfl ?_
            refine e_goto (tgt := 74) dX12_fit_62 (by decide) ?_
            exact e_iret dX12_fit_74 rfl ⟨_, rfl, h⟩
        · replace h := h.2 c18
          refine e_aload_n dX12_fit_46 rfl rfl ?_
          refine e_getI dX12_fit_47 fl_X12_375 (ob_11 hn) rfl ?_
          refine e_goto (tgt := 74) dX12_fit_50 (by decide) ?_
          exact e_iret dX12_fit_74 rfl ⟨_, rfl, h⟩
      · replace h := h.2 c11
        refine e_iconst dX12_fit_35 ci_m1 ?_
        exact e_iret dX12_fit_36 rfl ⟨_, rfl, h⟩
abbrev K_X12_settle_19 (d n : Nat) (σ0 : St) (Q : Int32 → St → Prop) (σ : St) (x2 : Int32) : Prop := Ev (d, n, md_X12_settle, σ0, liI Q) M_X12_settle 19 [some (.ref 11), none, some (.int x2)] [] σ
theorem B_X12_settle_19 {d n : Nat} {σ0 : St} {Q : Int32 → St → Prop}  {σ : St} {x2 : Int32} (hn : FIX ≤ n) (hd : 1 ≤ d) (h : (((gI σ 11 0) ≤ x2 → Q 1 σ) ∧ (¬ (gI σ 11 0) ≤ x2 → vp_in x2 10 ∧ vp_in x2 10 ∧ K_X12_settle_19 d n σ0 Q (sI σ 44 x2.toNatClampNeg (gI σ 69 x2.toNatClampNeg)) (x2 + 1)))) : K_X12_settle_19 d n σ0 Q σ x2 := by
  refine e_iload_n dX12_settle_19 rfl rfl ?_
  refine e_aload_n dX12_settle_20 rfl rfl ?_
  refine e_getI dX12_settle_21 fl_X12_131 (ob_11 hn) rfl ?_
  refine e_icmp_ge (tgt := 45) dX12_settle_24 (by decide) (fun c1 => ?_) (fun c1 => ?_)
  · replace h := h.1 c1
    refine e_iconst dX12_settle_45 ci_1 ?_
    exact e_zret dX12_settle_46 rfl (nar_z (Or.inr rfl)) ⟨_, rfl, h⟩
  · replace h := h.2 c1
    refine e_aload_n dX12_settle_27 rfl rfl ?_
    refine e_getR (y := 44) dX12_settle_28 fl_X12_26 (ob_11 hn) rfl rfl ?_
    refine e_iload_n dX12_settle_31 rfl rfl ?_
    refine e_aload_n dX12_settle_32 rfl rfl ?_
    refine e_getR (y := 69) dX12_settle_33 fl_X12_113 (ob_11 hn) rfl rfl ?_
    refine e_iload_n dX12_settle_36 rfl rfl ?_
    refine e_iald dX12_settle_37 (ar_69 hn) h.1 ?_
    replace h := h.2
    refine e_iast dX12_settle_38 (ar_44 hn) h.1 (md_r (m := md_X12_settle) (by decide)) ?_
    replace h := h.2
    refine e_iinc dX12_settle_39 rfl (ii_1 _) rfl (by decide) ?_
    refine e_goto (tgt := 19) dX12_settle_42 (by decide) ?_
    exact h
theorem S_X12_settle {d n : Nat} {Q : Int32 → St → Prop} {σ : St} {a1 : Int32} (hn : FIX ≤ n) (hd : 1 ≤ d) (h : (((fn_X12_isIn a1 1 60) ≠ 0 → ∃ Q2 : St → Prop, Cn (d - 1) n M_X12_fits md_X12_fits [.ref 11, .int a1] σ (liV Q2) ∧ ∀ (σ4 : St), Q2 σ4 → Fr md_X12_fits σ σ4 → K_X12_settle_19 d n σ Q σ4 0) ∧ ((fn_X12_isIn a1 1 60) = 0 → Q 0 σ))) : Cn d n M_X12_settle md_X12_settle [.ref 11, .int a1] σ (liI Q) := by
  refine Cn.of (k0 := 1) (by decide) rfl ?_
  show Ev (d, n, md_X12_settle, σ, liI Q) M_X12_settle 0 [some (.ref 11), some (.int a1), none] [] σ
  refine e_iload_n dX12_settle_0 rfl rfl ?_
  refine e_iconst dX12_settle_1 ci_1 ?_
  refine e_bipush dX12_settle_2 cb_60 ?_
  refine e_callS (M' := M_X12_isIn) (as := [.int a1, .int 1, .int 60]) (rest := []) dX12_settle_4 ml_X12_134 mk_X12_isIn rfl (Nat.le_of_ble_eq_true rfl) (show 0 < d by omega) (sp_X12_isIn) Md_nil (fun v σv hq hf => ?_)
  obtain ⟨v, rfl, rfl, rfl⟩ := hq
  refine e_if_ne (tgt := 12) dX12_settle_7 (by decide) (fun c1 => ?_) (fun c1 => ?_)
  · replace h := h.1 c1
    refine e_aload_n dX12_settle_12 rfl rfl ?_
    refine e_iload_n dX12_settle_13 rfl rfl ?_
    obtain ⟨Q2, hc3, h⟩ := h
    refine e_callV (M' := M_X12_fits) (as := [.int a1]) (rest := []) dX12_settle_14 ml_X12_387 mk_X12_fits (ob_11 hn) rfl rfl rfl (Nat.le_of_ble_eq_true rfl) (show 0 < d by omega) hc3 (Md_le (b := md_X12_settle) (by decide)) (fun v σ4 hq hf => ?_)
    obtain ⟨rfl, hq⟩ := hq
    replace h := h σ4 hq hf
    refine e_iconst dX12_settle_17 ci_0 ?_
    refine e_istore_n dX12_settle_18 rfl rfl (by decide) ?_
    refine e_kill [true, false, true] ?_
    exact h
  · replace h := h.2 c1
    refine e_iconst dX12_settle_10 ci_0 ?_
    exact e_zret dX12_settle_11 rfl (nar_z (Or.inl rfl)) ⟨_, rfl, h⟩
abbrev K_X12_must_47 (d n : Nat) (σ0 : St) (Q : Int32 → St → Prop) (σ : St) (x1 : Int32) (x2 : Int32) (x3 : Int32) (x4 : Int32) : Prop := Ev (d, n, md_X12_must, σ0, liI Q) M_X12_must 47 [some (.ref 11), some (.int x1), some (.int x2), some (.int x3), some (.int x4), none, none, none] [] σ
abbrev K_X12_must_72 (d n : Nat) (σ0 : St) (Q : Int32 → St → Prop) (σ : St) (x1 : Int32) (x2 : Int32) (x3 : Int32) (x4 : Int32) (x5 : Int32) : Prop := Ev (d, n, md_X12_must, σ0, liI Q) M_X12_must 72 [some (.ref 11), some (.int x1), some (.int x2), some (.int x3), some (.int x4), some (.int x5), none, none] [] σ
abbrev K_X12_must_85 (d n : Nat) (σ0 : St) (Q : Int32 → St → Prop) (σ : St) (x1 : Int32) (x2 : Int32) (x3 : Int32) (x4 : Int32) (x5 : Int32) (x6 : Int32) (x7 : Int32) : Prop := Ev (d, n, md_X12_must, σ0, liI Q) M_X12_must 85 [some (.ref 11), some (.int x1), some (.int x2), some (.int x3), some (.int x4), some (.int x5), some (.int x6), some (.int x7)] [] σ
theorem B_X12_must_47 {d n : Nat} {σ0 : St} {Q : Int32 → St → Prop}  {σ : St} {x1 : Int32} {x2 : Int32} {x3 : Int32} {x4 : Int32} (hn : FIX ≤ n) (hd : 1 ≤ d) (h : (((gI σ 11 0) ≤ x4 → K_X12_must_72 d n σ0 Q σ x1 x2 x3 (-1) 0) ∧ (¬ (gI σ 11 0) ≤ x4 → K_X12_must_47 d n σ0 Q σ x1 x2 (x3 * x2) (x4 + 1)))) : K_X12_must_47 d n σ0 Q σ x1 x2 x3 x4 := by
  refine e_iload dX12_must_47 rfl ?_
  refine e_aload_n dX12_must_49 rfl rfl ?_
  refine e_getI dX12_must_50 fl_X12_131 (ob_11 hn) rfl ?_
  refine e_icmp_ge (tgt := 66) dX12_must_53 (by decide) (fun c1 => ?_) (fun c1 => ?_)
  · replace h := h.1 c1
    refine e_iconst dX12_must_66 ci_m1 ?_
    refine e_istore dX12_must_67 rfl (by decide) ?_
    refine e_iconst dX12_must_69 ci_0 ?_
    refine e_istore dX12_must_70 rfl (by decide) ?_
    exact h
  · replace h := h.2 c1
    refine e_iload_n dX12_must_56 rfl rfl ?_
    refine e_iload_n dX12_must_57 rfl rfl ?_
    refine e_imul dX12_must_58 ?_
    refine e_istore_n dX12_must_59 rfl rfl (by decide) ?_
    refine e_iinc dX12_must_60 rfl (ii_1 _) rfl (by decide) ?_
    refine e_goto (tgt := 47) dX12_must_63 (by decide) ?_
    exact h
theorem B_X12_must_72 {d n : Nat} {σ0 : St} {Q : Int32 → St → Prop}  {σ : St} {x1 : Int32} {x2 : Int32} {x3 : Int32} {x4 : Int32} {x5 : Int32} (hn : FIX ≤ n) (hd : 1 ≤ d) (h : ((x3 ≤ x5 → Q x4 σ) ∧ (¬ x3 ≤ x5 → K_X12_must_85 d n σ0 Q σ x1 x2 x3 x4 x5 x5 0))) : K_X12_must_72 d n σ0 Q σ x1 x2 x3 x4 x5 := by
  refine e_iload dX12_must_72 rfl ?_
  refine e_iload_n dX12_must_74 rfl rfl ?_
  refine e_icmp_ge (tgt := 148) dX12_must_75 (by decide) (fun c1 => ?_) (fun c1 => ?_)
  · replace h := h.1 c1
    refine e_iload dX12_must_148 rfl ?_
    exact e_iret dX12_must_150 rfl ⟨_, rfl, h⟩
  · replace h := h.2 c1
    refine e_iload dX12_must_78 rfl ?_
    refine e_istore dX12_must_80 rfl (by decide) ?_
    refine e_iconst dX12_must_82 ci_0 ?_
    refine e_istore dX12_must_83 rfl (by decide) ?_
    exact h
theorem B_X12_must_85 {d n : Nat} {σ0 : St} {Q : Int32 → St → Prop}  {σ : St} {x1 : Int32} {x2 : Int32} {x3 : Int32} {x4 : Int32} {x5 : Int32} {x6 : Int32} {x7 : Int32} (hn : FIX ≤ n) (hd : 1 ≤ d) (h : (((gI σ 11 0) ≤ x7 → ∃ Q2 : Int32 → St → Prop, Cn (d - 1) n M_X12_squares md_X12_squares [.ref 11] σ (liI Q2) ∧ ∀ (v5 : Int32) (σ4 : St), Q2 v5 σ4 → Fr md_X12_squares σ σ4 → ((x4 = (-1) → K_X12_must_72 d n σ0 Q σ4 x1 x2 x3 v5 (x5 + 1)) ∧ (¬ x4 = (-1) → ((x4 ≤ v5 → K_X12_must_72 d n σ0 Q σ4 x1 x2 x3 x4 (x5 + 1)) ∧ (¬ x4 ≤ v5 → K_X12_must_72 d n σ0 Q σ4 x1 x2 x3 v5 (x5 + 1)))))) ∧ (¬ (gI σ 11 0) ≤ x7 → (¬ x2 = 0) ∧ vp_in x7 10 ∧ (¬ x2 = 0) ∧ K_X12_must_85 d n σ0 Q (sI σ 63 x7.toNatClampNeg ((x6 - x6 / x2 * x2) * x1)) x1 x2 x3 x4 x5 (x6 / x2) (x7 + 1)))) : K_X12_must_85 d n σ0 Q σ x1 x2 x3 x4 x5 x6 x7 := by
  refine e_iload dX12_must_85 rfl ?_
  refine e_aload_n dX12_must_87 rfl rfl ?_
  refine e_getI dX12_must_88 fl_X12_131 (ob_11 hn) rfl ?_
  refine e_icmp_ge (tgt := 119) dX12_must_91 (by decide) (fun c1 => ?_) (fun c1 => ?_)
  · replace h := h.1 c1
    refine e_aload_n dX12_must_119 rfl rfl ?_
    obtain ⟨Q2, hc3, h⟩ := h
    refine e_callV (M' := M_X12_squares) (as := []) (rest := []) dX12_must_120 ml_X12_366 mk_X12_squares (ob_11 hn) rfl rfl rfl (Nat.le_of_ble_eq_true rfl) (show 0 < d by omega) hc3 (Md_le (b := md_X12_must) (by decide)) (fun v σ4 hq hf => ?_)
    obtain ⟨v5, rfl, hq⟩ := hq
    replace h := h v5 σ4 hq hf
    refine e_istore dX12_must_123 rfl (by decide) ?_
    refine e_iload dX12_must_125 rfl ?_
    refine e_iconst dX12_must_127 ci_m1 ?_
    refine e_icmp_eq (tgt := 138) dX12_must_128 (by decide) (fun c8 => ?_) (fun c8 => ?_)
    · replace h := h.1 c8
      refine e_iload dX12_must_138 rfl ?_
      refine e_istore dX12_must_140 rfl (by decide) ?_
      refine e_iinc dX12_must_142 rfl (ii_1 _) rfl (by decide) ?_
      refine e_goto (tgt := 72) dX12_must_145 (by decide) ?_
      refine e_kill [true, true, true, true, true, true, false, false] ?_
      exact h
    · replace h := h.2 c8
      refine e_iload dX12_must_131 rfl ?_
      refine e_iload dX12_must_133 rfl ?_
      refine e_icmp_ge (tgt := 142) dX12_must_135 (by decide) (fun c9 => ?_) (fun c9 => ?_)
      · replace h := h.1 c9
        refine e_iinc dX12_must_142 rfl (ii_1 _) rfl (by decide) ?_
        refine e_goto (tgt := 72) dX12_must_145 (by decide) ?_
        refine e_kill [true, true, true, true, true, true, false, false] ?_
        exact h
      · replace h := h.2 c9
        refine e_iload dX12_must_138 rfl ?_
        refine e_istore dX12_must_140 rfl (by decide) ?_
        refine e_iinc dX12_must_142 rfl (ii_1 _) rfl (by decide) ?_
        refine e_goto (tgt := 72) dX12_must_145 (by decide) ?_
        refine e_kill [true, true, true, true, true, true, false, false] ?_
        exact h
  · replace h := h.2 c1
    refine e_aload_n dX12_must_94 rfl rfl ?_
    refine e_getR (y := 63) dX12_must_95 fl_X12_95 (ob_11 hn) rfl rfl ?_
    refine e_iload dX12_must_98 rfl ?_
    refine e_iload dX12_must_100 rfl ?_
    refine e_iload_n dX12_must_102 rfl rfl ?_
    refine e_irem dX12_must_103 h.1 ?_
    replace h := h.2
    refine e_iload_n dX12_must_104 rfl rfl ?_
    refine e_imul dX12_must_105 ?_
    refine e_iast dX12_must_106 (ar_63 hn) h.1 (md_r (m := md_X12_must) (by decide)) ?_
    replace h := h.2
    refine e_iload dX12_must_107 rfl ?_
    refine e_iload_n dX12_must_109 rfl rfl ?_
    refine e_idiv dX12_must_110 h.1 ?_
    replace h := h.2
    refine e_istore dX12_must_111 rfl (by decide) ?_
    refine e_iinc dX12_must_113 rfl (ii_1 _) rfl (by decide) ?_
    refine e_goto (tgt := 85) dX12_must_116 (by decide) ?_
    exact h
theorem S_X12_must {d n : Nat} {Q : Int32 → St → Prop} {σ : St} {a1 : Int32} (hn : FIX ≤ n) (hd : 1 ≤ d) (h : (((fn_X12_isIn (gI σ 11 0) 1 3) = 0 → Q (-1) σ) ∧ (¬ (fn_X12_isIn (gI σ 11 0) 1 3) = 0 → (((fn_X12_isIn a1 1 250) ≠ 0 → ∃ Q3 : St → Prop, Cn (d - 1) n M_X12_tables md_X12_tables [.ref 11] σ (liV Q3) ∧ ∀ (σ5 : St), Q3 σ5 → Fr md_X12_tables σ σ5 → (¬ a1 = 0) ∧ K_X12_must_47 d n σ Q σ5 a1 (mnI 20 ((250 / a1) + 1)) 1 0) ∧ ((fn_X12_isIn a1 1 250) = 0 → Q (-1) σ))))) : Cn d n M_X12_must md_X12_must [.ref 11, .int a1] σ (liI Q) := by
  refine Cn.of (k0 := 6) (by decide) rfl ?_
  show Ev (d, n, md_X12_must, σ, liI Q) M_X12_must 0 [some (.ref 11), some (.int a1), none, none, none, none, none, none] [] σ
  refine e_aload_n dX12_must_0 rfl rfl ?_
  refine e_getI dX12_must_1 fl_X12_131 (ob_11 hn) rfl ?_
  refine e_iconst dX12_must_4 ci_1 ?_
  refine e_iconst dX12_must_5 ci_3 ?_
  refine e_callS (M' := M_X12_isIn) (as := [.int (gI σ 11 0), .int 1, .int 3]) (rest := []) dX12_must_6 ml_X12_134 mk_X12_isIn rfl (Nat.le_of_ble_eq_true rfl) (show 0 < d by omega) (sp_X12_isIn) Md_nil (fun v σv hq hf => ?_)
  obtain ⟨v, rfl, rfl, rfl⟩ := hq
  refine e_if_eq (tgt := 23) dX12_must_9 (by decide) (fun c1 => ?_) (fun c1 => ?_)
  · replace h := h.1 c1
    refine e_iconst dX12_must_23 ci_m1 ?_
    exact e_iret dX12_must_24 rfl ⟨_, rfl, h⟩
  · replace h := h.2 c1
    refine e_iload_n dX12_must_12 rfl rfl ?_
    refine e_iconst dX12_must_13 ci_1 ?_
    refine e_sipush dX12_must_14 cs_250 ?_
    refine e_callS (M' := M_X12_isIn) (as := [.int a1, .int 1, .int 250]) (rest := []) dX12_must_17 ml_X12_134 mk_X12_isIn rfl (Nat.le_of_ble_eq_true rfl) (show 0 < d by omega) (sp_X12_isIn) Md_nil (fun v σv hq hf => ?_)
    obtain ⟨v, rfl, rfl, rfl⟩ := hq
    refine e_if_ne (tgt := 25) dX12_must_20 (by decide) (fun c2 => ?_) (fun c2 => ?_)
    · replace h := h.1 c2
      refine e_aload_n dX12_must_25 rfl rfl ?_
      obtain ⟨Q3, hc4, h⟩ := h
      refine e_callV (M' := M_X12_tables) (as := []) (rest := []) dX12_must_26 ml_X12_357 mk_X12_tables (ob_11 hn) rfl rfl rfl (Nat.le_of_ble_eq_true rfl) (show 0 < d by omega) hc4 (Md_le (b := md_X12_must) (by decide)) (fun v σ5 hq hf => ?_)
      obtain ⟨rfl, hq⟩ := hq
      replace h := h σ5 hq hf
      refine e_bipush dX12_must_29 cb_20 ?_
      refine e_sipush dX12_must_31 cs_250 ?_
      refine e_iload_n dX12_must_34 rfl rfl ?_
      refine e_idiv dX12_must_35 h.1 ?_
      replace h := h.2
      refine e_iconst dX12_must_36 ci_1 ?_
      refine e_iadd dX12_must_37 ?_
      refine e_mmin (st := []) dX12_must_38 ml_X12_301 (Nat.le_of_ble_eq_true rfl) (show 0 < d by omega) ?_
      refine e_istore_n dX12_must_41 rfl rfl (by decide) ?_
      refine e_iconst dX12_must_42 ci_1 ?_
      refine e_istore_n dX12_must_43 rfl rfl (by decide) ?_
      refine e_iconst dX12_must_44 ci_0 ?_
      refine e_istore dX12_must_45 rfl (by decide) ?_
      exact h
    · replace h := h.2 c2
      refine e_iconst dX12_must_23 ci_m1 ?_
      exact e_iret dX12_must_24 rfl ⟨_, rfl, h⟩
abbrev K_X12_why_53 (d n : Nat) (σ0 : St) (Q : Int32 → St → Prop) (σ : St) (x1 : Int32) (x2 : Int32) (x3 : Int32) (x4 : Int32) (x5 : Int32) (x6 : Int32) (x7 : Int32) (x8 : Int32) : Prop := Ev (d, n, md_X12_why, σ0, liI Q) M_X12_why 53 [some (.ref 11), some (.int x1), some (.int x2), some (.int x3), some (.int x4), some (.int x5), some (.int x6), some (.int x7), some (.int x8)] [] σ
theorem B_X12_why_53 {d n : Nat} {σ0 : St} {Q : Int32 → St → Prop}  {σ : St} {x1 : Int32} {x2 : Int32} {x3 : Int32} {x4 : Int32} {x5 : Int32} {x6 : Int32} {x7 : Int32} {x8 : Int32} (hn : FIX ≤ n) (hd : 2 ≤ d) (h : ((((1 : Int32) <<< ((gI σ 11 0) &&& 31)) ≤ x8 → ((x4 = (-1) → ((x6 ≠ 0 → ((x7 ≠ (-1) → ((x3 ≠ 0 → (((3 : Int32) ≠ 3 → Q (-1) σ) ∧ ((3 : Int32) = 3 → vp_in x1 8 ∧ Q (x7 - (gI σ 47 x1.toNatClampNeg)) σ))) ∧ (x3 = 0 → Q 3 σ))) ∧ (x7 = (-1) → ((x3 ≠ 0 → (((2 : Int32) ≠ 3 → Q (-1) σ) ∧ ((2 : Int32) = 3 → vp_in x1 8 ∧ Q (x7 - (gI σ 47 x1.toNatClampNeg)) σ))) ∧ (x3 = 0 → Q 2 σ))))) ∧ (x6 = 0 → ((x3 ≠ 0 → (((1 : Int32) ≠ 3 → Q (-1) σ) ∧ ((1 : Int32) = 3 → vp_in x1 8 ∧ Q (x7 - (gI σ 47 x1.toNatClampNeg)) σ))) ∧ (x3 = 0 → Q 1 σ))))) ∧ (¬ x4 = (-1) → (((fn_X12_holds x4 x2) = 0 → ((x6 ≠ 0 → ((x7 ≠ (-1) → ((x3 ≠ 0 → (((3 : Int32) ≠ 3 → Q (-1) σ) ∧ ((3 : Int32) = 3 → vp_in x1 8 ∧ Q (x7 - (gI σ 47 x1.toNatClampNeg)) σ))) ∧ (x3 = 0 → Q 3 σ))) ∧ (x7 = (-1) → ((x3 ≠ 0 → (((2 : Int32) ≠ 3 → Q (-1) σ) ∧ ((2 : Int32) = 3 → vp_in x1 8 ∧ Q (x7 - (gI σ 47 x1.toNatClampNeg)) σ))) ∧ (x3 = 0 → Q 2 σ))))) ∧ (x6 = 0 → ((x3 ≠ 0 → (((1 : Int32) ≠ 3 → Q (-1) σ) ∧ ((1 : Int32) = 3 → vp_in x1 8 ∧ Q (x7 - (gI σ 47 x1.toNatClampNeg)) σ))) ∧ (x3 = 0 → Q 1 σ))))) ∧ (¬ (fn_X12_holds x4 x2) = 0 → ((x3 ≠ 0 → (((0 : Int32) ≠ 3 → Q (-1) σ) ∧ ((0 : Int32) = 3 → vp_in x1 8 ∧ Q (x7 - (gI σ 47 x1.toNatClampNeg)) σ))) ∧ (x3 = 0 → Q 0 σ))))))) ∧ (¬ ((1 : Int32) <<< ((gI σ 11 0) &&& 31)) ≤ x8 → (((fn_X12_holds x8 x2) = 0 → K_X12_why_53 d n σ0 Q σ x1 x2 x3 x4 x5 x6 x7 (x8 + 1)) ∧ (¬ (fn_X12_holds x8 x2) = 0 → pre_X12_isLawful σ x1 x8 ∧ (((fn_X12_isLawful σ x1 x8) ≠ 0 → pre_X12_worthOf σ x1 x8 ∧ (((fn_X12_worthOf σ x1 x8) ≤ x5 → K_X12_why_53 d n σ0 Q σ x1 x2 x3 x4 x5 1 x7 (x8 + 1)) ∧ (¬ (fn_X12_worthOf σ x1 x8) ≤ x5 → ((x7 = (-1) → ∃ Q26 : Int32 → St → Prop, Cn (d - 1) n M_X12_costOf md_X12_costOf [.ref 11, .int x8] σ (liI Q26) ∧ ∀ (v29 : Int32) (σ28 : St), Q26 v29 σ28 → Fr md_X12_costOf σ σ28 → K_X12_why_53 d n σ0 Q σ28 x1 x2 x3 x4 x5 1 v29 (x8 + 1)) ∧ (¬ x7 = (-1) → ∃ Q32 : Int32 → St → Prop, Cn (d - 1) n M_X12_costOf md_X12_costOf [.ref 11, .int x8] σ (liI Q32) ∧ ∀ (v35 : Int32) (σ34 : St), Q32 v35 σ34 → Fr md_X12_costOf σ σ34 → ((x7 ≤ v35 → K_X12_why_53 d n σ0 Q σ34 x1 x2 x3 x4 x5 1 x7 (x8 + 1)) ∧ (¬ x7 ≤ v35 → ∃ Q39 : Int32 → St → Prop, Cn (d - 1) n M_X12_costOf md_X12_costOf [.ref 11, .int x8] σ34 (liI Q39) ∧ ∀ (v42 : Int32) (σ41 : St), Q39 v42 σ41 → Fr md_X12_costOf σ34 σ41 → K_X12_why_53 d n σ0 Q σ41 x1 x2 x3 x4 x5 1 v42 (x8 + 1)))))))) ∧ ((fn_X12_isLawful σ x1 x8) = 0 → K_X12_why_53 d n σ0 Q σ x1 x2 x3 x4 x5 x6 x7 (x8 + 1)))))))) : K_X12_why_53 d n σ0 Q σ x1 x2 x3 x4 x5 x6 x7 x8 := by
  refine e_iload dX12_why_53 rfl ?_
  refine e_iconst dX12_why_55 ci_1 ?_
  refine e_aload_n dX12_why_56 rfl rfl ?_
  refine e_getI dX12_why_57 fl_X12_131 (ob_11 hn) rfl ?_
  refine e_ishl dX12_why_60 ?_
  refine e_icmp_ge (tgt := 132) dX12_why_61 (by decide) (fun c1 => ?_) (fun c1 => ?_)
  · replace h := h.1 c1
    refine e_iload dX12_why_132 rfl ?_
    refine e_iconst dX12_why_134 ci_m1 ?_
    refine e_icmp_eq (tgt := 151) dX12_why_135 (by decide) (fun c2 => ?_) (fun c2 => ?_)
    · replace h := h.1 c2
      refine e_iload dX12_why_151 rfl ?_
      refine e_if_ne (tgt := 160) dX12_why_153 (by decide) (fun c3 => ?_) (fun c3 => ?_)
      · replace h := h.1 c3
        refine e_iload dX12_why_160 rfl ?_
        refine e_iconst dX12_why_162 ci_m1 ?_
        refine e_icmp_ne (tgt := 170) dX12_why_163 (by decide) (fun c4 => ?_) (fun c4 => ?_)
        · replace h := h.1 c4
          refine e_iconst dX12_why_170 ci_3 ?_
          refine e_istore dX12_why_171 rfl (by decide) ?_
          refine e_iload_n dX12_why_173 rfl rfl ?_
          refine e_if_ne (tgt := 182) dX12_why_174 (by decide) (fun c5 => ?_) (fun c5 => ?_)
          · replace h := h.1 c5
            refine e_iload dX12_why_182 rfl ?_
            refine e_iconst dX12_why_184 ci_3 ?_
            refine e_icmp_ne (tgt := 200) dX12_why_185 (by decide) (fun c6 => ?_) (fun c6 => ?_)
            · replace h := h.1 c6
              refine e_iconst dX12_why_200 ci_m1 ?_
              exact e_iret dX12_why_201 rfl ⟨_, rfl, h⟩
            · replace h := h.2 c6
              refine e_iload dX12_why_188 rfl ?_
              refine e_aload_n dX12_why_190 rfl rfl ?_
              refine e_getR (y := 47) dX12_why_191 fl_X12_35 (ob_11 hn) rfl rfl ?_
              refine e_iload_n dX12_why_194 rfl rfl ?_
              refine e_iald dX12_why_195 (ar_47 hn) h.1 ?_
              replace h := h.2
              refine e_isub dX12_why_196 ?_
              refine e_goto (tgt := 201) dX12_why_197 (by decide) ?_
              exact e_iret dX12_why_201 rfl ⟨_, rfl, h⟩
          · replace h := h.2 c5
            refine e_iload dX12_why_177 rfl ?_
            refine e_goto (tgt := 201) dX12_why_179 (by decide) ?_
            exact e_iret dX12_why_201 rfl ⟨_, rfl, h⟩
        · replace h := h.2 c4
          refine e_iconst dX12_why_166 ci_2 ?_
          refine e_goto (tgt := 171) dX12_why_167 (by decide) ?_
          refine e_istore dX12_why_171 rfl (by decide) ?_
          refine e_iload_n dX12_why_173 rfl rfl ?_
          refine e_if_ne (tgt := 182) dX12_why_174 (by decide) (fun c7 => ?_) (fun c7 => ?_)
          · replace h := h.1 c7
            refine e_iload dX12_why_182 rfl ?_
            refine e_iconst dX12_why_184 ci_3 ?_
            refine e_icmp_ne (tgt := 200) dX12_why_185 (by decide) (fun c8 => ?_) (fun c8 => ?_)
            · replace h := h.1 c8
              refine e_iconst dX12_why_200 ci_m1 ?_
              exact e_iret dX12_why_201 rfl ⟨_, rfl, h⟩
            · replace h := h.2 c8
              refine e_iload dX12_why_188 rfl ?_
              refine e_aload_n dX12_why_190 rfl rfl ?_
              refine e_getR (y := 47) dX12_why_191 fl_X12_35 (ob_11 hn) rfl rfl ?_
              refine e_iload_n dX12_why_194 rfl rfl ?_
              refine e_iald dX12_why_195 (ar_47 hn) h.1 ?_
              replace h := h.2
              refine e_isub dX12_why_196 ?_
              refine e_goto (tgt := 201) dX12_why_197 (by decide) ?_
              exact e_iret dX12_why_201 rfl ⟨_, rfl, h⟩
          · replace h := h.2 c7
            refine e_iload dX12_why_177 rfl ?_
            refine e_goto (tgt := 201) dX12_why_179 (by decide) ?_
            exact e_iret dX12_why_201 rfl ⟨_, rfl, h⟩
      · replace h := h.2 c3
        refine e_iconst dX12_why_156 ci_1 ?_
        refine e_goto (tgt := 171) dX12_why_157 (by decide) ?_
        refine e_istore dX12_why_171 rfl (by decide) ?_
        refine e_iload_n dX12_why_173 rfl rfl ?_
        refine e_if_ne (tgt := 182) dX12_why_174 (by decide) (fun c9 => ?_) (fun c9 => ?_)
        · replace h := h.1 c9
          refine e_iload dX12_why_182 rfl ?_
          refine e_iconst dX12_why_184 ci_3 ?_
          refine e_icmp_ne (tgt := 200) dX12_why_185 (by decide) (fun c10 => ?_) (fun c10 => ?_)
          · replace h := h.1 c10
            refine e_iconst dX12_why_200 ci_m1 ?_
            exact e_iret dX12_why_201 rfl ⟨_, rfl, h⟩
          · replace h := h.2 c10
            refine e_iload dX12_why_188 rfl ?_
            refine e_aload_n dX12_why_190 rfl rfl ?_
            refine e_getR (y := 47) dX12_why_191 fl_X12_35 (ob_11 hn) rfl rfl ?_
            refine e_iload_n dX12_why_194 rfl rfl ?_
            refine e_iald dX12_why_195 (ar_47 hn) h.1 ?_
            replace h := h.2
            refine e_isub dX12_why_196 ?_
            refine e_goto (tgt := 201) dX12_why_197 (by decide) ?_
            exact e_iret dX12_why_201 rfl ⟨_, rfl, h⟩
        · replace h := h.2 c9
          refine e_iload dX12_why_177 rfl ?_
          refine e_goto (tgt := 201) dX12_why_179 (by decide) ?_
          exact e_iret dX12_why_201 rfl ⟨_, rfl, h⟩
    · replace h := h.2 c2
      refine e_iload dX12_why_138 rfl ?_
      refine e_iload_n dX12_why_140 rfl rfl ?_
      refine e_callS (M' := M_X12_holds) (as := [.int x4, .int x2]) (rest := []) dX12_why_141 ml_X12_289 mk_X12_holds rfl (Nat.le_of_ble_eq_true rfl) (show 0 < d by omega) (sp_X12_holds) Md_nil (fun v σv hq hf => ?_)
      obtain ⟨v, rfl, rfl, rfl⟩ := hq
      refine e_if_eq (tgt := 151) dX12_why_144 (by decide) (fun c11 => ?_) (fun c11 => ?_)
      · replace h := h.1 c11
        refine e_iload dX12_why_151 rfl ?_
        refine e_if_ne (tgt := 160) dX12_why_153 (by decide) (fun c12 => ?_) (fun c12 => ?_)
        · replace h := h.1 c12
          refine e_iload dX12_why_160 rfl ?_
          refine e_iconst dX12_why_162 ci_m1 ?_
          refine e_icmp_ne (tgt := 170) dX12_why_163 (by decide) (fun c13 => ?_) (fun c13 => ?_)
          · replace h := h.1 c13
            refine e_iconst dX12_why_170 ci_3 ?_
            refine e_istore dX12_why_171 rfl (by decide) ?_
            refine e_iload_n dX12_why_173 rfl rfl ?_
            refine e_if_ne (tgt := 182) dX12_why_174 (by decide) (fun c14 => ?_) (fun c14 => ?_)
            · replace h := h.1 c14
              refine e_iload dX12_why_182 rfl ?_
              refine e_iconst dX12_why_184 ci_3 ?_
              refine e_icmp_ne (tgt := 200) dX12_why_185 (by decide) (fun c15 => ?_) (fun c15 => ?_)
              · replace h := h.1 c15
                refine e_iconst dX12_why_200 ci_m1 ?_
                exact e_iret dX12_why_201 rfl ⟨_, rfl, h⟩
              · replace h := h.2 c15
                refine e_iload dX12_why_188 rfl ?_
                refine e_aload_n dX12_why_190 rfl rfl ?_
                refine e_getR (y := 47) dX12_why_191 fl_X12_35 (ob_11 hn) rfl rfl ?_
                refine e_iload_n dX12_why_194 rfl rfl ?_
                refine e_iald dX12_why_195 (ar_47 hn) h.1 ?_
                replace h := h.2
                refine e_isub dX12_why_196 ?_
                refine e_goto (tgt := 201) dX12_why_197 (by decide) ?_
                exact e_iret dX12_why_201 rfl ⟨_, rfl, h⟩
            · replace h := h.2 c14
              refine e_iload dX12_why_177 rfl ?_
              refine e_goto (tgt := 201) dX12_why_179 (by decide) ?_
              exact e_iret dX12_why_201 rfl ⟨_, rfl, h⟩
          · replace h := h.2 c13
            refine e_iconst dX12_why_166 ci_2 ?_
            refine e_goto (tgt := 171) dX12_why_167 (by decide) ?_
            refine e_istore dX12_why_171 rfl (by decide) ?_
            refine e_iload_n dX12_why_173 rfl rfl ?_
            refine e_if_ne (tgt := 182) dX12_why_174 (by decide) (fun c16 => ?_) (fun c16 => ?_)
            · replace h := h.1 c16
              refine e_iload dX12_why_182 rfl ?_
              refine e_iconst dX12_why_184 ci_3 ?_
              refine e_icmp_ne (tgt := 200) dX12_why_185 (by decide) (fun c17 => ?_) (fun c17 => ?_)
              · replace h := h.1 c17
                refine e_iconst dX12_why_200 ci_m1 ?_
                exact e_iret dX12_why_201 rfl ⟨_, rfl, h⟩
              · replace h := h.2 c17
                refine e_iload dX12_why_188 rfl ?_
                refine e_aload_n dX12_why_190 rfl rfl ?_
                refine e_getR (y := 47) dX12_why_191 fl_X12_35 (ob_11 hn) rfl rfl ?_
                refine e_iload_n dX12_why_194 rfl rfl ?_
                refine e_iald dX12_why_195 (ar_47 hn) h.1 ?_
                replace h := h.2
                refine e_isub dX12_why_196 ?_
                refine e_goto (tgt := 201) dX12_why_197 (by decide) ?_
                exact e_iret dX12_why_201 rfl ⟨_, rfl, h⟩
            · replace h := h.2 c16
              refine e_iload dX12_why_177 rfl ?_
              refine e_goto (tgt := 201) dX12_why_179 (by decide) ?_
              exact e_iret dX12_why_201 rfl ⟨_, rfl, h⟩
        · replace h := h.2 c12
          refine e_iconst dX12_why_156 ci_1 ?_
          refine e_goto (tgt := 171) dX12_why_157 (by decide) ?_
          refine e_istore dX12_why_171 rfl (by decide) ?_
          refine e_iload_n dX12_why_173 rfl rfl ?_
          refine e_if_ne (tgt := 182) dX12_why_174 (by decide) (fun c18 => ?_) (fun c18 => ?_)
          · replace h := h.1 c18
            refine e_iload dX12_why_182 rfl ?_
            refine e_iconst dX12_why_184 ci_3 ?_
            refine e_icmp_ne (tgt := 200) dX12_why_185 (by decide) (fun c19 => ?_) (fun c19 => ?_)
            · replace h := h.1 c19
              refine e_iconst dX12_why_200 ci_m1 ?_
              exact e_iret dX12_why_201 rfl ⟨_, rfl, h⟩
            · replace h := h.2 c19
              refine e_iload dX12_why_188 rfl ?_
              refine e_aload_n dX12_why_190 rfl rfl ?_
              refine e_getR (y := 47) dX12_why_191 fl_X12_35 (ob_11 hn) rfl rfl ?_
              refine e_iload_n dX12_why_194 rfl rfl ?_
              refine e_iald dX12_why_195 (ar_47 hn) h.1 ?_
              replace h := h.2
              refine e_isub dX12_why_196 ?_
              refine e_goto (tgt := 201) dX12_why_197 (by decide) ?_
              exact e_iret dX12_why_201 rfl ⟨_, rfl, h⟩
          · replace h := h.2 c18
            refine e_iload dX12_why_177 rfl ?_
            refine e_goto (tgt := 201) dX12_why_179 (by decide) ?_
            exact e_iret dX12_why_201 rfl ⟨_, rfl, h⟩
      · replace h := h.2 c11
        refine e_iconst dX12_why_147 ci_0 ?_
        refine e_goto (tgt := 171) dX12_why_148 (by decide) ?_
        refine e_istore dX12_why_171 rfl (by decide) ?_
        refine e_iload_n dX12_why_173 rfl rfl ?_
        refine e_if_ne (tgt := 182) dX12_why_174 (by decide) (fun c20 => ?_) (fun c20 => ?_)
        · replace h := h.1 c20
          refine e_iload dX12_why_182 rfl ?_
          refine e_iconst dX12_why_184 ci_3 ?_
          refine e_icmp_ne (tgt := 200) dX12_why_185 (by decide) (fun c21 => ?_) (fun c21 => ?_)
          · replace h := h.1 c21
            refine e_iconst dX12_why_200 ci_m1 ?_
            exact e_iret dX12_why_201 rfl ⟨_, rfl, h⟩
          · replace h := h.2 c21
            refine e_iload dX12_why_188 rfl ?_
            refine e_aload_n dX12_why_190 rfl rfl ?_
            refine e_getR (y := 47) dX12_why_191 fl_X12_35 (ob_11 hn) rfl rfl ?_
            refine e_iload_n dX12_why_194 rfl rfl ?_
            refine e_iald dX12_why_195 (ar_47 hn) h.1 ?_
            replace h := h.2
            refine e_isub dX12_why_196 ?_
            refine e_goto (tgt := 201) dX12_why_197 (by decide) ?_
            exact e_iret dX12_why_201 rfl ⟨_, rfl, h⟩
        · replace h := h.2 c20
          refine e_iload dX12_why_177 rfl ?_
          refine e_goto (tgt := 201) dX12_why_179 (by decide) ?_
          exact e_iret dX12_why_201 rfl ⟨_, rfl, h⟩
  · replace h := h.2 c1
    refine e_iload dX12_why_64 rfl ?_
    refine e_iload_n dX12_why_66 rfl rfl ?_
    refine e_callS (M' := M_X12_holds) (as := [.int x8, .int x2]) (rest := []) dX12_why_67 ml_X12_289 mk_X12_holds rfl (Nat.le_of_ble_eq_true rfl) (show 0 < d by omega) (sp_X12_holds) Md_nil (fun v σv hq hf => ?_)
    obtain ⟨v, rfl, rfl, rfl⟩ := hq
    refine e_if_eq (tgt := 126) dX12_why_70 (by decide) (fun c22 => ?_) (fun c22 => ?_)
    · replace h := h.1 c22
      refine e_iinc dX12_why_126 rfl (ii_1 _) rfl (by decide) ?_
      refine e_goto (tgt := 53) dX12_why_129 (by decide) ?_
      exact h
    · replace h := h.2 c22
      refine e_aload_n dX12_why_73 rfl rfl ?_
      refine e_iload_n dX12_why_74 rfl rfl ?_
      refine e_iload dX12_why_75 rfl ?_
      refine e_callV (M' := M_X12_isLawful) (as := [.int x1, .int x8]) (rest := []) dX12_why_77 ml_X12_348 mk_X12_isLawful (ob_11 hn) rfl rfl rfl (Nat.le_of_ble_eq_true rfl) (show 0 < d by omega) (sp_X12_isLawful hn h.1) Md_nil (fun v σv hq hf => ?_)
      obtain ⟨v, rfl, rfl, rfl⟩ := hq
      replace h := h.2
      refine e_if_ne (tgt := 86) dX12_why_80 (by decide) (fun c23 => ?_) (fun c23 => ?_)
      · replace h := h.1 c23
        refine e_iconst dX12_why_86 ci_1 ?_
        refine e_istore dX12_why_87 rfl (by decide) ?_
        refine e_aload_n dX12_why_89 rfl rfl ?_
        refine e_iload_n dX12_why_90 rfl rfl ?_
        refine e_iload dX12_why_91 rfl ?_
        refine e_callV (M' := M_X12_worthOf) (as := [.int x1, .int x8]) (rest := []) dX12_why_93 ml_X12_354 mk_X12_worthOf (ob_11 hn) rfl rfl rfl (Nat.le_of_ble_eq_true rfl) (show 0 < d by omega) (sp_X12_worthOf hn h.1) Md_nil (fun v σv hq hf => ?_)
        obtain ⟨v, rfl, rfl, rfl⟩ := hq
        replace h := h.2
        refine e_iload dX12_why_96 rfl ?_
        refine e_icmp_le (tgt := 126) dX12_why_98 (by decide) (fun c24 => ?_) (fun c24 => ?_)
        · replace h := h.1 c24
          refine e_iinc dX12_why_126 rfl (ii_1 _) rfl (by decide) ?_
          refine e_goto (tgt := 53) dX12_why_129 (by decide) ?_
          exact h
        · replace h := h.2 c24
          refine e_iload dX12_why_101 rfl ?_
          refine e_iconst dX12_why_103 ci_m1 ?_
          refine e_icmp_eq (tgt := 118) dX12_why_104 (by decide) (fun c25 => ?_) (fun c25 => ?_)
          · replace h := h.1 c25
            refine e_aload_n dX12_why_118 rfl rfl ?_
            refine e_iload dX12_why_119 rfl ?_
            obtain ⟨Q26, hc27, h⟩ := h
            refine e_callV (M' := M_X12_costOf) (as := [.int x8]) (rest := []) dX12_why_121 ml_X12_351 mk_X12_costOf (ob_11 hn) rfl rfl rfl (Nat.le_of_ble_eq_true rfl) (show 0 < d by omega) hc27 (Md_le (b := md_X12_why) (by decide)) (fun v σ28 hq hf => ?_)
            obtain ⟨v29, rfl, hq⟩ := hq
            replace h := h v29 σ28 hq hf
            refine e_istore dX12_why_124 rfl (by decide) ?_
            refine e_iinc dX12_why_126 rfl (ii_1 _) rfl (by decide) ?_
            refine e_goto (tgt := 53) dX12_why_129 (by decide) ?_
            exact h
          · replace h := h.2 c25
            refine e_aload_n dX12_why_107 rfl rfl ?_
            refine e_iload dX12_why_108 rfl ?_
            obtain ⟨Q32, hc33, h⟩ := h
            refine e_callV (M' := M_X12_costOf) (as := [.int x8]) (rest := []) dX12_why_110 ml_X12_351 mk_X12_costOf (ob_11 hn) rfl rfl rfl (Nat.le_of_ble_eq_true rfl) (show 0 < d by omega) hc33 (Md_le (b := md_X12_why) (by decide)) (fun v σ34 hq hf => ?_)
            obtain ⟨v35, rfl, hq⟩ := hq
            replace h := h v35 σ34 hq hf
            refine e_iload dX12_why_113 rfl ?_
            refine e_icmp_ge (tgt := 126) dX12_why_115 (by decide) (fun c38 => ?_) (fun c38 => ?_)
            · replace h := h.1 c38
              refine e_iinc dX12_why_126 rfl (ii_1 _) rfl (by decide) ?_
              refine e_goto (tgt := 53) dX12_why_129 (by decide) ?_
              exact h
            · replace h := h.2 c38
              refine e_aload_n dX12_why_118 rfl rfl ?_
              refine e_iload dX12_why_119 rfl ?_
              obtain ⟨Q39, hc40, h⟩ := h
              refine e_callV (M' := M_X12_costOf) (as := [.int x8]) (rest := []) dX12_why_121 ml_X12_351 mk_X12_costOf (ob_11 hn) rfl rfl rfl (Nat.le_of_ble_eq_true rfl) (show 0 < d by omega) hc40 (Md_le (b := md_X12_why) (by decide)) (fun v σ41 hq hf => ?_)
              obtain ⟨v42, rfl, hq⟩ := hq
              replace h := h v42 σ41 hq hf
              refine e_istore dX12_why_124 rfl (by decide) ?_
              refine e_iinc dX12_why_126 rfl (ii_1 _) rfl (by decide) ?_
              refine e_goto (tgt := 53) dX12_why_129 (by decide) ?_
              exact h
      · replace h := h.2 c23
        refine e_goto (tgt := 126) dX12_why_83 (by decide) ?_
        refine e_iinc dX12_why_126 rfl (ii_1 _) rfl (by decide) ?_
        refine e_goto (tgt := 53) dX12_why_129 (by decide) ?_
        exact h
theorem S_X12_why {d n : Nat} {Q : Int32 → St → Prop} {σ : St} {a1 : Int32} {a2 : Int32} {a3 : Int32} (hn : FIX ≤ n) (hd : 2 ≤ d) (h : (((fn_X12_isPerson σ a1) = 0 → Q (-1) σ) ∧ (¬ (fn_X12_isPerson σ a1) = 0 → (((fn_X12_isLesson σ a2) = 0 → Q (-1) σ) ∧ (¬ (fn_X12_isLesson σ a2) = 0 → (((fn_X12_isIn a3 0 1) ≠ 0 → ∃ Q4 : St → Prop, Cn (d - 1) n M_X12_told md_X12_told [.ref 11] σ (liV Q4) ∧ ∀ (σ6 : St), Q4 σ6 → Fr md_X12_told σ σ6 → ∃ Q10 : Int32 → St → Prop, Cn (d - 1) n M_X12_buysBy md_X12_buysBy [.ref 11, .int a1] σ6 (liI Q10) ∧ ∀ (v13 : Int32) (σ12 : St), Q10 v13 σ12 → Fr md_X12_buysBy σ6 σ12 → K_X12_why_53 d n σ Q σ12 a1 a2 a3 v13 (gI σ12 11 41) 0 (-1) 0) ∧ ((fn_X12_isIn a3 0 1) = 0 → Q (-1) σ))))))) : Cn d n M_X12_why md_X12_why [.ref 11, .int a1, .int a2, .int a3] σ (liI Q) := by
  refine Cn.of (k0 := 5) (by decide) rfl ?_
  show Ev (d, n, md_X12_why, σ, liI Q) M_X12_why 0 [some (.ref 11), some (.int a1), some (.int a2), some (.int a3), none, none, none, none, none] [] σ
  refine e_aload_n dX12_why_0 rfl rfl ?_
  refine e_iload_n dX12_why_1 rfl rfl ?_
  refine e_callV (M' := M_X12_isPerson) (as := [.int a1]) (rest := []) dX12_why_2 ml_X12_151 mk_X12_isPerson (ob_11 hn) rfl rfl rfl (Nat.le_of_ble_eq_true rfl) (show 0 < d by omega) (sp_X12_isPerson hn (show 1 ≤ d - 1 by omega)) Md_nil (fun v σv hq hf => ?_)
  obtain ⟨v, rfl, rfl, rfl⟩ := hq
  refine e_if_eq (tgt := 25) dX12_why_5 (by decide) (fun c1 => ?_) (fun c1 => ?_)
  · replace h := h.1 c1
    refine e_iconst dX12_why_25 ci_m1 ?_
    exact e_iret dX12_why_26 rfl ⟨_, rfl, h⟩
  · replace h := h.2 c1
    refine e_aload_n dX12_why_8 rfl rfl ?_
    refine e_iload_n dX12_why_9 rfl rfl ?_
    refine e_callV (M' := M_X12_isLesson) (as := [.int a2]) (rest := []) dX12_why_10 ml_X12_141 mk_X12_isLesson (ob_11 hn) rfl rfl rfl (Nat.le_of_ble_eq_true rfl) (show 0 < d by omega) (sp_X12_isLesson hn (show 1 ≤ d - 1 by omega)) Md_nil (fun v σv hq hf => ?_)
    obtain ⟨v, rfl, rfl, rfl⟩ := hq
    refine e_if_eq (tgt := 25) dX12_why_13 (by decide) (fun c2 => ?_) (fun c2 => ?_)
    · replace h := h.1 c2
      refine e_iconst dX12_why_25 ci_m1 ?_
      exact e_iret dX12_why_26 rfl ⟨_, rfl, h⟩
    · replace h := h.2 c2
      refine e_iload_n dX12_why_16 rfl rfl ?_
      refine e_iconst dX12_why_17 ci_0 ?_
      refine e_iconst dX12_why_18 ci_1 ?_
      refine e_callS (M' := M_X12_isIn) (as := [.int a3, .int 0, .int 1]) (rest := []) dX12_why_19 ml_X12_134 mk_X12_isIn rfl (Nat.le_of_ble_eq_true rfl) (show 0 < d by omega) (sp_X12_isIn) Md_nil (fun v σv hq hf => ?_)
      obtain ⟨v, rfl, rfl, rfl⟩ := hq
      refine e_if_ne (tgt := 27) dX12_why_22 (by decide) (fun c3 => ?_) (fun c3 => ?_)
      · replace h := h.1 c3
        refine e_aload_n dX12_why_27 rfl rfl ?_
        obtain ⟨Q4, hc5, h⟩ := h
        refine e_callV (M' := M_X12_told) (as := []) (rest := []) dX12_why_28 ml_X12_360 mk_X12_told (ob_11 hn) rfl rfl rfl (Nat.le_of_ble_eq_true rfl) (show 0 < d by omega) hc5 (Md_le (b := md_X12_why) (by decide)) (fun v σ6 hq hf => ?_)
        obtain ⟨rfl, hq⟩ := hq
        replace h := h σ6 hq hf
        refine e_aload_n dX12_why_31 rfl rfl ?_
        refine e_iload_n dX12_why_32 rfl rfl ?_
        obtain ⟨Q10, hc11, h⟩ := h
        refine e_callV (M' := M_X12_buysBy) (as := [.int a1]) (rest := []) dX12_why_33 ml_X12_363 mk_X12_buysBy (ob_11 hn) rfl rfl rfl (Nat.le_of_ble_eq_true rfl) (show 0 < d by omega) hc11 (Md_le (b := md_X12_why) (by decide)) (fun v σ12 hq hf => ?_)
        obtain ⟨v13, rfl, hq⟩ := hq
        replace h := h v13 σ12 hq hf
        refine e_istore dX12_why_36 rfl (by decide) ?_
        refine e_aload_n dX12_why_38 rfl rfl ?_
        refine e_getI dX12_why_39 fl_X12_345 (ob_11 hn) rfl ?_
        refine e_istore dX12_why_42 rfl (by decide) ?_
        refine e_iconst dX12_why_44 ci_0 ?_
        refine e_istore dX12_why_45 rfl (by decide) ?_
        refine e_iconst dX12_why_47 ci_m1 ?_
        refine e_istore dX12_why_48 rfl (by decide) ?_
        refine e_iconst dX12_why_50 ci_0 ?_
        refine e_istore dX12_why_51 rfl (by decide) ?_
        exact h
      · replace h := h.2 c3
        refine e_iconst dX12_why_25 ci_m1 ?_
        exact e_iret dX12_why_26 rfl ⟨_, rfl, h⟩
abbrev K_X12_leftOf_9 (d n : Nat) (σ0 : St) (Q : Int32 → St → Prop) (σ : St) (x1 : Int32) (x2 : Int32) (x3 : Int32) : Prop := Ev (d, n, md_X12_leftOf, σ0, liI Q) M_X12_leftOf 9 [some (.ref 11), some (.int x1), some (.int x2), some (.int x3)] [] σ
theorem B_X12_leftOf_9 {d n : Nat} {σ0 : St} {Q : Int32 → St → Prop}  {σ : St} {x1 : Int32} {x2 : Int32} {x3 : Int32} (hn : FIX ≤ n) (hd : 1 ≤ d) (h : (((gI σ 11 1) ≤ x3 → Q x2 σ) ∧ (¬ (gI σ 11 1) ≤ x3 → vp_in x3 8 ∧ K_X12_leftOf_9 d n σ0 Q σ x1 (x2 - (fn_X12_one (fn_X12_holds (gI σ 71 x3.toNatClampNeg) x1))) (x3 + 1)))) : K_X12_leftOf_9 d n σ0 Q σ x1 x2 x3 := by
  refine e_iload_n dX12_leftOf_9 rfl rfl ?_
  refine e_aload_n dX12_leftOf_10 rfl rfl ?_
  refine e_getI dX12_leftOf_11 fl_X12_138 (ob_11 hn) rfl ?_
  refine e_icmp_ge (tgt := 39) dX12_leftOf_14 (by decide) (fun c1 => ?_) (fun c1 => ?_)
  · replace h := h.1 c1
    refine e_iload_n dX12_leftOf_39 rfl rfl ?_
    exact e_iret dX12_leftOf_40 rfl ⟨_, rfl, h⟩
  · replace h := h.2 c1
    refine e_iload_n dX12_leftOf_17 rfl rfl ?_
    refine e_aload_n dX12_leftOf_18 rfl rfl ?_
    refine e_getR (y := 71) dX12_leftOf_19 fl_X12_119 (ob_11 hn) rfl rfl ?_
    refine e_iload_n dX12_leftOf_22 rfl rfl ?_
    refine e_iald dX12_leftOf_23 (ar_71 hn) h.1 ?_
    replace h := h.2
    refine e_iload_n dX12_leftOf_24 rfl rfl ?_
    refine e_callS (M' := M_X12_holds) (as := [.int (gI σ 71 x3.toNatClampNeg), .int x1]) (rest := [.int x2]) dX12_leftOf_25 ml_X12_289 mk_X12_holds rfl (Nat.le_of_ble_eq_true rfl) (show 0 < d by omega) (sp_X12_holds) Md_nil (fun v σv hq hf => ?_)
    obtain ⟨v, rfl, rfl, rfl⟩ := hq
    refine e_callS (M' := M_X12_one) (as := [.int (fn_X12_holds (gI σ 71 x3.toNatClampNeg) x1)]) (rest := [.int x2]) dX12_leftOf_28 ml_X12_293 mk_X12_one rfl (Nat.le_of_ble_eq_true rfl) (show 0 < d by omega) (sp_X12_one) Md_nil (fun v σv hq hf => ?_)
    obtain ⟨v, rfl, rfl, rfl⟩ := hq
    refine e_isub dX12_leftOf_31 ?_
    refine e_istore_n dX12_leftOf_32 rfl rfl (by decide) ?_
    refine e_iinc dX12_leftOf_33 rfl (ii_1 _) rfl (by decide) ?_
    refine e_goto (tgt := 9) dX12_leftOf_36 (by decide) ?_
    exact h
theorem S_X12_leftOf {d n : Nat} {Q : Int32 → St → Prop} {σ : St} {a1 : Int32} (hn : FIX ≤ n) (hd : 1 ≤ d) (h : vp_in a1 10 ∧ K_X12_leftOf_9 d n σ Q σ a1 (gI σ 41 a1.toNatClampNeg) 0) : Cn d n M_X12_leftOf md_X12_leftOf [.ref 11, .int a1] σ (liI Q) := by
  refine Cn.of (k0 := 2) (by decide) rfl ?_
  show Ev (d, n, md_X12_leftOf, σ, liI Q) M_X12_leftOf 0 [some (.ref 11), some (.int a1), none, none] [] σ
  refine e_aload_n dX12_leftOf_0 rfl rfl ?_
  refine e_getR (y := 41) dX12_leftOf_1 fl_X12_16 (ob_11 hn) rfl rfl ?_
  refine e_iload_n dX12_leftOf_4 rfl rfl ?_
  refine e_iald dX12_leftOf_5 (ar_41 hn) h.1 ?_
  replace h := h.2
  refine e_istore_n dX12_leftOf_6 rfl rfl (by decide) ?_
  refine e_iconst dX12_leftOf_7 ci_0 ?_
  refine e_istore_n dX12_leftOf_8 rfl rfl (by decide) ?_
  exact h
abbrev K_X12_adds_11 (d n : Nat) (σ0 : St) (Q : Int32 → St → Prop) (σ : St) (x1 : Int32) (x2 : Int32) (x3 : Int32) (x4 : Int32) : Prop := Ev (d, n, md_X12_adds, σ0, liI Q) M_X12_adds 11 [some (.ref 11), some (.int x1), some (.int x2), some (.int x3), some (.int x4), none] [] σ
theorem B_X12_adds_11 {d n : Nat} {σ0 : St} {Q : Int32 → St → Prop}  {σ : St} {x1 : Int32} {x2 : Int32} {x3 : Int32} {x4 : Int32} (hn : FIX ≤ n) (hd : 1 ≤ d) (h : (((gI σ 11 0) ≤ x4 → ((x3 ≠ (-1) → vp_in x1 8 ∧ vp_in x1 8 ∧ Q 1 (sI σ 71 x1.toNatClampNeg ((gI σ 71 x1.toNatClampNeg) ||| ((1 : Int32) <<< (x3 &&& 31))))) ∧ (x3 = (-1) → Q 0 σ))) ∧ (¬ (gI σ 11 0) ≤ x4 → vp_in x1 8 ∧ vp_in x1 8 ∧ (((fn_X12_holds (gI σ 71 x1.toNatClampNeg) x4) ≠ 0 → K_X12_adds_11 d n σ0 Q σ x1 x2 x3 (x4 + 1)) ∧ ((fn_X12_holds (gI σ 71 x1.toNatClampNeg) x4) = 0 → ∃ Q4 : Int32 → St → Prop, Cn (d - 1) n M_X12_leftOf md_X12_leftOf [.ref 11, .int x4] σ (liI Q4) ∧ ∀ (v7 : Int32) (σ6 : St), Q4 v7 σ6 → Fr md_X12_leftOf σ σ6 → ((v7 ≤ 0 → K_X12_adds_11 d n σ0 Q σ6 x1 x2 x3 (x4 + 1)) ∧ (¬ v7 ≤ 0 → pre_X12_isLawful σ6 x2 ((gI σ 71 x1.toNatClampNeg) ||| ((1 : Int32) <<< (x4 &&& 31))) ∧ (((fn_X12_isLawful σ6 x2 ((gI σ 71 x1.toNatClampNeg) ||| ((1 : Int32) <<< (x4 &&& 31)))) = 0 → K_X12_adds_11 d n σ0 Q σ6 x1 x2 x3 (x4 + 1)) ∧ (¬ (fn_X12_isLawful σ6 x2 ((gI σ 71 x1.toNatClampNeg) ||| ((1 : Int32) <<< (x4 &&& 31)))) = 0 → pre_X12_worthOf σ6 x2 ((gI σ 71 x1.toNatClampNeg) ||| ((1 : Int32) <<< (x4 &&& 31))) ∧ vp_in x1 8 ∧ pre_X12_worthOf σ6 x2 (gI σ6 71 x1.toNatClampNeg) ∧ (((fn_X12_worthOf σ6 x2 (gI σ6 71 x1.toNatClampNeg)) < (fn_X12_worthOf σ6 x2 ((gI σ 71 x1.toNatClampNeg) ||| ((1 : Int32) <<< (x4 &&& 31)))) → ((x3 = (-1) → K_X12_adds_11 d n σ0 Q σ6 x1 x2 x4 (x4 + 1)) ∧ (¬ x3 = (-1) → pre_X12_worthOf σ6 x2 ((gI σ 71 x1.toNatClampNeg) ||| ((1 : Int32) <<< (x4 &&& 31))) ∧ vp_in x1 8 ∧ pre_X12_worthOf σ6 x2 ((gI σ6 71 x1.toNatClampNeg) ||| ((1 : Int32) <<< (x3 &&& 31))) ∧ (((fn_X12_worthOf σ6 x2 ((gI σ 71 x1.toNatClampNeg) ||| ((1 : Int32) <<< (x4 &&& 31)))) ≤ (fn_X12_worthOf σ6 x2 ((gI σ6 71 x1.toNatClampNeg) ||| ((1 : Int32) <<< (x3 &&& 31)))) → K_X12_adds_11 d n σ0 Q σ6 x1 x2 x3 (x4 + 1)) ∧ (¬ (fn_X12_worthOf σ6 x2 ((gI σ 71 x1.toNatClampNeg) ||| ((1 : Int32) <<< (x4 &&& 31)))) ≤ (fn_X12_worthOf σ6 x2 ((gI σ6 71 x1.toNatClampNeg) ||| ((1 : Int32) <<< (x3 &&& 31)))) → K_X12_adds_11 d n σ0 Q σ6 x1 x2 x4 (x4 + 1)))))) ∧ (¬ (fn_X12_worthOf σ6 x2 (gI σ6 71 x1.toNatClampNeg)) < (fn_X12_worthOf σ6 x2 ((gI σ 71 x1.toNatClampNeg) ||| ((1 : Int32) <<< (x4 &&& 31)))) → K_X12_adds_11 d n σ0 Q σ6 x1 x2 x3 (x4 + 1)))))))))))) : K_X12_adds_11 d n σ0 Q σ x1 x2 x3 x4 := by
  refine e_iload dX12_adds_11 rfl ?_
  refine e_aload_n dX12_adds_13 rfl rfl ?_
  refine e_getI dX12_adds_14 fl_X12_131 (ob_11 hn) rfl ?_
  refine e_icmp_ge (tgt := 129) dX12_adds_17 (by decide) (fun c1 => ?_) (fun c1 => ?_)
  · replace h := h.1 c1
    refine e_iload_n dX12_adds_129 rfl rfl ?_
    refine e_iconst dX12_adds_130 ci_m1 ?_
    refine e_icmp_ne (tgt := 136) dX12_adds_131 (by decide) (fun c2 => ?_) (fun c2 => ?_)
    · replace h := h.1 c2
      refine e_aload_n dX12_adds_136 rfl rfl ?_
      refine e_getR (y := 71) dX12_adds_137 fl_X12_119 (ob_11 hn) rfl rfl ?_
      refine e_iload_n dX12_adds_140 rfl rfl ?_
      refine e_dup2 dX12_adds_141 rfl rfl ?_
      refine e_iald dX12_adds_142 (ar_71 hn) h.1 ?_
      replace h := h.2
      refine e_iconst dX12_adds_143 ci_1 ?_
      refine e_iload_n dX12_adds_144 rfl rfl ?_
      refine e_ishl dX12_adds_145 ?_
      refine e_ior dX12_adds_146 ?_
      refine e_iast dX12_adds_147 (ar_71 hn) h.1 (md_r (m := md_X12_adds) (by decide)) ?_
      replace h := h.2
      refine e_iconst dX12_adds_148 ci_1 ?_
      exact e_zret dX12_adds_149 rfl (nar_z (Or.inr rfl)) ⟨_, rfl, h⟩
    · replace h := h.2 c2
      refine e_iconst dX12_adds_134 ci_0 ?_
      exact e_zret dX12_adds_135 rfl (nar_z (Or.inl rfl)) ⟨_, rfl, h⟩
  · replace h := h.2 c1
    refine e_aload_n dX12_adds_20 rfl rfl ?_
    refine e_getR (y := 71) dX12_adds_21 fl_X12_119 (ob_11 hn) rfl rfl ?_
    refine e_iload_n dX12_adds_24 rfl rfl ?_
    refine e_iald dX12_adds_25 (ar_71 hn) h.1 ?_
    replace h := h.2
    refine e_iconst dX12_adds_26 ci_1 ?_
    refine e_iload dX12_adds_27 rfl ?_
    refine e_ishl dX12_adds_29 ?_
    refine e_ior dX12_adds_30 ?_
    refine e_istore dX12_adds_31 rfl (by decide) ?_
    refine e_aload_n dX12_adds_33 rfl rfl ?_
    refine e_getR (y := 71) dX12_adds_34 fl_X12_119 (ob_11 hn) rfl rfl ?_
    refine e_iload_n dX12_adds_37 rfl rfl ?_
    refine e_iald dX12_adds_38 (ar_71 hn) h.1 ?_
    replace h := h.2
    refine e_iload dX12_adds_39 rfl ?_
    refine e_callS (M' := M_X12_holds) (as := [.int (gI σ 71 x1.toNatClampNeg), .int x4]) (rest := []) dX12_adds_41 ml_X12_289 mk_X12_holds rfl (Nat.le_of_ble_eq_true rfl) (show 0 < d by omega) (sp_X12_holds) Md_nil (fun v σv hq hf => ?_)
    obtain ⟨v, rfl, rfl, rfl⟩ := hq
    refine e_if_ne (tgt := 123) dX12_adds_44 (by decide) (fun c3 => ?_) (fun c3 => ?_)
    · replace h := h.1 c3
      refine e_iinc dX12_adds_123 rfl (ii_1 _) rfl (by decide) ?_
      refine e_goto (tgt := 11) dX12_adds_126 (by decide) ?_
      refine e_kill [true, true, true, true, true, false] ?_
      exact h
    · replace h := h.2 c3
      refine e_aload_n dX12_adds_47 rfl rfl ?_
      refine e_iload dX12_adds_48 rfl ?_
      obtain ⟨Q4, hc5, h⟩ := h
      refine e_callV (M' := M_X12_leftOf) (as := [.int x4]) (rest := []) dX12_adds_50 ml_X12_390 mk_X12_leftOf (ob_11 hn) rfl rfl rfl (Nat.le_of_ble_eq_true rfl) (show 0 < d by omega) hc5 (Md_le (b := md_X12_adds) (by decide)) (fun v σ6 hq hf => ?_)
      obtain ⟨v7, rfl, hq⟩ := hq
      replace h := h v7 σ6 hq hf
      refine e_if_le (tgt := 123) dX12_adds_53 (by decide) (fun c10 => ?_) (fun c10 => ?_)
      · replace h := h.1 c10
        refine e_iinc dX12_adds_123 rfl (ii_1 _) rfl (by decide) ?_
        refine e_goto (tgt := 11) dX12_adds_126 (by decide) ?_
        refine e_kill [true, true, true, true, true, false] ?_
        exact h
      · replace h := h.2 c10
        refine e_aload_n dX12_adds_56 rfl rfl ?_
        refine e_iload_n dX12_adds_57 rfl rfl ?_
        refine e_iload dX12_adds_58 rfl ?_
        refine e_callV (M' := M_X12_isLawful) (as := [.int x2, .int ((gI σ 71 x1.toNatClampNeg) ||| ((1 : Int32) <<< (x4 &&& 31)))]) (rest := []) dX12_adds_60 ml_X12_348 mk_X12_isLawful (ob_11 hn) rfl rfl rfl (Nat.le_of_ble_eq_true rfl) (show 0 < d by omega) (sp_X12_isLawful hn h.1) Md_nil (fun v σv hq hf => ?_)
        obtain ⟨v, rfl, rfl, rfl⟩ := hq
        replace h := h.2
        refine e_if_eq (tgt := 123) dX12_adds_63 (by decide) (fun c11 => ?_) (fun c11 => ?_)
        · replace h := h.1 c11
          refine e_iinc dX12_adds_123 rfl (ii_1 _) rfl (by decide) ?_
          refine e_goto (tgt := 11) dX12_adds_126 (by decide) ?_
          refine e_kill [true, true, true, true, true, false] ?_
          exact h
        · replace h := h.2 c11
          refine e_aload_n dX12_adds_66 rfl rfl ?_
          refine e_iload_n dX12_adds_67 rfl rfl ?_
          refine e_iload dX12_adds_68 rfl ?_
          refine e_callV (M' := M_X12_worthOf) (as := [.int x2, .int ((gI σ 71 x1.toNatClampNeg) ||| ((1 : Int32) <<< (x4 &&& 31)))]) (rest := []) dX12_adds_70 ml_X12_354 mk_X12_worthOf (ob_11 hn) rfl rfl rfl (Nat.le_of_ble_eq_true rfl) (show 0 < d by omega) (sp_X12_worthOf hn h.1) Md_nil (fun v σv hq hf => ?_)
          obtain ⟨v, rfl, rfl, rfl⟩ := hq
          replace h := h.2
          refine e_aload_n dX12_adds_73 rfl rfl ?_
          refine e_iload_n dX12_adds_74 rfl rfl ?_
          refine e_aload_n dX12_adds_75 rfl rfl ?_
          refine e_getR (y := 71) dX12_adds_76 fl_X12_119 (ob_11 hn) rfl rfl ?_
          refine e_iload_n dX12_adds_79 rfl rfl ?_
          refine e_iald dX12_adds_80 (ar_71 hn) h.1 ?_
          replace h := h.2
          refine e_callV (M' := M_X12_worthOf) (as := [.int x2, .int (gI σ6 71 x1.toNatClampNeg)]) (rest := [.int (fn_X12_worthOf σ6 x2 ((gI σ 71 x1.toNatClampNeg) ||| ((1 : Int32) <<< (x4 &&& 31))))]) dX12_adds_81 ml_X12_354 mk_X12_worthOf (ob_11 hn) rfl rfl rfl (Nat.le_of_ble_eq_true rfl) (show 0 < d by omega) (sp_X12_worthOf hn h.1) Md_nil (fun v σv hq hf => ?_)
          obtain ⟨v, rfl, rfl, rfl⟩ := hq
          replace h := h.2
          refine e_icmp_gt (tgt := 90) dX12_adds_84 (by decide) (fun c12 => ?_) (fun c12 => ?_)
          · replace h := h.1 c12
            refine e_iload_n dX12_adds_90 rfl rfl ?_
            refine e_iconst dX12_adds_91 ci_m1 ?_
            refine e_icmp_eq (tgt := 120) dX12_adds_92 (by decide) (fun c13 => ?_) (fun c13 => ?_)
            · replace h := h.1 c13
              refine e_iload dX12_adds_120 rfl ?_
              refine e_istore_n dX12_adds_122 rfl rfl (by decide) ?_
              refine e_iinc dX12_adds_123 rfl (ii_1 _) rfl (by decide) ?_
              refine e_goto (tgt := 11) dX12_adds_126 (by decide) ?_
              refine e_kill [true, true, true, true, true, false] ?_
              exact h
            · replace h := h.2 c13
              refine e_aload_n dX12_adds_95 rfl rfl ?_
              refine e_iload_n dX12_adds_96 rfl rfl ?_
              refine e_iload dX12_adds_97 rfl ?_
              refine e_callV (M' := M_X12_worthOf) (as := [.int x2, .int ((gI σ 71 x1.toNatClampNeg) ||| ((1 : Int32) <<< (x4 &&& 31)))]) (rest := []) dX12_adds_99 ml_X12_354 mk_X12_worthOf (ob_11 hn) rfl rfl rfl (Nat.le_of_ble_eq_true rfl) (show 0 < d by omega) (sp_X12_worthOf hn h.1) Md_nil (fun v σv hq hf => ?_)
              obtain ⟨v, rfl, rfl, rfl⟩ := hq
              replace h := h.2
              refine e_aload_n dX12_adds_102 rfl rfl ?_
              refine e_iload_n dX12_adds_103 rfl rfl ?_
              refine e_aload_n dX12_adds_104 rfl rfl ?_
              refine e_getR (y := 71) dX12_adds_105 fl_X12_119 (ob_11 hn) rfl rfl ?_
              refine e_iload_n dX12_adds_108 rfl rfl ?_
              refine e_iald dX12_adds_109 (ar_71 hn) h.1 ?_
              replace h := h.2
              refine e_iconst dX12_adds_110 ci_1 ?_
              refine e_iload_n dX12_adds_111 rfl rfl ?_
              refine e_ishl dX12_adds_112 ?_
              refine e_ior dX12_adds_113 ?_
              refine e_callV (M' := M_X12_worthOf) (as := [.int x2, .int ((gI σ6 71 x1.toNatClampNeg) ||| ((1 : Int32) <<< (x3 &&& 31)))]) (rest := [.int (fn_X12_worthOf σ6 x2 ((gI σ 71 x1.toNatClampNeg) ||| ((1 : Int32) <<< (x4 &&& 31))))]) dX12_adds_114 ml_X12_354 mk_X12_worthOf (ob_11 hn) rfl rfl rfl (Nat.le_of_ble_eq_true rfl) (show 0 < d by omega) (sp_X12_worthOf hn h.1) Md_nil (fun v σv hq hf => ?_)
              obtain ⟨v, rfl, rfl, rfl⟩ := hq
              replace h := h.2
              refine e_icmp_le (tgt := 123) dX12_adds_117 (by decide) (fun c14 => ?_) (fun c14 => ?_)
              · replace h := h.1 c14
                refine e_iinc dX12_adds_123 rfl (ii_1 _) rfl (by decide) ?_
                refine e_goto (tgt := 11) dX12_adds_126 (by decide) ?_
                refine e_kill [true, true, true, true, true, false] ?_
                exact h
              · replace h := h.2 c14
                refine e_iload dX12_adds_120 rfl ?_
                refine e_istore_n dX12_adds_122 rfl rfl (by decide) ?_
                refine e_iinc dX12_adds_123 rfl (ii_1 _) rfl (by decide) ?_
                refine e_goto (tgt := 11) dX12_adds_126 (by decide) ?_
                refine e_kill [true, true, true, true, true, false] ?_
                exact h
          · replace h := h.2 c12
            refine e_goto (tgt := 123) dX12_adds_87 (by decide) ?_
            refine e_iinc dX12_adds_123 rfl (ii_1 _) rfl (by decide) ?_
            refine e_goto (tgt := 11) dX12_adds_126 (by decide) ?_
            refine e_kill [true, true, true, true, true, false] ?_
            exact h
theorem S_X12_adds {d n : Nat} {Q : Int32 → St → Prop} {σ : St} {a1 : Int32} (hn : FIX ≤ n) (hd : 1 ≤ d) (h : K_X12_adds_11 d n σ Q σ a1 (fn_X12_rowOf σ a1) (-1) 0) : Cn d n M_X12_adds md_X12_adds [.ref 11, .int a1] σ (liI Q) := by
  refine Cn.of (k0 := 4) (by decide) rfl ?_
  show Ev (d, n, md_X12_adds, σ, liI Q) M_X12_adds 0 [some (.ref 11), some (.int a1), none, none, none, none] [] σ
  refine e_aload_n dX12_adds_0 rfl rfl ?_
  refine e_iload_n dX12_adds_1 rfl rfl ?_
  refine e_callV (M' := M_X12_rowOf) (as := [.int a1]) (rest := []) dX12_adds_2 ml_X12_339 mk_X12_rowOf (ob_11 hn) rfl rfl rfl (Nat.le_of_ble_eq_true rfl) (show 0 < d by omega) (sp_X12_rowOf hn) Md_nil (fun v σv hq hf => ?_)
  obtain ⟨v, rfl, rfl, rfl⟩ := hq
  refine e_istore_n dX12_adds_5 rfl rfl (by decide) ?_
  refine e_iconst dX12_adds_6 ci_m1 ?_
  refine e_istore_n dX12_adds_7 rfl rfl (by decide) ?_
  refine e_iconst dX12_adds_8 ci_0 ?_
  refine e_istore dX12_adds_9 rfl (by decide) ?_
  exact h
abbrev K_X12_allAdd_4 (d n : Nat) (σ0 : St) (Q : Int32 → St → Prop) (σ : St) (x1 : Int32) (x2 : Int32) (x3 : Int32) : Prop := Ev (d, n, md_X12_allAdd, σ0, liI Q) M_X12_allAdd 4 [some (.ref 11), some (.int x1), some (.int x2), some (.int x3)] [] σ
theorem B_X12_allAdd_4 {d n : Nat} {σ0 : St} {Q : Int32 → St → Prop}  {σ : St} {x1 : Int32} {x2 : Int32} {x3 : Int32} (hn : FIX ≤ n) (hd : 1 ≤ d) (h : (((gI σ 11 1) ≤ x3 → (x2 = 0 ∨ x2 = 1) ∧ Q x2 σ) ∧ (¬ (gI σ 11 1) ≤ x3 → ((x1 = 0 → ∃ Q3 : Int32 → St → Prop, Cn (d - 1) n M_X12_adds md_X12_adds [.ref 11, .int x3] σ (liI Q3) ∧ ∀ (v6 : Int32) (σ5 : St), Q3 v6 σ5 → Fr md_X12_adds σ σ5 → ((v6 ≠ 0 → K_X12_allAdd_4 d n σ0 Q σ5 x1 1 (x3 + 1)) ∧ (v6 = 0 → ((x2 = 0 → K_X12_allAdd_4 d n σ0 Q σ5 x1 0 (x3 + 1)) ∧ (¬ x2 = 0 → K_X12_allAdd_4 d n σ0 Q σ5 x1 1 (x3 + 1)))))) ∧ (¬ x1 = 0 → ∃ Q11 : Int32 → St → Prop, Cn (d - 1) n M_X12_adds md_X12_adds [.ref 11, .int (((gI σ 11 1) - 1) - x3)] σ (liI Q11) ∧ ∀ (v14 : Int32) (σ13 : St), Q11 v14 σ13 → Fr md_X12_adds σ σ13 → ((v14 ≠ 0 → K_X12_allAdd_4 d n σ0 Q σ13 x1 1 (x3 + 1)) ∧ (v14 = 0 → ((x2 = 0 → K_X12_allAdd_4 d n σ0 Q σ13 x1 0 (x3 + 1)) ∧ (¬ x2 = 0 → K_X12_allAdd_4 d n σ0 Q σ13 x1 1 (x3 + 1)))))))))) : K_X12_allAdd_4 d n σ0 Q σ x1 x2 x3 := by
  refine e_iload_n dX12_allAdd_4 rfl rfl ?_
  refine e_aload_n dX12_allAdd_5 rfl rfl ?_
  refine e_getI dX12_allAdd_6 fl_X12_138 (ob_11 hn) rfl ?_
  refine e_icmp_ge (tgt := 51) dX12_allAdd_9 (by decide) (fun c1 => ?_) (fun c1 => ?_)
  · replace h := h.1 c1
    refine e_iload_n dX12_allAdd_51 rfl rfl ?_
    exact e_zret dX12_allAdd_52 rfl (nar_z h.1) ⟨_, rfl, h.2⟩
  · replace h := h.2 c1
    refine e_aload_n dX12_allAdd_12 rfl rfl ?_
    refine e_iload_n dX12_allAdd_13 rfl rfl ?_
    refine e_if_eq (tgt := 28) dX12_allAdd_14 (by decide) (fun c2 => ?_) (fun c2 => ?_)
    · replace h := h.1 c2
      refine e_iload_n dX12_allAdd_28 rfl rfl ?_
      obtain ⟨Q3, hc4, h⟩ := h
      refine e_callV (M' := M_X12_adds) (as := [.int x3]) (rest := []) dX12_allAdd_29 ml_X12_393 mk_X12_adds (ob_11 hn) rfl rfl rfl (Nat.le_of_ble_eq_true rfl) (show 0 < d by omega) hc4 (Md_le (b := md_X12_allAdd) (by decide)) (fun v σ5 hq hf => ?_)
      obtain ⟨v6, rfl, hq⟩ := hq
      replace h := h v6 σ5 hq hf
      refine e_if_ne (tgt := 39) dX12_allAdd_32 (by decide) (fun c9 => ?_) (fun c9 => ?_)
      · replace h := h.1 c9
        refine e_iconst dX12_allAdd_39 ci_1 ?_
        refine e_goto (tgt := 44) dX12_allAdd_40 (by decide) ?_
        refine e_istore_n dX12_allAdd_44 rfl rfl (by decide) ?_
        refine e_iinc dX12_allAdd_45 rfl (ii_1 _) rfl (by decide) ?_
        refine e_goto (tgt := 4) dX12_allAdd_48 (by decide) ?_
        exact h
      · replace h := h.2 c9
        refine e_iload_n dX12_allAdd_35 rfl rfl ?_
        refine e_if_eq (tgt := 43) dX12_allAdd_36 (by decide) (fun c10 => ?_) (fun c10 => ?_)
        · replace h := h.1 c10
          refine e_iconst dX12_allAdd_43 ci_0 ?_
          refine e_istore_n dX12_allAdd_44 rfl rfl (by decide) ?_
          refine e_iinc dX12_allAdd_45 rfl (ii_1 _) rfl (by decide) ?_
          refine e_goto (tgt := 4) dX12_allAdd_48 (by decide) ?_
          exact h
        · replace h := h.2 c10
          refine e_iconst dX12_allAdd_39 ci_1 ?_
          refine e_goto (tgt := 44) dX12_allAdd_40 (by decide) ?_
          refine e_istore_n dX12_allAdd_44 rfl rfl (by decide) ?_
          refine e_iinc dX12_allAdd_45 rfl (ii_1 _) rfl (by decide) ?_
          refine e_goto (tgt := 4) dX12_allAdd_48 (by decide) ?_
          exact h
    · replace h := h.2 c2
      refine e_aload_n dX12_allAdd_17 rfl rfl ?_
      refine e_getI dX12_allAdd_18 fl_X12_138 (ob_11 hn) rfl ?_
      refine e_iconst dX12_allAdd_21 ci_1 ?_
      refine e_isub dX12_allAdd_22 ?_
      refine e_iload_n dX12_allAdd_23 rfl rfl ?_
      refine e_isub dX12_allAdd_24 ?_
      refine e_goto (tgt := 29) dX12_allAdd_25 (by decide) ?_
      obtain ⟨Q11, hc12, h⟩ := h
      refine e_callV (M' := M_X12_adds) (as := [.int (((gI σ 11 1) - 1) - x3)]) (rest := []) dX12_allAdd_29 ml_X12_393 mk_X12_adds (ob_11 hn) rfl rfl rfl (Nat.le_of_ble_eq_true rfl) (show 0 < d by omega) hc12 (Md_le (b := md_X12_allAdd) (by decide)) (fun v σ13 hq hf => ?_)
      obtain ⟨v14, rfl, hq⟩ := hq
      replace h := h v14 σ13 hq hf
      refine e_if_ne (tgt := 39) dX12_allAdd_32 (by decide) (fun c17 => ?_) (fun c17 => ?_)
      · replace h := h.1 c17
        refine e_iconst dX12_allAdd_39 ci_1 ?_
        refine e_goto (tgt := 44) dX12_allAdd_40 (by decide) ?_
        refine e_istore_n dX12_allAdd_44 rfl rfl (by decide) ?_
        refine e_iinc dX12_allAdd_45 rfl (ii_1 _) rfl (by decide) ?_
        refine e_goto (tgt := 4) dX12_allAdd_48 (by decide) ?_
        exact h
      · replace h := h.2 c17
        refine e_iload_n dX12_allAdd_35 rfl rfl ?_
        refine e_if_eq (tgt := 43) dX12_allAdd_36 (by decide) (fun c18 => ?_) (fun c18 => ?_)
        · replace h := h.1 c18
          refine e_iconst dX12_allAdd_43 ci_0 ?_
          refine e_istore_n dX12_allAdd_44 rfl rfl (by decide) ?_
          refine e_iinc dX12_allAdd_45 rfl (ii_1 _) rfl (by decide) ?_
          refine e_goto (tgt := 4) dX12_allAdd_48 (by decide) ?_
          exact h
        · replace h := h.2 c18
          refine e_iconst dX12_allAdd_39 ci_1 ?_
          refine e_goto (tgt := 44) dX12_allAdd_40 (by decide) ?_
          refine e_istore_n dX12_allAdd_44 rfl rfl (by decide) ?_
          refine e_iinc dX12_allAdd_45 rfl (ii_1 _) rfl (by decide) ?_
          refine e_goto (tgt := 4) dX12_allAdd_48 (by decide) ?_
          exact h
theorem S_X12_allAdd {d n : Nat} {Q : Int32 → St → Prop} {σ : St} {a1 : Int32} (hn : FIX ≤ n) (hd : 1 ≤ d) (h : K_X12_allAdd_4 d n σ Q σ a1 0 0) : Cn d n M_X12_allAdd md_X12_allAdd [.ref 11, .int a1] σ (liI Q) := by
  refine Cn.of (k0 := 2) (by decide) rfl ?_
  show Ev (d, n, md_X12_allAdd, σ, liI Q) M_X12_allAdd 0 [some (.ref 11), some (.int a1), none, none] [] σ
  refine e_iconst dX12_allAdd_0 ci_0 ?_
  refine e_istore_n dX12_allAdd_1 rfl rfl (by decide) ?_
  refine e_iconst dX12_allAdd_2 ci_0 ?_
  refine e_istore_n dX12_allAdd_3 rfl rfl (by decide) ?_
  exact h
abbrev K_X12_mends_0 (d n : Nat) (σ0 : St) (Q : St → Prop) (σ : St) : Prop := Ev (d, n, md_X12_mends, σ0, liV Q) M_X12_mends 0 [some (.ref 11), none, none] [] σ
abbrev K_X12_mends_9 (d n : Nat) (σ0 : St) (Q : St → Prop) (σ : St) (x1 : Int32) (x2 : Int32) : Prop := Ev (d, n, md_X12_mends, σ0, liV Q) M_X12_mends 9 [some (.ref 11), some (.int x1), some (.int x2)] [] σ
abbrev K_X12_mends_80 (d n : Nat) (σ0 : St) (Q : St → Prop) (σ : St) (x1 : Int32) : Prop := Ev (d, n, md_X12_mends, σ0, liV Q) M_X12_mends 80 [some (.ref 11), some (.int x1), none] [] σ
abbrev K_X12_mends_108 (d n : Nat) (σ0 : St) (Q : St → Prop) (σ : St) (x1 : Int32) : Prop := Ev (d, n, md_X12_mends, σ0, liV Q) M_X12_mends 108 [some (.ref 11), some (.int x1), none] [] σ
theorem B_X12_mends_0 {d n : Nat} {σ0 : St} {Q : St → Prop}  {σ : St}  (hn : FIX ≤ n) (hd : 1 ≤ d) (h : ∃ Q1 : Int32 → St → Prop, Cn (d - 1) n M_X12_squares md_X12_squares [.ref 11] σ (liI Q1) ∧ ∀ (v4 : Int32) (σ3 : St), Q1 v4 σ3 → Fr md_X12_squares σ σ3 → K_X12_mends_9 d n σ0 Q σ3 (-1) 0) : K_X12_mends_0 d n σ0 Q σ := by
  refine e_aload_n dX12_mends_0 rfl rfl ?_
  obtain ⟨Q1, hc2, h⟩ := h
  refine e_callV (M' := M_X12_squares) (as := []) (rest := []) dX12_mends_1 ml_X12_366 mk_X12_squares (ob_11 hn) rfl rfl rfl (Nat.le_of_ble_eq_true rfl) (show 0 < d by omega) hc2 (Md_le (b := md_X12_mends) (by decide)) (fun v σ3 hq hf => ?_)
  obtain ⟨v4, rfl, hq⟩ := hq
  replace h := h v4 σ3 hq hf
  refine e_pop dX12_mends_4 rfl ?_
  refine e_iconst dX12_mends_5 ci_m1 ?_
  refine e_istore_n dX12_mends_6 rfl rfl (by decide) ?_
  refine e_iconst dX12_mends_7 ci_0 ?_
  refine e_istore_n dX12_mends_8 rfl rfl (by decide) ?_
  exact h
theorem B_X12_mends_9 {d n : Nat} {σ0 : St} {Q : St → Prop}  {σ : St} {x1 : Int32} {x2 : Int32} (hn : FIX ≤ n) (hd : 1 ≤ d) (h : (((gI σ 11 0) ≤ x2 → ((x1 ≠ (-1) → vp_in x1 10 ∧ vp_in x1 10 ∧ K_X12_mends_0 d n σ0 Q (sI σ 63 x1.toNatClampNeg ((gI σ 63 x1.toNatClampNeg) + (gI σ 11 4)))) ∧ (x1 = (-1) → K_X12_mends_80 d n σ0 Q σ 0))) ∧ (¬ (gI σ 11 0) ≤ x2 → vp_in x2 10 ∧ (((gI σ 65 x2.toNatClampNeg) ≤ 0 → K_X12_mends_9 d n σ0 Q σ x1 (x2 + 1)) ∧ (¬ (gI σ 65 x2.toNatClampNeg) ≤ 0 → ((x1 = (-1) → K_X12_mends_9 d n σ0 Q σ x2 (x2 + 1)) ∧ (¬ x1 = (-1) → vp_in x2 10 ∧ vp_in x1 10 ∧ (((gI σ 65 x2.toNatClampNeg) ≤ (gI σ 65 x1.toNatClampNeg) → K_X12_mends_9 d n σ0 Q σ x1 (x2 + 1)) ∧ (¬ (gI σ 65 x2.toNatClampNeg) ≤ (gI σ 65 x1.toNatClampNeg) → K_X12_mends_9 d n σ0 Q σ x2 (x2 + 1)))))))))) : K_X12_mends_9 d n σ0 Q σ x1 x2 := by
  refine e_iload_n dX12_mends_9 rfl rfl ?_
  refine e_aload_n dX12_mends_10 rfl rfl ?_
  refine e_getI dX12_mends_11 fl_X12_131 (ob_11 hn) rfl ?_
  refine e_icmp_ge (tgt := 54) dX12_mends_14 (by decide) (fun c1 => ?_) (fun c1 => ?_)
  · replace h := h.1 c1
    refine e_iload_n dX12_mends_54 rfl rfl ?_
    refine e_iconst dX12_mends_55 ci_m1 ?_
    refine e_icmp_ne (tgt := 62) dX12_mends_56 (by decide) (fun c2 => ?_) (fun c2 => ?_)
    · replace h := h.1 c2
      refine e_aload_n dX12_mends_62 rfl rfl ?_
      refine e_getR (y := 63) dX12_mends_63 fl_X12_95 (ob_11 hn) rfl rfl ?_
      refine e_iload_n dX12_mends_66 rfl rfl ?_
      refine e_dup2 dX12_mends_67 rfl rfl ?_
      refine e_iald dX12_mends_68 (ar_63 hn) h.1 ?_
      replace h := h.2
      refine e_aload_n dX12_mends_69 rfl rfl ?_
      refine e_getI dX12_mends_70 fl_X12_13 (ob_11 hn) rfl ?_
      refine e_iadd dX12_mends_73 ?_
      refine e_iast dX12_mends_74 (ar_63 hn) h.1 (md_r (m := md_X12_mends) (by decide)) ?_
      replace h := h.2
      refine e_goto (tgt := 0) dX12_mends_75 (by decide) ?_
      refine e_kill [true, false, false] ?_
      exact h
    · replace h := h.2 c2
      refine e_goto (tgt := 78) dX12_mends_59 (by decide) ?_
      refine e_iconst dX12_mends_78 ci_0 ?_
      refine e_istore_n dX12_mends_79 rfl rfl (by decide) ?_
      refine e_kill [true, true, false] ?_
      exact h
  · replace h := h.2 c1
    refine e_aload_n dX12_mends_17 rfl rfl ?_
    refine e_getR (y := 65) dX12_mends_18 fl_X12_101 (ob_11 hn) rfl rfl ?_
    refine e_iload_n dX12_mends_21 rfl rfl ?_
    refine e_iald dX12_mends_22 (ar_65 hn) h.1 ?_
    replace h := h.2
    refine e_if_le (tgt := 48) dX12_mends_23 (by decide) (fun c3 => ?_) (fun c3 => ?_)
    · replace h := h.1 c3
      refine e_iinc dX12_mends_48 rfl (ii_1 _) rfl (by decide) ?_
      refine e_goto (tgt := 9) dX12_mends_51 (by decide) ?_
      exact h
    · replace h := h.2 c3
      refine e_iload_n dX12_mends_26 rfl rfl ?_
      refine e_iconst dX12_mends_27 ci_m1 ?_
      refine e_icmp_eq (tgt := 46) dX12_mends_28 (by decide) (fun c4 => ?_) (fun c4 => ?_)
      · replace h := h.1 c4
        refine e_iload_n dX12_mends_46 rfl rfl ?_
        refine e_istore_n dX12_mends_47 rfl rfl (by decide) ?_
        refine e_iinc dX12_mends_48 rfl (ii_1 _) rfl (by decide) ?_
        refine e_goto (tgt := 9) dX12_mends_51 (by decide) ?_
        exact h
      · replace h := h.2 c4
        refine e_aload_n dX12_mends_31 rfl rfl ?_
        refine e_getR (y := 65) dX12_mends_32 fl_X12_101 (ob_11 hn) rfl rfl ?_
        refine e_iload_n dX12_mends_35 rfl rfl ?_
        refine e_iald dX12_mends_36 (ar_65 hn) h.1 ?_
        replace h := h.2
        refine e_aload_n dX12_mends_37 rfl rfl ?_
        refine e_getR (y := 65) dX12_mends_38 fl_X12_101 (ob_11 hn) rfl rfl ?_
        refine e_iload_n dX12_mends_41 rfl rfl ?_
        refine e_iald dX12_mends_42 (ar_65 hn) h.1 ?_
        replace h := h.2
        refine e_icmp_le (tgt := 48) dX12_mends_43 (by decide) (fun c5 => ?_) (fun c5 => ?_)
        · replace h := h.1 c5
          refine e_iinc dX12_mends_48 rfl (ii_1 _) rfl (by decide) ?_
          refine e_goto (tgt := 9) dX12_mends_51 (by decide) ?_
          exact h
        · replace h := h.2 c5
          refine e_iload_n dX12_mends_46 rfl rfl ?_
          refine e_istore_n dX12_mends_47 rfl rfl (by decide) ?_
          refine e_iinc dX12_mends_48 rfl (ii_1 _) rfl (by decide) ?_
          refine e_goto (tgt := 9) dX12_mends_51 (by decide) ?_
          exact h
theorem B_X12_mends_80 {d n : Nat} {σ0 : St} {Q : St → Prop}  {σ : St} {x1 : Int32} (hn : FIX ≤ n) (hd : 1 ≤ d) (h : (((gI σ 11 1) ≤ x1 → K_X12_mends_108 d n σ0 Q σ 1) ∧ (¬ (gI σ 11 1) ≤ x1 → vp_in x1 8 ∧ vp_in x1 8 ∧ K_X12_mends_80 d n σ0 Q (sI σ 71 x1.toNatClampNeg (gI σ 64 x1.toNatClampNeg)) (x1 + 1)))) : K_X12_mends_80 d n σ0 Q σ x1 := by
  refine e_iload_n dX12_mends_80 rfl rfl ?_
  refine e_aload_n dX12_mends_81 rfl rfl ?_
  refine e_getI dX12_mends_82 fl_X12_138 (ob_11 hn) rfl ?_
  refine e_icmp_ge (tgt := 106) dX12_mends_85 (by decide) (fun c1 => ?_) (fun c1 => ?_)
  · replace h := h.1 c1
    refine e_iconst dX12_mends_106 ci_1 ?_
    refine e_istore_n dX12_mends_107 rfl rfl (by decide) ?_
    exact h
  · replace h := h.2 c1
    refine e_aload_n dX12_mends_88 rfl rfl ?_
    refine e_getR (y := 71) dX12_mends_89 fl_X12_119 (ob_11 hn) rfl rfl ?_
    refine e_iload_n dX12_mends_92 rfl rfl ?_
    refine e_aload_n dX12_mends_93 rfl rfl ?_
    refine e_getR (y := 64) dX12_mends_94 fl_X12_98 (ob_11 hn) rfl rfl ?_
    refine e_iload_n dX12_mends_97 rfl rfl ?_
    refine e_iald dX12_mends_98 (ar_64 hn) h.1 ?_
    replace h := h.2
    refine e_iast dX12_mends_99 (ar_71 hn) h.1 (md_r (m := md_X12_mends) (by decide)) ?_
    replace h := h.2
    refine e_iinc dX12_mends_100 rfl (ii_1 _) rfl (by decide) ?_
    refine e_goto (tgt := 80) dX12_mends_103 (by decide) ?_
    exact h
theorem B_X12_mends_108 {d n : Nat} {σ0 : St} {Q : St → Prop}  {σ : St} {x1 : Int32} (hn : FIX ≤ n) (hd : 1 ≤ d) (h : ((x1 = 0 → Q σ) ∧ (¬ x1 = 0 → ∃ Q2 : Int32 → St → Prop, Cn (d - 1) n M_X12_allAdd md_X12_allAdd [.ref 11, .int 0] σ (liI Q2) ∧ ∀ (v5 : Int32) (σ4 : St), Q2 v5 σ4 → Fr md_X12_allAdd σ σ4 → K_X12_mends_108 d n σ0 Q σ4 v5))) : K_X12_mends_108 d n σ0 Q σ x1 := by
  refine e_iload_n dX12_mends_108 rfl rfl ?_
  refine e_if_eq (tgt := 121) dX12_mends_109 (by decide) (fun c1 => ?_) (fun c1 => ?_)
  · replace h := h.1 c1
    exact e_vret dX12_mends_121 rfl ⟨rfl, h⟩
  · replace h := h.2 c1
    refine e_aload_n dX12_mends_112 rfl rfl ?_
    refine e_iconst dX12_mends_113 ci_0 ?_
    obtain ⟨Q2, hc3, h⟩ := h
    refine e_callV (M' := M_X12_allAdd) (as := [.int 0]) (rest := []) dX12_mends_114 ml_X12_396 mk_X12_allAdd (ob_11 hn) rfl rfl rfl (Nat.le_of_ble_eq_true rfl) (show 0 < d by omega) hc3 (Md_le (b := md_X12_mends) (by decide)) (fun v σ4 hq hf => ?_)
    obtain ⟨v5, rfl, hq⟩ := hq
    replace h := h v5 σ4 hq hf
    refine e_istore_n dX12_mends_117 rfl rfl (by decide) ?_
    refine e_goto (tgt := 108) dX12_mends_118 (by decide) ?_
    exact h
theorem S_X12_mends {d n : Nat} {Q : St → Prop} {σ : St}  (hn : FIX ≤ n) (hd : 1 ≤ d) (h : K_X12_mends_0 d n σ Q σ) : Cn d n M_X12_mends md_X12_mends [.ref 11] σ (liV Q) := by
  refine Cn.of (k0 := 2) (by decide) rfl ?_
  show Ev (d, n, md_X12_mends, σ, liV Q) M_X12_mends 0 [some (.ref 11), none, none] [] σ
  exact h
abbrev K_X12_turns_2 (d n : Nat) (σ0 : St) (Q : St → Prop) (σ : St) (x1 : Int32) : Prop := Ev (d, n, md_X12_turns, σ0, liV Q) M_X12_turns 2 [some (.ref 11), some (.int x1)] [] σ
theorem B_X12_turns_2 {d n : Nat} {σ0 : St} {Q : St → Prop}  {σ : St} {x1 : Int32} (hn : FIX ≤ n) (hd : 1 ≤ d) (h : ∃ Q1 : Int32 → St → Prop, Cn (d - 1) n M_X12_allAdd md_X12_allAdd [.ref 11, .int x1] σ (liI Q1) ∧ ∀ (v4 : Int32) (σ3 : St), Q1 v4 σ3 → Fr md_X12_allAdd σ σ3 → ((v4 = 0 → Q σ3) ∧ (¬ v4 = 0 → ((x1 ≠ 0 → K_X12_turns_2 d n σ0 Q σ3 0) ∧ (x1 = 0 → K_X12_turns_2 d n σ0 Q σ3 1))))) : K_X12_turns_2 d n σ0 Q σ x1 := by
  refine e_aload_n dX12_turns_2 rfl rfl ?_
  refine e_iload_n dX12_turns_3 rfl rfl ?_
  obtain ⟨Q1, hc2, h⟩ := h
  refine e_callV (M' := M_X12_allAdd) (as := [.int x1]) (rest := []) dX12_turns_4 ml_X12_396 mk_X12_allAdd (ob_11 hn) rfl rfl rfl (Nat.le_of_ble_eq_true rfl) (show 0 < d by omega) hc2 (Md_le (b := md_X12_turns) (by decide)) (fun v σ3 hq hf => ?_)
  obtain ⟨v4, rfl, hq⟩ := hq
  replace h := h v4 σ3 hq hf
  refine e_if_eq (tgt := 23) dX12_turns_7 (by decide) (fun c7 => ?_) (fun c7 => ?_)
  · replace h := h.1 c7
    exact e_vret dX12_turns_23 rfl ⟨rfl, h⟩
  · replace h := h.2 c7
    refine e_iload_n dX12_turns_10 rfl rfl ?_
    refine e_if_ne (tgt := 18) dX12_turns_11 (by decide) (fun c8 => ?_) (fun c8 => ?_)
    · replace h := h.1 c8
      refine e_iconst dX12_turns_18 ci_0 ?_
      refine e_istore_n dX12_turns_19 rfl rfl (by decide) ?_
      refine e_goto (tgt := 2) dX12_turns_20 (by decide) ?_
      exact h
    · replace h := h.2 c8
      refine e_iconst dX12_turns_14 ci_1 ?_
      refine e_goto (tgt := 19) dX12_turns_15 (by decide) ?_
      refine e_istore_n dX12_turns_19 rfl rfl (by decide) ?_
      refine e_goto (tgt := 2) dX12_turns_20 (by decide) ?_
      exact h
theorem S_X12_turns {d n : Nat} {Q : St → Prop} {σ : St}  (hn : FIX ≤ n) (hd : 1 ≤ d) (h : K_X12_turns_2 d n σ Q σ 0) : Cn d n M_X12_turns md_X12_turns [.ref 11] σ (liV Q) := by
  refine Cn.of (k0 := 1) (by decide) rfl ?_
  show Ev (d, n, md_X12_turns, σ, liV Q) M_X12_turns 0 [some (.ref 11), none] [] σ
  refine e_iconst dX12_turns_0 ci_0 ?_
  refine e_istore_n dX12_turns_1 rfl rfl (by decide) ?_
  exact h
abbrev K_X12_bids_2 (d n : Nat) (σ0 : St) (Q : St → Prop) (σ : St) (x1 : Int32) : Prop := Ev (d, n, md_X12_bids, σ0, liV Q) M_X12_bids 2 [some (.ref 11), some (.int x1), none, none] [] σ
abbrev K_X12_bids_21 (d n : Nat) (σ0 : St) (Q : St → Prop) (σ : St) : Prop := Ev (d, n, md_X12_bids, σ0, liV Q) M_X12_bids 21 [some (.ref 11), none, none, none] [] σ
abbrev K_X12_bids_25 (d n : Nat) (σ0 : St) (Q : St → Prop) (σ : St) (x1 : Int32) (x2 : Int32) : Prop := Ev (d, n, md_X12_bids, σ0, liV Q) M_X12_bids 25 [some (.ref 11), some (.int x1), some (.int x2), none] [] σ
abbrev K_X12_bids_35 (d n : Nat) (σ0 : St) (Q : St → Prop) (σ : St) (x1 : Int32) (x2 : Int32) (x3 : Int32) : Prop := Ev (d, n, md_X12_bids, σ0, liV Q) M_X12_bids 35 [some (.ref 11), some (.int x1), some (.int x2), some (.int x3)] [] σ
theorem B_X12_bids_2 {d n : Nat} {σ0 : St} {Q : St → Prop}  {σ : St} {x1 : Int32} (hn : FIX ≤ n) (hd : 2 ≤ d) (h : (((80 : Int32) ≤ x1 → K_X12_bids_21 d n σ0 Q σ) ∧ (¬ (80 : Int32) ≤ x1 → vp_in x1 80 ∧ K_X12_bids_2 d n σ0 Q (sI σ 72 x1.toNatClampNeg (vp_nar .boolean 0)) (x1 + 1)))) : K_X12_bids_2 d n σ0 Q σ x1 := by
  refine e_iload_n dX12_bids_2 rfl rfl ?_
  refine e_bipush dX12_bids_3 cb_80 ?_
  refine e_icmp_ge (tgt := 21) dX12_bids_5 (by decide) (fun c1 => ?_) (fun c1 => ?_)
  · replace h := h.1 c1
    refine e_kill [true, false, false, false] ?_
    exact h
  · replace h := h.2 c1
    refine e_aload_n dX12_bids_8 rfl rfl ?_
    refine e_getR (y := 72) dX12_bids_9 fl_X12_122 (ob_11 hn) rfl rfl ?_
    refine e_iload_n dX12_bids_12 rfl rfl ?_
    refine e_iconst dX12_bids_13 ci_0 ?_
    refine e_zast dX12_bids_14 (ar_72 hn) h.1 (md_r (m := md_X12_bids) (by decide)) ?_
    replace h := h.2
    refine e_iinc dX12_bids_15 rfl (ii_1 _) rfl (by decide) ?_
    refine e_goto (tgt := 2) dX12_bids_18 (by decide) ?_
    exact h
theorem B_X12_bids_21 {d n : Nat} {σ0 : St} {Q : St → Prop}  {σ : St}  (hn : FIX ≤ n) (hd : 2 ≤ d) (h : K_X12_bids_25 d n σ0 Q σ (-1) 0) : K_X12_bids_21 d n σ0 Q σ := by
  refine e_iconst dX12_bids_21 ci_m1 ?_
  refine e_istore_n dX12_bids_22 rfl rfl (by decide) ?_
  refine e_iconst dX12_bids_23 ci_0 ?_
  refine e_istore_n dX12_bids_24 rfl rfl (by decide) ?_
  exact h
theorem B_X12_bids_25 {d n : Nat} {σ0 : St} {Q : St → Prop}  {σ : St} {x1 : Int32} {x2 : Int32} (hn : FIX ≤ n) (hd : 2 ≤ d) (h : (((gI σ 11 1) ≤ x2 → ((x1 ≠ (-1) → vp_in x1 80 ∧ vp_in (x1 / 10) 8 ∧ ∃ Q3 : Int32 → St → Prop, Cn (d - 1) n M_X12_leftOf md_X12_leftOf [.ref 11, .int (x1 - x1 / 10 * 10)] (sI σ 72 x1.toNatClampNeg (vp_nar .boolean 1)) (liI Q3) ∧ ∀ (v6 : Int32) (σ5 : St), Q3 v6 σ5 → Fr md_X12_leftOf (sI σ 72 x1.toNatClampNeg (vp_nar .boolean 1)) σ5 → ((v6 ≤ 0 → K_X12_bids_21 d n σ0 Q σ5) ∧ (¬ v6 ≤ 0 → pre_X12_isLawful σ5 (fn_X12_rowOf σ5 (x1 / 10)) ((gI (sI σ 72 x1.toNatClampNeg (vp_nar .boolean 1)) 71 (x1 / 10).toNatClampNeg) ||| ((1 : Int32) <<< ((x1 - x1 / 10 * 10) &&& 31))) ∧ (((fn_X12_isLawful σ5 (fn_X12_rowOf σ5 (x1 / 10)) ((gI (sI σ 72 x1.toNatClampNeg (vp_nar .boolean 1)) 71 (x1 / 10).toNatClampNeg) ||| ((1 : Int32) <<< ((x1 - x1 / 10 * 10) &&& 31)))) = 0 → K_X12_bids_21 d n σ0 Q σ5) ∧ (¬ (fn_X12_isLawful σ5 (fn_X12_rowOf σ5 (x1 / 10)) ((gI (sI σ 72 x1.toNatClampNeg (vp_nar .boolean 1)) 71 (x1 / 10).toNatClampNeg) ||| ((1 : Int32) <<< ((x1 - x1 / 10 * 10) &&& 31)))) = 0 → vp_in (x1 / 10) 8 ∧ K_X12_bids_21 d n σ0 Q (sI σ5 71 (x1 / 10).toNatClampNeg ((gI (sI σ 72 x1.toNatClampNeg (vp_nar .boolean 1)) 71 (x1 / 10).toNatClampNeg) ||| ((1 : Int32) <<< ((x1 - x1 / 10 * 10) &&& 31))))))))) ∧ (x1 = (-1) → Q σ))) ∧ (¬ (gI σ 11 1) ≤ x2 → K_X12_bids_35 d n σ0 Q σ x1 x2 0))) : K_X12_bids_25 d n σ0 Q σ x1 x2 := by
  refine e_iload_n dX12_bids_25 rfl rfl ?_
  refine e_aload_n dX12_bids_26 rfl rfl ?_
  refine e_getI dX12_bids_27 fl_X12_138 (ob_11 hn) rfl ?_
  refine e_icmp_ge (tgt := 114) dX12_bids_30 (by decide) (fun c1 => ?_) (fun c1 => ?_)
  · replace h := h.1 c1
    refine e_iload_n dX12_bids_114 rfl rfl ?_
    refine e_iconst dX12_bids_115 ci_m1 ?_
    refine e_icmp_ne (tgt := 120) dX12_bids_116 (by decide) (fun c2 => ?_) (fun c2 => ?_)
    · replace h := h.1 c2
      refine e_aload_n dX12_bids_120 rfl rfl ?_
      refine e_getR (y := 72) dX12_bids_121 fl_X12_122 (ob_11 hn) rfl rfl ?_
      refine e_iload_n dX12_bids_124 rfl rfl ?_
      refine e_iconst dX12_bids_125 ci_1 ?_
      refine e_zast dX12_bids_126 (ar_72 hn) h.1 (md_r (m := md_X12_bids) (by decide)) ?_
      replace h := h.2
      refine e_iload_n dX12_bids_127 rfl rfl ?_
      refine e_bipush dX12_bids_128 cb_10 ?_
      refine e_idiv dX12_bids_130 (by decide) ?_
      refine e_istore_n dX12_bids_131 rfl rfl (by decide) ?_
      refine e_aload_n dX12_bids_132 rfl rfl ?_
      refine e_getR (y := 71) dX12_bids_133 fl_X12_119 (ob_11 hn) rfl rfl ?_
      refine e_iload_n dX12_bids_136 rfl rfl ?_
      refine e_iald dX12_bids_137 (ar_71 hn) h.1 ?_
      replace h := h.2
      refine e_iconst dX12_bids_138 ci_1 ?_
      refine e_iload_n dX12_bids_139 rfl rfl ?_
      refine e_bipush dX12_bids_140 cb_10 ?_
      refine e_irem dX12_bids_142 (by decide) ?_
      refine e_ishl dX12_bids_143 ?_
      refine e_ior dX12_bids_144 ?_
      refine e_istore_n dX12_bids_145 rfl rfl (by decide) ?_
      refine e_aload_n dX12_bids_146 rfl rfl ?_
      refine e_iload_n dX12_bids_147 rfl rfl ?_
      refine e_bipush dX12_bids_148 cb_10 ?_
      refine e_irem dX12_bids_150 (by decide) ?_
      obtain ⟨Q3, hc4, h⟩ := h
      refine e_callV (M' := M_X12_leftOf) (as := [.int (x1 - x1 / 10 * 10)]) (rest := []) dX12_bids_151 ml_X12_390 mk_X12_leftOf (ob_11 hn) rfl rfl rfl (Nat.le_of_ble_eq_true rfl) (show 0 < d by omega) hc4 (Md_le (b := md_X12_bids) (by decide)) (fun v σ5 hq hf => ?_)
      obtain ⟨v6, rfl, hq⟩ := hq
      replace h := h v6 σ5 hq hf
      refine e_if_le (tgt := 177) dX12_bids_154 (by decide) (fun c9 => ?_) (fun c9 => ?_)
      · replace h := h.1 c9
        refine e_goto (tgt := 21) dX12_bids_177 (by decide) ?_
        refine e_kill [true, false, false, false] ?_
        exact h
      · replace h := h.2 c9
        refine e_aload_n dX12_bids_157 rfl rfl ?_
        refine e_aload_n dX12_bids_158 rfl rfl ?_
        refine e_iload_n dX12_bids_159 rfl rfl ?_
        refine e_callV (M' := M_X12_rowOf) (as := [.int (x1 / 10)]) (rest := [.ref 11]) dX12_bids_160 ml_X12_339 mk_X12_rowOf (ob_11 hn) rfl rfl rfl (Nat.le_of_ble_eq_true rfl) (show 0 < d by omega) (sp_X12_rowOf hn) Md_nil (fun v σv hq hf => ?_)
        obtain ⟨v, rfl, rfl, rfl⟩ := hq
        refine e_iload_n dX12_bids_163 rfl rfl ?_
        refine e_callV (M' := M_X12_isLawful) (as := [.int (fn_X12_rowOf σ5 (x1 / 10)), .int ((gI (sI σ 72 x1.toNatClampNeg (vp_nar .boolean 1)) 71 (x1 / 10).toNatClampNeg) ||| ((1 : Int32) <<< ((x1 - x1 / 10 * 10) &&& 31)))]) (rest := []) dX12_bids_164 ml_X12_348 mk_X12_isLawful (ob_11 hn) rfl rfl rfl (Nat.le_of_ble_eq_true rfl) (show 0 < d by omega) (sp_X12_isLawful hn h.1) Md_nil (fun v σv hq hf => ?_)
        obtain ⟨v, rfl, rfl, rfl⟩ := hq
        replace h := h.2
        refine e_if_eq (tgt := 177) dX12_bids_167 (by decide) (fun c10 => ?_) (fun c10 => ?_)
        · replace h := h.1 c10
          refine e_goto (tgt := 21) dX12_bids_177 (by decide) ?_
          refine e_kill [true, false, false, false] ?_
          exact h
        · replace h := h.2 c10
          refine e_aload_n dX12_bids_170 rfl rfl ?_
          refine e_getR (y := 71) dX12_bids_171 fl_X12_119 (ob_11 hn) rfl rfl ?_
          refine e_iload_n dX12_bids_174 rfl rfl ?_
          refine e_iload_n dX12_bids_175 rfl rfl ?_
          refine e_iast dX12_bids_176 (ar_71 hn) h.1 (md_r (m := md_X12_bids) (by decide)) ?_
          replace h := h.2
          refine e_goto (tgt := 21) dX12_bids_177 (by decide) ?_
          refine e_kill [true, false, false, false] ?_
          exact h
    · replace h := h.2 c2
      exact e_vret dX12_bids_119 rfl ⟨rfl, h⟩
  · replace h := h.2 c1
    refine e_iconst dX12_bids_33 ci_0 ?_
    refine e_istore_n dX12_bids_34 rfl rfl (by decide) ?_
    exact h
theorem B_X12_bids_35 {d n : Nat} {σ0 : St} {Q : St → Prop}  {σ : St} {x1 : Int32} {x2 : Int32} {x3 : Int32} (hn : FIX ≤ n) (hd : 2 ≤ d) (h : (((gI σ 11 0) ≤ x3 → K_X12_bids_25 d n σ0 Q σ x1 (x2 + 1)) ∧ (¬ (gI σ 11 0) ≤ x3 → vp_in ((10 * x2) + x3) 80 ∧ (((gI σ 72 ((10 * x2) + x3).toNatClampNeg) ≠ 0 → K_X12_bids_35 d n σ0 Q σ x1 x2 (x3 + 1)) ∧ ((gI σ 72 ((10 * x2) + x3).toNatClampNeg) = 0 → pre_X12_bidOf σ x2 x3 ∧ (((0 : Int32) < (fn_X12_bidOf σ x2 x3) → ((x1 = (-1) → K_X12_bids_35 d n σ0 Q σ ((10 * x2) + x3) x2 (x3 + 1)) ∧ (¬ x1 = (-1) → pre_X12_bidOf σ x2 x3 ∧ pre_X12_bidOf σ (x1 / 10) (x1 - x1 / 10 * 10) ∧ (((fn_X12_bidOf σ x2 x3) ≤ (fn_X12_bidOf σ (x1 / 10) (x1 - x1 / 10 * 10)) → K_X12_bids_35 d n σ0 Q σ x1 x2 (x3 + 1)) ∧ (¬ (fn_X12_bidOf σ x2 x3) ≤ (fn_X12_bidOf σ (x1 / 10) (x1 - x1 / 10 * 10)) → K_X12_bids_35 d n σ0 Q σ ((10 * x2) + x3) x2 (x3 + 1)))))) ∧ (¬ (0 : Int32) < (fn_X12_bidOf σ x2 x3) → K_X12_bids_35 d n σ0 Q σ x1 x2 (x3 + 1)))))))) : K_X12_bids_35 d n σ0 Q σ x1 x2 x3 := by
  refine e_iload_n dX12_bids_35 rfl rfl ?_
  refine e_aload_n dX12_bids_36 rfl rfl ?_
  refine e_getI dX12_bids_37 fl_X12_131 (ob_11 hn) rfl ?_
  refine e_icmp_ge (tgt := 108) dX12_bids_40 (by decide) (fun c1 => ?_) (fun c1 => ?_)
  · replace h := h.1 c1
    refine e_iinc dX12_bids_108 rfl (ii_1 _) rfl (by decide) ?_
    refine e_goto (tgt := 25) dX12_bids_111 (by decide) ?_
    refine e_kill [true, true, true, false] ?_
    exact h
  · replace h := h.2 c1
    refine e_aload_n dX12_bids_43 rfl rfl ?_
    refine e_getR (y := 72) dX12_bids_44 fl_X12_122 (ob_11 hn) rfl rfl ?_
    refine e_bipush dX12_bids_47 cb_10 ?_
    refine e_iload_n dX12_bids_49 rfl rfl ?_
    refine e_imul dX12_bids_50 ?_
    refine e_iload_n dX12_bids_51 rfl rfl ?_
    refine e_iadd dX12_bids_52 ?_
    refine e_zald dX12_bids_53 (ar_72 hn) h.1 ?_
    replace h := h.2
    refine e_if_ne (tgt := 102) dX12_bids_54 (by decide) (fun c2 => ?_) (fun c2 => ?_)
    · replace h := h.1 c2
      refine e_iinc dX12_bids_102 rfl (ii_1 _) rfl (by decide) ?_
      refine e_goto (tgt := 35) dX12_bids_105 (by decide) ?_
      exact h
    · replace h := h.2 c2
      refine e_aload_n dX12_bids_57 rfl rfl ?_
      refine e_iload_n dX12_bids_58 rfl rfl ?_
      refine e_iload_n dX12_bids_59 rfl rfl ?_
      refine e_callV (M' := M_X12_bidOf) (as := [.int x2, .int x3]) (rest := []) dX12_bids_60 ml_X12_400 mk_X12_bidOf (ob_11 hn) rfl rfl rfl (Nat.le_of_ble_eq_true rfl) (show 0 < d by omega) (sp_X12_bidOf hn (show 1 ≤ d - 1 by omega) h.1) Md_nil (fun v σv hq hf => ?_)
      obtain ⟨v, rfl, rfl, rfl⟩ := hq
      replace h := h.2
      refine e_if_gt (tgt := 69) dX12_bids_63 (by decide) (fun c3 => ?_) (fun c3 => ?_)
      · replace h := h.1 c3
        refine e_iload_n dX12_bids_69 rfl rfl ?_
        refine e_iconst dX12_bids_70 ci_m1 ?_
        refine e_icmp_eq (tgt := 95) dX12_bids_71 (by decide) (fun c4 => ?_) (fun c4 => ?_)
        · replace h := h.1 c4
          refine e_bipush dX12_bids_95 cb_10 ?_
          refine e_iload_n dX12_bids_97 rfl rfl ?_
          refine e_imul dX12_bids_98 ?_
          refine e_iload_n dX12_bids_99 rfl rfl ?_
          refine e_iadd dX12_bids_100 ?_
          refine e_istore_n dX12_bids_101 rfl rfl (by decide) ?_
          refine e_iinc dX12_bids_102 rfl (ii_1 _) rfl (by decide) ?_
          refine e_goto (tgt := 35) dX12_bids_105 (by decide) ?_
          exact h
        · replace h := h.2 c4
          refine e_aload_n dX12_bids_74 rfl rfl ?_
          refine e_iload_n dX12_bids_75 rfl rfl ?_
          refine e_iload_n dX12_bids_76 rfl rfl ?_
          refine e_callV (M' := M_X12_bidOf) (as := [.int x2, .int x3]) (rest := []) dX12_bids_77 ml_X12_400 mk_X12_bidOf (ob_11 hn) rfl rfl rfl (Nat.le_of_ble_eq_true rfl) (show 0 < d by omega) (sp_X12_bidOf hn (show 1 ≤ d - 1 by omega) h.1) Md_nil (fun v σv hq hf => ?_)
          obtain ⟨v, rfl, rfl, rfl⟩ := hq
          replace h := h.2
          refine e_aload_n dX12_bids_80 rfl rfl ?_
          refine e_iload_n dX12_bids_81 rfl rfl ?_
          refine e_bipush dX12_bids_82 cb_10 ?_
          refine e_idiv dX12_bids_84 (by decide) ?_
          refine e_iload_n dX12_bids_85 rfl rfl ?_
          refine e_bipush dX12_bids_86 cb_10 ?_
          refine e_irem dX12_bids_88 (by decide) ?_
          refine e_callV (M' := M_X12_bidOf) (as := [.int (x1 / 10), .int (x1 - x1 / 10 * 10)]) (rest := [.int (fn_X12_bidOf σ x2 x3)]) dX12_bids_89 ml_X12_400 mk_X12_bidOf (ob_11 hn) rfl rfl rfl (Nat.le_of_ble_eq_true rfl) (show 0 < d by omega) (sp_X12_bidOf hn (show 1 ≤ d - 1 by omega) h.1) Md_nil (fun v σv hq hf => ?_)
          obtain ⟨v, rfl, rfl, rfl⟩ := hq
          replace h := h.2
          refine e_icmp_le (tgt := 102) dX12_bids_92 (by decide) (fun c5 => ?_) (fun c5 => ?_)
          · replace h := h.1 c5
            refine e_iinc dX12_bids_102 rfl (ii_1 _) rfl (by decide) ?_
            refine e_goto (tgt := 35) dX12_bids_105 (by decide) ?_
            exact h
          · replace h := h.2 c5
            refine e_bipush dX12_bids_95 cb_10 ?_
            refine e_iload_n dX12_bids_97 rfl rfl ?_
            refine e_imul dX12_bids_98 ?_
            refine e_iload_n dX12_bids_99 rfl rfl ?_
            refine e_iadd dX12_bids_100 ?_
            refine e_istore_n dX12_bids_101 rfl rfl (by decide) ?_
            refine e_iinc dX12_bids_102 rfl (ii_1 _) rfl (by decide) ?_
            refine e_goto (tgt := 35) dX12_bids_105 (by decide) ?_
            exact h
      · replace h := h.2 c3
        refine e_goto (tgt := 102) dX12_bids_66 (by decide) ?_
        refine e_iinc dX12_bids_102 rfl (ii_1 _) rfl (by decide) ?_
        refine e_goto (tgt := 35) dX12_bids_105 (by decide) ?_
        exact h
theorem S_X12_bids {d n : Nat} {Q : St → Prop} {σ : St}  (hn : FIX ≤ n) (hd : 2 ≤ d) (h : K_X12_bids_2 d n σ Q σ 0) : Cn d n M_X12_bids md_X12_bids [.ref 11] σ (liV Q) := by
  refine Cn.of (k0 := 3) (by decide) rfl ?_
  show Ev (d, n, md_X12_bids, σ, liV Q) M_X12_bids 0 [some (.ref 11), none, none, none] [] σ
  refine e_iconst dX12_bids_0 ci_0 ?_
  refine e_istore_n dX12_bids_1 rfl rfl (by decide) ?_
  exact h
abbrev K_X12_takesBest_12 (d n : Nat) (σ0 : St) (Q : Int32 → St → Prop) (σ : St) (x2 : Int32) (x3 : Int32) (x4 : Int32) (x5 : Int32) : Prop := Ev (d, n, md_X12_takesBest, σ0, liI Q) M_X12_takesBest 12 [some (.ref 11), none, some (.int x2), some (.int x3), some (.int x4), some (.int x5), none] [] σ
abbrev K_X12_takesBest_61 (d n : Nat) (σ0 : St) (Q : Int32 → St → Prop) (σ : St) (x3 : Int32) (x4 : Int32) (x5 : Int32) (x6 : Int32) : Prop := Ev (d, n, md_X12_takesBest, σ0, liI Q) M_X12_takesBest 61 [some (.ref 11), none, none, some (.int x3), some (.int x4), some (.int x5), some (.int x6)] [] σ
theorem B_X12_takesBest_12 {d n : Nat} {σ0 : St} {Q : Int32 → St → Prop}  {σ : St} {x2 : Int32} {x3 : Int32} {x4 : Int32} {x5 : Int32} (hn : FIX ≤ n) (hd : 1 ≤ d) (h : (((gI σ 11 0) ≤ x5 → K_X12_takesBest_61 d n σ0 Q σ x3 x4 (-1) 0) ∧ (¬ (gI σ 11 0) ≤ x5 → ((x5 = x2 → K_X12_takesBest_12 d n σ0 Q σ x2 x3 (x4 ||| 0) (x5 + 1)) ∧ (¬ x5 = x2 → ∃ Q3 : Int32 → St → Prop, Cn (d - 1) n M_X12_leftOf md_X12_leftOf [.ref 11, .int x5] σ (liI Q3) ∧ ∀ (v6 : Int32) (σ5 : St), Q3 v6 σ5 → Fr md_X12_leftOf σ σ5 → ((v6 ≤ 0 → K_X12_takesBest_12 d n σ0 Q σ5 x2 x3 (x4 ||| 0) (x5 + 1)) ∧ (¬ v6 ≤ 0 → K_X12_takesBest_12 d n σ0 Q σ5 x2 x3 (x4 ||| ((1 : Int32) <<< (x5 &&& 31))) (x5 + 1)))))))) : K_X12_takesBest_12 d n σ0 Q σ x2 x3 x4 x5 := by
  refine e_iload dX12_takesBest_12 rfl ?_
  refine e_aload_n dX12_takesBest_14 rfl rfl ?_
  refine e_getI dX12_takesBest_15 fl_X12_131 (ob_11 hn) rfl ?_
  refine e_icmp_ge (tgt := 55) dX12_takesBest_18 (by decide) (fun c1 => ?_) (fun c1 => ?_)
  · replace h := h.1 c1
    refine e_iconst dX12_takesBest_55 ci_m1 ?_
    refine e_istore dX12_takesBest_56 rfl (by decide) ?_
    refine e_iconst dX12_takesBest_58 ci_0 ?_
    refine e_istore dX12_takesBest_59 rfl (by decide) ?_
    refine e_kill [true, false, false, true, true, true, true] ?_
    exact h
  · replace h := h.2 c1
    refine e_iload dX12_takesBest_21 rfl ?_
    refine e_iload dX12_takesBest_23 rfl ?_
    refine e_iload_n dX12_takesBest_25 rfl rfl ?_
    refine e_icmp_eq (tgt := 45) dX12_takesBest_26 (by decide) (fun c2 => ?_) (fun c2 => ?_)
    · replace h := h.1 c2
      refine e_iconst dX12_takesBest_45 ci_0 ?_
      refine e_ior dX12_takesBest_46 ?_
      refine e_istore dX12_takesBest_47 rfl (by decide) ?_
      refine e_iinc dX12_takesBest_49 rfl (ii_1 _) rfl (by decide) ?_
      refine e_goto (tgt := 12) dX12_takesBest_52 (by decide) ?_
      exact h
    · replace h := h.2 c2
      refine e_aload_n dX12_takesBest_29 rfl rfl ?_
      refine e_iload dX12_takesBest_30 rfl ?_
      obtain ⟨Q3, hc4, h⟩ := h
      refine e_callV (M' := M_X12_leftOf) (as := [.int x5]) (rest := [.int x4]) dX12_takesBest_32 ml_X12_390 mk_X12_leftOf (ob_11 hn) rfl rfl rfl (Nat.le_of_ble_eq_true rfl) (show 0 < d by omega) hc4 (Md_le (b := md_X12_takesBest) (by decide)) (fun v σ5 hq hf => ?_)
      obtain ⟨v6, rfl, hq⟩ := hq
      replace h := h v6 σ5 hq hf
      refine e_if_le (tgt := 45) dX12_takesBest_35 (by decide) (fun c9 => ?_) (fun c9 => ?_)
      · replace h := h.1 c9
        refine e_iconst dX12_takesBest_45 ci_0 ?_
        refine e_ior dX12_takesBest_46 ?_
        refine e_istore dX12_takesBest_47 rfl (by decide) ?_
        refine e_iinc dX12_takesBest_49 rfl (ii_1 _) rfl (by decide) ?_
        refine e_goto (tgt := 12) dX12_takesBest_52 (by decide) ?_
        exact h
      · replace h := h.2 c9
        refine e_iconst dX12_takesBest_38 ci_1 ?_
        refine e_iload dX12_takesBest_39 rfl ?_
        refine e_ishl dX12_takesBest_41 ?_
        refine e_goto (tgt := 46) dX12_takesBest_42 (by decide) ?_
        refine e_ior dX12_takesBest_46 ?_
        refine e_istore dX12_takesBest_47 rfl (by decide) ?_
        refine e_iinc dX12_takesBest_49 rfl (ii_1 _) rfl (by decide) ?_
        refine e_goto (tgt := 12) dX12_takesBest_52 (by decide) ?_
        exact h
theorem B_X12_takesBest_61 {d n : Nat} {σ0 : St} {Q : Int32 → St → Prop}  {σ : St} {x3 : Int32} {x4 : Int32} {x5 : Int32} {x6 : Int32} (hn : FIX ≤ n) (hd : 1 ≤ d) (h : ((((1 : Int32) <<< ((gI σ 11 0) &&& 31)) ≤ x6 → Q x5 σ) ∧ (¬ ((1 : Int32) <<< ((gI σ 11 0) &&& 31)) ≤ x6 → (((x6 &&& (x4 ^^^ (-1))) ≠ 0 → K_X12_takesBest_61 d n σ0 Q σ x3 x4 x5 (x6 + 1)) ∧ ((x6 &&& (x4 ^^^ (-1))) = 0 → pre_X12_isLawful σ x3 x6 ∧ (((fn_X12_isLawful σ x3 x6) = 0 → K_X12_takesBest_61 d n σ0 Q σ x3 x4 x5 (x6 + 1)) ∧ (¬ (fn_X12_isLawful σ x3 x6) = 0 → ((x5 = (-1) → K_X12_takesBest_61 d n σ0 Q σ x3 x4 x6 (x6 + 1)) ∧ (¬ x5 = (-1) → pre_X12_worthOf σ x3 x6 ∧ pre_X12_worthOf σ x3 x5 ∧ (((fn_X12_worthOf σ x3 x6) ≤ (fn_X12_worthOf σ x3 x5) → K_X12_takesBest_61 d n σ0 Q σ x3 x4 x5 (x6 + 1)) ∧ (¬ (fn_X12_worthOf σ x3 x6) ≤ (fn_X12_worthOf σ x3 x5) → K_X12_takesBest_61 d n σ0 Q σ x3 x4 x6 (x6 + 1)))))))))))) : K_X12_takesBest_61 d n σ0 Q σ x3 x4 x5 x6 := by
  refine e_iload dX12_takesBest_61 rfl ?_
  refine e_iconst dX12_takesBest_63 ci_1 ?_
  refine e_aload_n dX12_takesBest_64 rfl rfl ?_
  refine e_getI dX12_takesBest_65 fl_X12_131 (ob_11 hn) rfl ?_
  refine e_ishl dX12_takesBest_68 ?_
  refine e_icmp_ge (tgt := 125) dX12_takesBest_69 (by decide) (fun c1 => ?_) (fun c1 => ?_)
  · replace h := h.1 c1
    refine e_iload dX12_takesBest_125 rfl ?_
    exact e_iret dX12_takesBest_127 rfl ⟨_, rfl, h⟩
  · replace h := h.2 c1
    refine e_iload dX12_takesBest_72 rfl ?_
    refine e_iload dX12_takesBest_74 rfl ?_
    refine e_iconst dX12_takesBest_76 ci_m1 ?_
    refine e_ixor dX12_takesBest_77 ?_
    refine e_iand dX12_takesBest_78 ?_
    refine e_if_ne (tgt := 119) dX12_takesBest_79 (by decide) (fun c2 => ?_) (fun c2 => ?_)
    · replace h := h.1 c2
      refine e_iinc dX12_takesBest_119 rfl (ii_1 _) rfl (by decide) ?_
      refine e_goto (tgt := 61) dX12_takesBest_122 (by decide) ?_
      exact h
    · replace h := h.2 c2
      refine e_aload_n dX12_takesBest_82 rfl rfl ?_
      refine e_iload_n dX12_takesBest_83 rfl rfl ?_
      refine e_iload dX12_takesBest_84 rfl ?_
      refine e_callV (M' := M_X12_isLawful) (as := [.int x3, .int x6]) (rest := []) dX12_takesBest_86 ml_X12_348 mk_X12_isLawful (ob_11 hn) rfl rfl rfl (Nat.le_of_ble_eq_true rfl) (show 0 < d by omega) (sp_X12_isLawful hn h.1) Md_nil (fun v σv hq hf => ?_)
      obtain ⟨v, rfl, rfl, rfl⟩ := hq
      replace h := h.2
      refine e_if_eq (tgt := 119) dX12_takesBest_89 (by decide) (fun c3 => ?_) (fun c3 => ?_)
      · replace h := h.1 c3
        refine e_iinc dX12_takesBest_119 rfl (ii_1 _) rfl (by decide) ?_
        refine e_goto (tgt := 61) dX12_takesBest_122 (by decide) ?_
        exact h
      · replace h := h.2 c3
        refine e_iload dX12_takesBest_92 rfl ?_
        refine e_iconst dX12_takesBest_94 ci_m1 ?_
        refine e_icmp_eq (tgt := 115) dX12_takesBest_95 (by decide) (fun c4 => ?_) (fun c4 => ?_)
        · replace h := h.1 c4
          refine e_iload dX12_takesBest_115 rfl ?_
          refine e_istore dX12_takesBest_117 rfl (by decide) ?_
          refine e_iinc dX12_takesBest_119 rfl (ii_1 _) rfl (by decide) ?_
          refine e_goto (tgt := 61) dX12_takesBest_122 (by decide) ?_
          exact h
        · replace h := h.2 c4
          refine e_aload_n dX12_takesBest_98 rfl rfl ?_
          refine e_iload_n dX12_takesBest_99 rfl rfl ?_
          refine e_iload dX12_takesBest_100 rfl ?_
          refine e_callV (M' := M_X12_worthOf) (as := [.int x3, .int x6]) (rest := []) dX12_takesBest_102 ml_X12_354 mk_X12_worthOf (ob_11 hn) rfl rfl rfl (Nat.le_of_ble_eq_true rfl) (show 0 < d by omega) (sp_X12_worthOf hn h.1) Md_nil (fun v σv hq hf => ?_)
          obtain ⟨v, rfl, rfl, rfl⟩ := hq
          replace h := h.2
          refine e_aload_n dX12_takesBest_105 rfl rfl ?_
          refine e_iload_n dX12_takesBest_106 rfl rfl ?_
          refine e_iload dX12_takesBest_107 rfl ?_
          refine e_callV (M' := M_X12_worthOf) (as := [.int x3, .int x5]) (rest := [.int (fn_X12_worthOf σ x3 x6)]) dX12_takesBest_109 ml_X12_354 mk_X12_worthOf (ob_11 hn) rfl rfl rfl (Nat.le_of_ble_eq_true rfl) (show 0 < d by omega) (sp_X12_worthOf hn h.1) Md_nil (fun v σv hq hf => ?_)
          obtain ⟨v, rfl, rfl, rfl⟩ := hq
          replace h := h.2
          refine e_icmp_le (tgt := 119) dX12_takesBest_112 (by decide) (fun c5 => ?_) (fun c5 => ?_)
          · replace h := h.1 c5
            refine e_iinc dX12_takesBest_119 rfl (ii_1 _) rfl (by decide) ?_
            refine e_goto (tgt := 61) dX12_takesBest_122 (by decide) ?_
            exact h
          · replace h := h.2 c5
            refine e_iload dX12_takesBest_115 rfl ?_
            refine e_istore dX12_takesBest_117 rfl (by decide) ?_
            refine e_iinc dX12_takesBest_119 rfl (ii_1 _) rfl (by decide) ?_
            refine e_goto (tgt := 61) dX12_takesBest_122 (by decide) ?_
            exact h
theorem S_X12_takesBest {d n : Nat} {Q : Int32 → St → Prop} {σ : St} {a1 : Int32} {a2 : Int32} (hn : FIX ≤ n) (hd : 1 ≤ d) (h : K_X12_takesBest_12 d n σ Q σ a2 (fn_X12_rowOf σ a1) 0 0) : Cn d n M_X12_takesBest md_X12_takesBest [.ref 11, .int a1, .int a2] σ (liI Q) := by
  refine Cn.of (k0 := 4) (by decide) rfl ?_
  show Ev (d, n, md_X12_takesBest, σ, liI Q) M_X12_takesBest 0 [some (.ref 11), some (.int a1), some (.int a2), none, none, none, none] [] σ
  refine e_aload_n dX12_takesBest_0 rfl rfl ?_
  refine e_iload_n dX12_takesBest_1 rfl rfl ?_
  refine e_callV (M' := M_X12_rowOf) (as := [.int a1]) (rest := []) dX12_takesBest_2 ml_X12_339 mk_X12_rowOf (ob_11 hn) rfl rfl rfl (Nat.le_of_ble_eq_true rfl) (show 0 < d by omega) (sp_X12_rowOf hn) Md_nil (fun v σv hq hf => ?_)
  obtain ⟨v, rfl, rfl, rfl⟩ := hq
  refine e_istore_n dX12_takesBest_5 rfl rfl (by decide) ?_
  refine e_iconst dX12_takesBest_6 ci_0 ?_
  refine e_istore dX12_takesBest_7 rfl (by decide) ?_
  refine e_iconst dX12_takesBest_9 ci_0 ?_
  refine e_istore dX12_takesBest_10 rfl (by decide) ?_
  refine e_kill [true, false, true, true, true, true, false] ?_
  exact h
abbrev K_X12_serial_2 (d n : Nat) (σ0 : St) (Q : St → Prop) (σ : St) (x1 : Int32) : Prop := Ev (d, n, md_X12_serial, σ0, liV Q) M_X12_serial 2 [some (.ref 11), some (.int x1)] [] σ
theorem B_X12_serial_2 {d n : Nat} {σ0 : St} {Q : St → Prop}  {σ : St} {x1 : Int32} (hn : FIX ≤ n) (hd : 1 ≤ d) (h : (((gI σ 11 1) ≤ x1 → Q σ) ∧ (¬ (gI σ 11 1) ≤ x1 → ∃ Q2 : Int32 → St → Prop, Cn (d - 1) n M_X12_takesBest md_X12_takesBest [.ref 11, .int x1, .int (-1)] σ (liI Q2) ∧ ∀ (v5 : Int32) (σ4 : St), Q2 v5 σ4 → Fr md_X12_takesBest σ σ4 → vp_in x1 8 ∧ K_X12_serial_2 d n σ0 Q (sI σ4 71 x1.toNatClampNeg (mxI 0 v5)) (x1 + 1)))) : K_X12_serial_2 d n σ0 Q σ x1 := by
  refine e_iload_n dX12_serial_2 rfl rfl ?_
  refine e_aload_n dX12_serial_3 rfl rfl ?_
  refine e_getI dX12_serial_4 fl_X12_138 (ob_11 hn) rfl ?_
  refine e_icmp_ge (tgt := 32) dX12_serial_7 (by decide) (fun c1 => ?_) (fun c1 => ?_)
  · replace h := h.1 c1
    exact e_vret dX12_serial_32 rfl ⟨rfl, h⟩
  · replace h := h.2 c1
    refine e_aload_n dX12_serial_10 rfl rfl ?_
    refine e_getR (y := 71) dX12_serial_11 fl_X12_119 (ob_11 hn) rfl rfl ?_
    refine e_iload_n dX12_serial_14 rfl rfl ?_
    refine e_iconst dX12_serial_15 ci_0 ?_
    refine e_aload_n dX12_serial_16 rfl rfl ?_
    refine e_iload_n dX12_serial_17 rfl rfl ?_
    refine e_iconst dX12_serial_18 ci_m1 ?_
    obtain ⟨Q2, hc3, h⟩ := h
    refine e_callV (M' := M_X12_takesBest) (as := [.int x1, .int (-1)]) (rest := [.int 0, .int x1, .ref 71]) dX12_serial_19 ml_X12_403 mk_X12_takesBest (ob_11 hn) rfl rfl rfl (Nat.le_of_ble_eq_true rfl) (show 0 < d by omega) hc3 (Md_le (b := md_X12_serial) (by decide)) (fun v σ4 hq hf => ?_)
    obtain ⟨v5, rfl, hq⟩ := hq
    replace h := h v5 σ4 hq hf
    refine e_mmax (st := [.int x1, .ref 71]) dX12_serial_22 ml_X12_304 (Nat.le_of_ble_eq_true rfl) (show 0 < d by omega) ?_
    refine e_iast dX12_serial_25 (ar_71 hn) h.1 (md_r (m := md_X12_serial) (by decide)) ?_
    replace h := h.2
    refine e_iinc dX12_serial_26 rfl (ii_1 _) rfl (by decide) ?_
    refine e_goto (tgt := 2) dX12_serial_29 (by decide) ?_
    exact h
theorem S_X12_serial {d n : Nat} {Q : St → Prop} {σ : St}  (hn : FIX ≤ n) (hd : 1 ≤ d) (h : K_X12_serial_2 d n σ Q σ 0) : Cn d n M_X12_serial md_X12_serial [.ref 11] σ (liV Q) := by
  refine Cn.of (k0 := 1) (by decide) rfl ?_
  show Ev (d, n, md_X12_serial, σ, liV Q) M_X12_serial 0 [some (.ref 11), none] [] σ
  refine e_iconst dX12_serial_0 ci_0 ?_
  refine e_istore_n dX12_serial_1 rfl rfl (by decide) ?_
  exact h
