abbrev K_X12_goes_6 (d n : Nat) (σ0 : St) (Q : St → Prop) (σ : St) (x1 : Int32) (x2 : Int32) : Prop := Ev (d, n, md_X12_goes, σ0, liV Q) M_X12_goes 6 [some (.ref 11), some (.int x1), some (.int x2)] [] σ
abbrev K_X12_goes_126 (d n : Nat) (σ0 : St) (Q : St → Prop) (σ : St) (x2 : Int32) : Prop := Ev (d, n, md_X12_goes, σ0, liV Q) M_X12_goes 126 [some (.ref 11), none, some (.int x2)] [] σ
abbrev K_X12_goes_67 (d n : Nat) (σ0 : St) (Q : St → Prop) (σ : St) (x2 : Int32) : Prop := Ev (d, n, md_X12_goes, σ0, liV Q) M_X12_goes 67 [some (.ref 11), none, some (.int x2)] [] σ
theorem B_X12_goes_6 {d n : Nat} {σ0 : St} {Q : St → Prop}  {σ : St} {x1 : Int32} {x2 : Int32} (hn : FIX ≤ n) (hd : 1 ≤ d) (h : (((8 : Int32) ≤ x2 → ((x1.toInt = 0 → ∃ Q3 : Int32 → St → Prop, Cn (d - 1) n M_X12_squares md_X12_squares [.ref 11] σ (liI Q3) ∧ ∀ (v6 : Int32) (σ5 : St), Q3 v6 σ5 → Fr md_X12_squares σ σ5 → K_X12_goes_67 d n σ0 Q σ5 0) ∧ (x1.toInt = 1 → ∃ Q9 : St → Prop, Cn (d - 1) n M_X12_mends md_X12_mends [.ref 11] σ (liV Q9) ∧ ∀ (σ11 : St), Q9 σ11 → Fr md_X12_mends σ σ11 → Q σ11) ∧ (x1.toInt = 2 → ∃ Q15 : St → Prop, Cn (d - 1) n M_X12_turns md_X12_turns [.ref 11] σ (liV Q15) ∧ ∀ (σ17 : St), Q15 σ17 → Fr md_X12_turns σ σ17 → Q σ17) ∧ (x1.toInt = 3 → ∃ Q21 : St → Prop, Cn (d - 1) n M_X12_bids md_X12_bids [.ref 11] σ (liV Q21) ∧ ∀ (σ23 : St), Q21 σ23 → Fr md_X12_bids σ σ23 → Q σ23) ∧ (x1.toInt = 4 → ∃ Q27 : St → Prop, Cn (d - 1) n M_X12_serial md_X12_serial [.ref 11] σ (liV Q27) ∧ ∀ (σ29 : St), Q27 σ29 → Fr md_X12_serial σ σ29 → Q σ29) ∧ (x1.toInt < 0 ∨ 4 < x1.toInt → K_X12_goes_126 d n σ0 Q σ 0))) ∧ (¬ (8 : Int32) ≤ x2 → vp_in x2 8 ∧ K_X12_goes_6 d n σ0 Q (sI σ 71 x2.toNatClampNeg 0) x1 (x2 + 1)))) : K_X12_goes_6 d n σ0 Q σ x1 x2 := by
  refine e_iload_n dX12_goes_6 rfl rfl ?_
  refine e_bipush dX12_goes_7 cb_8 ?_
  refine e_icmp_ge (tgt := 25) dX12_goes_9 (by decide) (fun c1 => ?_) (fun c1 => ?_)
  · replace h := h.1 c1
    refine e_iload_n dX12_goes_25 rfl rfl ?_
    by_cases c2 : x1.toInt < 0 ∨ 4 < x1.toInt
    · refine e_tableOut (tgt := 124) dX12_goes_26 c2 (by decide) ?_
      replace h := h.2.2.2.2.2 c2
      refine e_iconst dX12_goes_124 ci_0 ?_
      refine e_istore_n dX12_goes_125 rfl rfl (by decide) ?_
      refine e_kill [true, false, true] ?_
      exact h
    · rcases (show x1.toInt = 0 ∨ x1.toInt = 1 ∨ x1.toInt = 2 ∨ x1.toInt = 3 ∨ x1.toInt = 4 by omega) with c2 | c2 | c2 | c2 | c2
      · refine e_tableIn (tgt := 60) (off := 34) dX12_goes_26 (by omega) (by omega) (by rw [c2]; rfl) (by decide) ?_
        replace h := h.1 c2
        refine e_aload_n dX12_goes_60 rfl rfl ?_
        obtain ⟨Q3, hc4, h⟩ := h
        refine e_callV (M' := M_X12_squares) (as := []) (rest := []) dX12_goes_61 ml_X12_366 mk_X12_squares (ob_11 hn) rfl rfl rfl (Nat.le_of_ble_eq_true rfl) (show 0 < d by omega) hc4 (Md_le (b := md_X12_goes) (by decide)) (fun v σ5 hq hf => ?_)
        obtain ⟨v6, rfl, hq⟩ := hq
        replace h := h v6 σ5 hq hf
        refine e_pop dX12_goes_64 rfl ?_
        refine e_iconst dX12_goes_65 ci_0 ?_
        refine e_istore_n dX12_goes_66 rfl rfl (by decide) ?_
        refine e_kill [true, false, true] ?_
        exact h
      · refine e_tableIn (tgt := 96) (off := 70) dX12_goes_26 (by omega) (by omega) (by rw [c2]; rfl) (by decide) ?_
        replace h := h.2.1 c2
        refine e_aload_n dX12_goes_96 rfl rfl ?_
        obtain ⟨Q9, hc10, h⟩ := h
        refine e_callV (M' := M_X12_mends) (as := []) (rest := []) dX12_goes_97 ml_X12_406 mk_X12_mends (ob_11 hn) rfl rfl rfl (Nat.le_of_ble_eq_true rfl) (show 0 < d by omega) hc10 (Md_le (b := md_X12_goes) (by decide)) (fun v σ11 hq hf => ?_)
        obtain ⟨rfl, hq⟩ := hq
        replace h := h σ11 hq hf
        refine e_goto (tgt := 152) dX12_goes_100 (by decide) ?_
        exact e_vret dX12_goes_152 rfl ⟨rfl, h⟩
      · refine e_tableIn (tgt := 103) (off := 77) dX12_goes_26 (by omega) (by omega) (by rw [c2]; rfl) (by decide) ?_
        replace h := h.2.2.1 c2
        refine e_aload_n dX12_goes_103 rfl rfl ?_
        obtain ⟨Q15, hc16, h⟩ := h
        refine e_callV (M' := M_X12_turns) (as := []) (rest := []) dX12_goes_104 ml_X12_409 mk_X12_turns (ob_11 hn) rfl rfl rfl (Nat.le_of_ble_eq_true rfl) (show 0 < d by omega) hc16 (Md_le (b := md_X12_goes) (by decide)) (fun v σ17 hq hf => ?_)
        obtain ⟨rfl, hq⟩ := hq
        replace h := h σ17 hq hf
        refine e_goto (tgt := 152) dX12_goes_107 (by decide) ?_
        exact e_vret dX12_goes_152 rfl ⟨rfl, h⟩
      · refine e_tableIn (tgt := 110) (off := 84) dX12_goes_26 (by omega) (by omega) (by rw [c2]; rfl) (by decide) ?_
        replace h := h.2.2.2.1 c2
        refine e_aload_n dX12_goes_110 rfl rfl ?_
        obtain ⟨Q21, hc22, h⟩ := h
        refine e_callV (M' := M_X12_bids) (as := []) (rest := []) dX12_goes_111 ml_X12_412 mk_X12_bids (ob_11 hn) rfl rfl rfl (Nat.le_of_ble_eq_true rfl) (show 0 < d by omega) hc22 (Md_le (b := md_X12_goes) (by decide)) (fun v σ23 hq hf => ?_)
        obtain ⟨rfl, hq⟩ := hq
        replace h := h σ23 hq hf
        refine e_goto (tgt := 152) dX12_goes_114 (by decide) ?_
        exact e_vret dX12_goes_152 rfl ⟨rfl, h⟩
      · refine e_tableIn (tgt := 117) (off := 91) dX12_goes_26 (by omega) (by omega) (by rw [c2]; rfl) (by decide) ?_
        replace h := h.2.2.2.2.1 c2
        refine e_aload_n dX12_goes_117 rfl rfl ?_
        obtain ⟨Q27, hc28, h⟩ := h
        refine e_callV (M' := M_X12_serial) (as := []) (rest := []) dX12_goes_118 ml_X12_415 mk_X12_serial (ob_11 hn) rfl rfl rfl (Nat.le_of_ble_eq_true rfl) (show 0 < d by omega) hc28 (Md_le (b := md_X12_goes) (by decide)) (fun v σ29 hq hf => ?_)
        obtain ⟨rfl, hq⟩ := hq
        replace h := h σ29 hq hf
        refine e_goto (tgt := 152) dX12_goes_121 (by decide) ?_
        exact e_vret dX12_goes_152 rfl ⟨rfl, h⟩
  · replace h := h.2 c1
    refine e_aload_n dX12_goes_12 rfl rfl ?_
    refine e_getR (y := 71) dX12_goes_13 fl_X12_119 (ob_11 hn) rfl rfl ?_
    refine e_iload_n dX12_goes_16 rfl rfl ?_
    refine e_iconst dX12_goes_17 ci_0 ?_
    refine e_iast dX12_goes_18 (ar_71 hn) h.1 (md_r (m := md_X12_goes) (by decide)) ?_
    replace h := h.2
    refine e_iinc dX12_goes_19 rfl (ii_1 _) rfl (by decide) ?_
    refine e_goto (tgt := 6) dX12_goes_22 (by decide) ?_
    exact h
theorem B_X12_goes_126 {d n : Nat} {σ0 : St} {Q : St → Prop}  {σ : St} {x2 : Int32} (hn : FIX ≤ n) (hd : 1 ≤ d) (h : (((gI σ 11 1) ≤ x2 → Q σ) ∧ (¬ (gI σ 11 1) ≤ x2 → vp_in x2 8 ∧ vp_in x2 8 ∧ K_X12_goes_126 d n σ0 Q (sI σ 71 x2.toNatClampNeg (gI σ 49 x2.toNatClampNeg)) (x2 + 1)))) : K_X12_goes_126 d n σ0 Q σ x2 := by
  refine e_iload_n dX12_goes_126 rfl rfl ?_
  refine e_aload_n dX12_goes_127 rfl rfl ?_
  refine e_getI dX12_goes_128 fl_X12_138 (ob_11 hn) rfl ?_
  refine e_icmp_ge (tgt := 152) dX12_goes_131 (by decide) (fun c1 => ?_) (fun c1 => ?_)
  · replace h := h.1 c1
    exact e_vret dX12_goes_152 rfl ⟨rfl, h⟩
  · replace h := h.2 c1
    refine e_aload_n dX12_goes_134 rfl rfl ?_
    refine e_getR (y := 71) dX12_goes_135 fl_X12_119 (ob_11 hn) rfl rfl ?_
    refine e_iload_n dX12_goes_138 rfl rfl ?_
    refine e_aload_n dX12_goes_139 rfl rfl ?_
    refine e_getR (y := 49) dX12_goes_140 fl_X12_41 (ob_11 hn) rfl rfl ?_
    refine e_iload_n dX12_goes_143 rfl rfl ?_
    refine e_iald dX12_goes_144 (ar_49 hn) h.1 ?_
    replace h := h.2
    refine e_iast dX12_goes_145 (ar_71 hn) h.1 (md_r (m := md_X12_goes) (by decide)) ?_
    replace h := h.2
    refine e_iinc dX12_goes_146 rfl (ii_1 _) rfl (by decide) ?_
    refine e_goto (tgt := 126) dX12_goes_149 (by decide) ?_
    exact h
theorem B_X12_goes_67 {d n : Nat} {σ0 : St} {Q : St → Prop}  {σ : St} {x2 : Int32} (hn : FIX ≤ n) (hd : 1 ≤ d) (h : (((gI σ 11 1) ≤ x2 → Q σ) ∧ (¬ (gI σ 11 1) ≤ x2 → vp_in x2 8 ∧ vp_in x2 8 ∧ K_X12_goes_67 d n σ0 Q (sI σ 71 x2.toNatClampNeg (gI σ 64 x2.toNatClampNeg)) (x2 + 1)))) : K_X12_goes_67 d n σ0 Q σ x2 := by
  refine e_iload_n dX12_goes_67 rfl rfl ?_
  refine e_aload_n dX12_goes_68 rfl rfl ?_
  refine e_getI dX12_goes_69 fl_X12_138 (ob_11 hn) rfl ?_
  refine e_icmp_ge (tgt := 93) dX12_goes_72 (by decide) (fun c1 => ?_) (fun c1 => ?_)
  · replace h := h.1 c1
    refine e_goto (tgt := 152) dX12_goes_93 (by decide) ?_
    exact e_vret dX12_goes_152 rfl ⟨rfl, h⟩
  · replace h := h.2 c1
    refine e_aload_n dX12_goes_75 rfl rfl ?_
    refine e_getR (y := 71) dX12_goes_76 fl_X12_119 (ob_11 hn) rfl rfl ?_
    refine e_iload_n dX12_goes_79 rfl rfl ?_
    refine e_aload_n dX12_goes_80 rfl rfl ?_
    refine e_getR (y := 64) dX12_goes_81 fl_X12_98 (ob_11 hn) rfl rfl ?_
    refine e_iload_n dX12_goes_84 rfl rfl ?_
    refine e_iald dX12_goes_85 (ar_64 hn) h.1 ?_
    replace h := h.2
    refine e_iast dX12_goes_86 (ar_71 hn) h.1 (md_r (m := md_X12_goes) (by decide)) ?_
    replace h := h.2
    refine e_iinc dX12_goes_87 rfl (ii_1 _) rfl (by decide) ?_
    refine e_goto (tgt := 67) dX12_goes_90 (by decide) ?_
    exact h
theorem S_X12_goes {d n : Nat} {Q : St → Prop} {σ : St} {a1 : Int32} (hn : FIX ≤ n) (hd : 1 ≤ d) (h : ∃ Q1 : St → Prop, Cn (d - 1) n M_X12_told md_X12_told [.ref 11] σ (liV Q1) ∧ ∀ (σ3 : St), Q1 σ3 → Fr md_X12_told σ σ3 → K_X12_goes_6 d n σ Q σ3 a1 0) : Cn d n M_X12_goes md_X12_goes [.ref 11, .int a1] σ (liV Q) := by
  refine Cn.of (k0 := 1) (by decide) rfl ?_
  show Ev (d, n, md_X12_goes, σ, liV Q) M_X12_goes 0 [some (.ref 11), some (.int a1), none] [] σ
  refine e_aload_n dX12_goes_0 rfl rfl ?_
  obtain ⟨Q1, hc2, h⟩ := h
  refine e_callV (M' := M_X12_told) (as := []) (rest := []) dX12_goes_1 ml_X12_360 mk_X12_told (ob_11 hn) rfl rfl rfl (Nat.le_of_ble_eq_true rfl) (show 0 < d by omega) hc2 (Md_le (b := md_X12_goes) (by decide)) (fun v σ3 hq hf => ?_)
  obtain ⟨rfl, hq⟩ := hq
  replace h := h σ3 hq hf
  refine e_iconst dX12_goes_4 ci_0 ?_
  refine e_istore_n dX12_goes_5 rfl rfl (by decide) ?_
  exact h
theorem S_X12_give {d n : Nat} {Q : Int32 → St → Prop} {σ : St} {a1 : Int32} {a2 : Int32} (hn : FIX ≤ n) (hd : 2 ≤ d) (h : (((fn_X12_isPerson σ a1) = 0 → Q 0 σ) ∧ (¬ (fn_X12_isPerson σ a1) = 0 → (((fn_X12_isBundle a2) = 0 → Q 0 σ) ∧ (¬ (fn_X12_isBundle a2) = 0 → (((a2 >>> ((gI σ 11 0) &&& 31)) ≤ 0 → vp_in a1 8 ∧ Q 1 (sI σ 49 a1.toNatClampNeg a2)) ∧ (¬ (a2 >>> ((gI σ 11 0) &&& 31)) ≤ 0 → Q 0 σ))))))) : Cn d n M_X12_give md_X12_give [.ref 11, .int a1, .int a2] σ (liI Q) := by
  refine Cn.of (k0 := 0) (by decide) rfl ?_
  show Ev (d, n, md_X12_give, σ, liI Q) M_X12_give 0 [some (.ref 11), some (.int a1), some (.int a2)] [] σ
  refine e_aload_n dX12_give_0 rfl rfl ?_
  refine e_iload_n dX12_give_1 rfl rfl ?_
  refine e_callV (M' := M_X12_isPerson) (as := [.int a1]) (rest := []) dX12_give_2 ml_X12_151 mk_X12_isPerson (ob_11 hn) rfl rfl rfl (Nat.le_of_ble_eq_true rfl) (show 0 < d by omega) (sp_X12_isPerson hn (show 1 ≤ d - 1 by omega)) Md_nil (fun v σv hq hf => ?_)
  obtain ⟨v, rfl, rfl, rfl⟩ := hq
  refine e_if_eq (tgt := 24) dX12_give_5 (by decide) (fun c1 => ?_) (fun c1 => ?_)
  · replace h := h.1 c1
    refine e_iconst dX12_give_24 ci_0 ?_
    exact e_zret dX12_give_25 rfl (nar_z (Or.inl rfl)) ⟨_, rfl, h⟩
  · replace h := h.2 c1
    refine e_iload_n dX12_give_8 rfl rfl ?_
    refine e_callS (M' := M_X12_isBundle) (as := [.int a2]) (rest := []) dX12_give_9 ml_X12_148 mk_X12_isBundle rfl (Nat.le_of_ble_eq_true rfl) (show 0 < d by omega) (sp_X12_isBundle (show 1 ≤ d - 1 by omega)) Md_nil (fun v σv hq hf => ?_)
    obtain ⟨v, rfl, rfl, rfl⟩ := hq
    refine e_if_eq (tgt := 24) dX12_give_12 (by decide) (fun c2 => ?_) (fun c2 => ?_)
    · replace h := h.1 c2
      refine e_iconst dX12_give_24 ci_0 ?_
      exact e_zret dX12_give_25 rfl (nar_z (Or.inl rfl)) ⟨_, rfl, h⟩
    · replace h := h.2 c2
      refine e_iload_n dX12_give_15 rfl rfl ?_
      refine e_aload_n dX12_give_16 rfl rfl ?_
      refine e_getI dX12_give_17 fl_X12_131 (ob_11 hn) rfl ?_
      refine e_ishr dX12_give_20 ?_
      refine e_if_le (tgt := 26) dX12_give_21 (by decide) (fun c3 => ?_) (fun c3 => ?_)
      · replace h := h.1 c3
        refine e_aload_n dX12_give_26 rfl rfl ?_
        refine e_getR (y := 49) dX12_give_27 fl_X12_41 (ob_11 hn) rfl rfl ?_
        refine e_iload_n dX12_give_30 rfl rfl ?_
        refine e_iload_n dX12_give_31 rfl rfl ?_
        refine e_iast dX12_give_32 (ar_49 hn) h.1 (md_r (m := md_X12_give) (by decide)) ?_
        replace h := h.2
        refine e_iconst dX12_give_33 ci_1 ?_
        exact e_zret dX12_give_34 rfl (nar_z (Or.inr rfl)) ⟨_, rfl, h⟩
      · replace h := h.2 c3
        refine e_iconst dX12_give_24 ci_0 ?_
        exact e_zret dX12_give_25 rfl (nar_z (Or.inl rfl)) ⟨_, rfl, h⟩
theorem S_X12_hasIn {d n : Nat} {Q : Int32 → St → Prop} {σ : St} {a1 : Int32} {a2 : Int32} (hn : FIX ≤ n) (hd : 1 ≤ d) (h : ∃ Q1 : St → Prop, Cn (d - 1) n M_X12_goes md_X12_goes [.ref 11, .int a1] σ (liV Q1) ∧ ∀ (σ3 : St), Q1 σ3 → Fr md_X12_goes σ σ3 → vp_in a2 8 ∧ Q (gI σ3 71 a2.toNatClampNeg) σ3) : Cn d n M_X12_hasIn md_X12_hasIn [.ref 11, .int a1, .int a2] σ (liI Q) := by
  refine Cn.of (k0 := 0) (by decide) rfl ?_
  show Ev (d, n, md_X12_hasIn, σ, liI Q) M_X12_hasIn 0 [some (.ref 11), some (.int a1), some (.int a2)] [] σ
  refine e_aload_n dX12_hasIn_0 rfl rfl ?_
  refine e_iload_n dX12_hasIn_1 rfl rfl ?_
  obtain ⟨Q1, hc2, h⟩ := h
  refine e_callV (M' := M_X12_goes) (as := [.int a1]) (rest := []) dX12_hasIn_2 ml_X12_424 mk_X12_goes (ob_11 hn) rfl rfl rfl (Nat.le_of_ble_eq_true rfl) (show 0 < d by omega) hc2 (Md_le (b := md_X12_hasIn) (by decide)) (fun v σ3 hq hf => ?_)
  obtain ⟨rfl, hq⟩ := hq
  replace h := h σ3 hq hf
  refine e_aload_n dX12_hasIn_5 rfl rfl ?_
  refine e_getR (y := 71) dX12_hasIn_6 fl_X12_119 (ob_11 hn) rfl rfl ?_
  refine e_iload_n dX12_hasIn_9 rfl rfl ?_
  refine e_iald dX12_hasIn_10 (ar_71 hn) h.1 ?_
  replace h := h.2
  exact e_iret dX12_hasIn_11 rfl ⟨_, rfl, h⟩
theorem S_X12_has {d n : Nat} {Q : Int32 → St → Prop} {σ : St} {a1 : Int32} {a2 : Int32} (hn : FIX ≤ n) (hd : 2 ≤ d) (h : (((fn_X12_isWay a1) = 0 → Q (-1) σ) ∧ (¬ (fn_X12_isWay a1) = 0 → (((fn_X12_isPerson σ a2) = 0 → Q (-1) σ) ∧ (¬ (fn_X12_isPerson σ a2) = 0 → ∃ Q3 : Int32 → St → Prop, Cn (d - 1) n M_X12_hasIn md_X12_hasIn [.ref 11, .int a1, .int a2] σ (liI Q3) ∧ ∀ (v6 : Int32) (σ5 : St), Q3 v6 σ5 → Fr md_X12_hasIn σ σ5 → Q v6 σ5))))) : Cn d n M_X12_has md_X12_has [.ref 11, .int a1, .int a2] σ (liI Q) := by
  refine Cn.of (k0 := 0) (by decide) rfl ?_
  show Ev (d, n, md_X12_has, σ, liI Q) M_X12_has 0 [some (.ref 11), some (.int a1), some (.int a2)] [] σ
  refine e_iload_n dX12_has_0 rfl rfl ?_
  refine e_callS (M' := M_X12_isWay) (as := [.int a1]) (rest := []) dX12_has_1 ml_X12_418 mk_X12_isWay rfl (Nat.le_of_ble_eq_true rfl) (show 0 < d by omega) (sp_X12_isWay (show 1 ≤ d - 1 by omega)) Md_nil (fun v σv hq hf => ?_)
  obtain ⟨v, rfl, rfl, rfl⟩ := hq
  refine e_if_eq (tgt := 24) dX12_has_4 (by decide) (fun c1 => ?_) (fun c1 => ?_)
  · replace h := h.1 c1
    refine e_iconst dX12_has_24 ci_m1 ?_
    exact e_iret dX12_has_25 rfl ⟨_, rfl, h⟩
  · replace h := h.2 c1
    refine e_aload_n dX12_has_7 rfl rfl ?_
    refine e_iload_n dX12_has_8 rfl rfl ?_
    refine e_callV (M' := M_X12_isPerson) (as := [.int a2]) (rest := []) dX12_has_9 ml_X12_151 mk_X12_isPerson (ob_11 hn) rfl rfl rfl (Nat.le_of_ble_eq_true rfl) (show 0 < d by omega) (sp_X12_isPerson hn (show 1 ≤ d - 1 by omega)) Md_nil (fun v σv hq hf => ?_)
    obtain ⟨v, rfl, rfl, rfl⟩ := hq
    refine e_if_eq (tgt := 24) dX12_has_12 (by decide) (fun c2 => ?_) (fun c2 => ?_)
    · replace h := h.1 c2
      refine e_iconst dX12_has_24 ci_m1 ?_
      exact e_iret dX12_has_25 rfl ⟨_, rfl, h⟩
    · replace h := h.2 c2
      refine e_aload_n dX12_has_15 rfl rfl ?_
      refine e_iload_n dX12_has_16 rfl rfl ?_
      refine e_iload_n dX12_has_17 rfl rfl ?_
      obtain ⟨Q3, hc4, h⟩ := h
      refine e_callV (M' := M_X12_hasIn) (as := [.int a1, .int a2]) (rest := []) dX12_has_18 ml_X12_421 mk_X12_hasIn (ob_11 hn) rfl rfl rfl (Nat.le_of_ble_eq_true rfl) (show 0 < d by omega) hc4 (Md_le (b := md_X12_has) (by decide)) (fun v σ5 hq hf => ?_)
      obtain ⟨v6, rfl, hq⟩ := hq
      replace h := h v6 σ5 hq hf
      refine e_goto (tgt := 25) dX12_has_21 (by decide) ?_
      exact e_iret dX12_has_25 rfl ⟨_, rfl, h⟩
theorem S_X12_left {d n : Nat} {Q : Int32 → St → Prop} {σ : St} {a1 : Int32} {a2 : Int32} (hn : FIX ≤ n) (hd : 2 ≤ d) (h : (((fn_X12_isWay a1) = 0 → Q (-100) σ) ∧ (¬ (fn_X12_isWay a1) = 0 → (((fn_X12_isLesson σ a2) ≠ 0 → ∃ Q3 : St → Prop, Cn (d - 1) n M_X12_goes md_X12_goes [.ref 11, .int a1] σ (liV Q3) ∧ ∀ (σ5 : St), Q3 σ5 → Fr md_X12_goes σ σ5 → ∃ Q9 : Int32 → St → Prop, Cn (d - 1) n M_X12_leftOf md_X12_leftOf [.ref 11, .int a2] σ5 (liI Q9) ∧ ∀ (v12 : Int32) (σ11 : St), Q9 v12 σ11 → Fr md_X12_leftOf σ5 σ11 → Q v12 σ11) ∧ ((fn_X12_isLesson σ a2) = 0 → Q (-100) σ))))) : Cn d n M_X12_left md_X12_left [.ref 11, .int a1, .int a2] σ (liI Q) := by
  refine Cn.of (k0 := 0) (by decide) rfl ?_
  show Ev (d, n, md_X12_left, σ, liI Q) M_X12_left 0 [some (.ref 11), some (.int a1), some (.int a2)] [] σ
  refine e_iload_n dX12_left_0 rfl rfl ?_
  refine e_callS (M' := M_X12_isWay) (as := [.int a1]) (rest := []) dX12_left_1 ml_X12_418 mk_X12_isWay rfl (Nat.le_of_ble_eq_true rfl) (show 0 < d by omega) (sp_X12_isWay (show 1 ≤ d - 1 by omega)) Md_nil (fun v σv hq hf => ?_)
  obtain ⟨v, rfl, rfl, rfl⟩ := hq
  refine e_if_eq (tgt := 15) dX12_left_4 (by decide) (fun c1 => ?_) (fun c1 => ?_)
  · replace h := h.1 c1
    refine e_bipush dX12_left_15 cb_m100 ?_
    exact e_iret dX12_left_17 rfl ⟨_, rfl, h⟩
  · replace h := h.2 c1
    refine e_aload_n dX12_left_7 rfl rfl ?_
    refine e_iload_n dX12_left_8 rfl rfl ?_
    refine e_callV (M' := M_X12_isLesson) (as := [.int a2]) (rest := []) dX12_left_9 ml_X12_141 mk_X12_isLesson (ob_11 hn) rfl rfl rfl (Nat.le_of_ble_eq_true rfl) (show 0 < d by omega) (sp_X12_isLesson hn (show 1 ≤ d - 1 by omega)) Md_nil (fun v σv hq hf => ?_)
    obtain ⟨v, rfl, rfl, rfl⟩ := hq
    refine e_if_ne (tgt := 18) dX12_left_12 (by decide) (fun c2 => ?_) (fun c2 => ?_)
    · replace h := h.1 c2
      refine e_aload_n dX12_left_18 rfl rfl ?_
      refine e_iload_n dX12_left_19 rfl rfl ?_
      obtain ⟨Q3, hc4, h⟩ := h
      refine e_callV (M' := M_X12_goes) (as := [.int a1]) (rest := []) dX12_left_20 ml_X12_424 mk_X12_goes (ob_11 hn) rfl rfl rfl (Nat.le_of_ble_eq_true rfl) (show 0 < d by omega) hc4 (Md_le (b := md_X12_left) (by decide)) (fun v σ5 hq hf => ?_)
      obtain ⟨rfl, hq⟩ := hq
      replace h := h σ5 hq hf
      refine e_aload_n dX12_left_23 rfl rfl ?_
      refine e_iload_n dX12_left_24 rfl rfl ?_
      obtain ⟨Q9, hc10, h⟩ := h
      refine e_callV (M' := M_X12_leftOf) (as := [.int a2]) (rest := []) dX12_left_25 ml_X12_390 mk_X12_leftOf (ob_11 hn) rfl rfl rfl (Nat.le_of_ble_eq_true rfl) (show 0 < d by omega) hc10 (Md_le (b := md_X12_left) (by decide)) (fun v σ11 hq hf => ?_)
      obtain ⟨v12, rfl, hq⟩ := hq
      replace h := h v12 σ11 hq hf
      exact e_iret dX12_left_28 rfl ⟨_, rfl, h⟩
    · replace h := h.2 c2
      refine e_bipush dX12_left_15 cb_m100 ?_
      exact e_iret dX12_left_17 rfl ⟨_, rfl, h⟩
abbrev K_X12_sum_20 (d n : Nat) (σ0 : St) (Q : Int32 → St → Prop) (σ : St) (x2 : Int32) (x3 : Int32) : Prop := Ev (d, n, md_X12_sum, σ0, liI Q) M_X12_sum 20 [some (.ref 11), none, some (.int x2), some (.int x3)] [] σ
theorem B_X12_sum_20 {d n : Nat} {σ0 : St} {Q : Int32 → St → Prop}  {σ : St} {x2 : Int32} {x3 : Int32} (hn : FIX ≤ n) (hd : 2 ≤ d) (h : (((gI σ 11 1) ≤ x3 → Q x2 σ) ∧ (¬ (gI σ 11 1) ≤ x3 → vp_in x3 8 ∧ pre_X12_worthOf σ x3 (gI σ 71 x3.toNatClampNeg) ∧ K_X12_sum_20 d n σ0 Q σ (x2 + (fn_X12_worthOf σ x3 (gI σ 71 x3.toNatClampNeg))) (x3 + 1)))) : K_X12_sum_20 d n σ0 Q σ x2 x3 := by
  refine e_iload_n dX12_sum_20 rfl rfl ?_
  refine e_aload_n dX12_sum_21 rfl rfl ?_
  refine e_getI dX12_sum_22 fl_X12_138 (ob_11 hn) rfl ?_
  refine e_icmp_ge (tgt := 48) dX12_sum_25 (by decide) (fun c1 => ?_) (fun c1 => ?_)
  · replace h := h.1 c1
    refine e_iload_n dX12_sum_48 rfl rfl ?_
    exact e_iret dX12_sum_49 rfl ⟨_, rfl, h⟩
  · replace h := h.2 c1
    refine e_iload_n dX12_sum_28 rfl rfl ?_
    refine e_aload_n dX12_sum_29 rfl rfl ?_
    refine e_iload_n dX12_sum_30 rfl rfl ?_
    refine e_aload_n dX12_sum_31 rfl rfl ?_
    refine e_getR (y := 71) dX12_sum_32 fl_X12_119 (ob_11 hn) rfl rfl ?_
    refine e_iload_n dX12_sum_35 rfl rfl ?_
    refine e_iald dX12_sum_36 (ar_71 hn) h.1 ?_
    replace h := h.2
    refine e_callV (M' := M_X12_worthOf) (as := [.int x3, .int (gI σ 71 x3.toNatClampNeg)]) (rest := [.int x2]) dX12_sum_37 ml_X12_354 mk_X12_worthOf (ob_11 hn) rfl rfl rfl (Nat.le_of_ble_eq_true rfl) (show 0 < d by omega) (sp_X12_worthOf hn h.1) Md_nil (fun v σv hq hf => ?_)
    obtain ⟨v, rfl, rfl, rfl⟩ := hq
    replace h := h.2
    refine e_iadd dX12_sum_40 ?_
    refine e_istore_n dX12_sum_41 rfl rfl (by decide) ?_
    refine e_iinc dX12_sum_42 rfl (ii_1 _) rfl (by decide) ?_
    refine e_goto (tgt := 20) dX12_sum_45 (by decide) ?_
    exact h
theorem S_X12_sum {d n : Nat} {Q : Int32 → St → Prop} {σ : St} {a1 : Int32} (hn : FIX ≤ n) (hd : 2 ≤ d) (h : (((fn_X12_isWay a1) ≠ 0 → ∃ Q2 : St → Prop, Cn (d - 1) n M_X12_goes md_X12_goes [.ref 11, .int a1] σ (liV Q2) ∧ ∀ (σ4 : St), Q2 σ4 → Fr md_X12_goes σ σ4 → K_X12_sum_20 d n σ Q σ4 0 0) ∧ ((fn_X12_isWay a1) = 0 → Q (-2000000000) σ))) : Cn d n M_X12_sum md_X12_sum [.ref 11, .int a1] σ (liI Q) := by
  refine Cn.of (k0 := 2) (by decide) rfl ?_
  show Ev (d, n, md_X12_sum, σ, liI Q) M_X12_sum 0 [some (.ref 11), some (.int a1), none, none] [] σ
  refine e_iload_n dX12_sum_0 rfl rfl ?_
  refine e_callS (M' := M_X12_isWay) (as := [.int a1]) (rest := []) dX12_sum_1 ml_X12_418 mk_X12_isWay rfl (Nat.le_of_ble_eq_true rfl) (show 0 < d by omega) (sp_X12_isWay (show 1 ≤ d - 1 by omega)) Md_nil (fun v σv hq hf => ?_)
  obtain ⟨v, rfl, rfl, rfl⟩ := hq
  refine e_if_ne (tgt := 11) dX12_sum_4 (by decide) (fun c1 => ?_) (fun c1 => ?_)
  · replace h := h.1 c1
    refine e_aload_n dX12_sum_11 rfl rfl ?_
    refine e_iload_n dX12_sum_12 rfl rfl ?_
    obtain ⟨Q2, hc3, h⟩ := h
    refine e_callV (M' := M_X12_goes) (as := [.int a1]) (rest := []) dX12_sum_13 ml_X12_424 mk_X12_goes (ob_11 hn) rfl rfl rfl (Nat.le_of_ble_eq_true rfl) (show 0 < d by omega) hc3 (Md_le (b := md_X12_sum) (by decide)) (fun v σ4 hq hf => ?_)
    obtain ⟨rfl, hq⟩ := hq
    replace h := h σ4 hq hf
    refine e_iconst dX12_sum_16 ci_0 ?_
    refine e_istore_n dX12_sum_17 rfl rfl (by decide) ?_
    refine e_iconst dX12_sum_18 ci_0 ?_
    refine e_istore_n dX12_sum_19 rfl rfl (by decide) ?_
    refine e_kill [true, false, true, true] ?_
    exact h
  · replace h := h.2 c1
    refine e_ldcw dX12_sum_7 ck_X12_427 ?_
    exact e_iret dX12_sum_10 rfl ⟨_, rfl, h⟩
abbrev K_X12_envyOf_27 (d n : Nat) (σ0 : St) (Q : Int32 → St → Prop) (σ : St) (x1 : Int32) (x3 : Int32) (x4 : Int32) : Prop := Ev (d, n, md_X12_envyOf, σ0, liI Q) M_X12_envyOf 27 [some (.ref 11), some (.int x1), none, some (.int x3), some (.int x4)] [] σ
theorem B_X12_envyOf_27 {d n : Nat} {σ0 : St} {Q : Int32 → St → Prop}  {σ : St} {x1 : Int32} {x3 : Int32} {x4 : Int32} (hn : FIX ≤ n) (hd : 2 ≤ d) (h : (((gI σ 11 0) ≤ x4 → Q 2 σ) ∧ (¬ (gI σ 11 0) ≤ x4 → (((fn_X12_holds x3 x4) = 0 → K_X12_envyOf_27 d n σ0 Q σ x1 x3 (x4 + 1)) ∧ (¬ (fn_X12_holds x3 x4) = 0 → vp_in x1 8 ∧ pre_X12_isBetter σ x1 (x3 &&& (((1 : Int32) <<< (x4 &&& 31)) ^^^ (-1))) (gI σ 71 x1.toNatClampNeg) ∧ (((fn_X12_isBetter σ x1 (x3 &&& (((1 : Int32) <<< (x4 &&& 31)) ^^^ (-1))) (gI σ 71 x1.toNatClampNeg)) ≠ 0 → K_X12_envyOf_27 d n σ0 Q σ x1 x3 (x4 + 1)) ∧ ((fn_X12_isBetter σ x1 (x3 &&& (((1 : Int32) <<< (x4 &&& 31)) ^^^ (-1))) (gI σ 71 x1.toNatClampNeg)) = 0 → Q 1 σ))))))) : K_X12_envyOf_27 d n σ0 Q σ x1 x3 x4 := by
  refine e_iload dX12_envyOf_27 rfl ?_
  refine e_aload_n dX12_envyOf_29 rfl rfl ?_
  refine e_getI dX12_envyOf_30 fl_X12_131 (ob_11 hn) rfl ?_
  refine e_icmp_ge (tgt := 75) dX12_envyOf_33 (by decide) (fun c1 => ?_) (fun c1 => ?_)
  · replace h := h.1 c1
    refine e_iconst dX12_envyOf_75 ci_2 ?_
    exact e_iret dX12_envyOf_76 rfl ⟨_, rfl, h⟩
  · replace h := h.2 c1
    refine e_iload_n dX12_envyOf_36 rfl rfl ?_
    refine e_iload dX12_envyOf_37 rfl ?_
    refine e_callS (M' := M_X12_holds) (as := [.int x3, .int x4]) (rest := []) dX12_envyOf_39 ml_X12_289 mk_X12_holds rfl (Nat.le_of_ble_eq_true rfl) (show 0 < d by omega) (sp_X12_holds) Md_nil (fun v σv hq hf => ?_)
    obtain ⟨v, rfl, rfl, rfl⟩ := hq
    refine e_if_eq (tgt := 69) dX12_envyOf_42 (by decide) (fun c2 => ?_) (fun c2 => ?_)
    · replace h := h.1 c2
      refine e_iinc dX12_envyOf_69 rfl (ii_1 _) rfl (by decide) ?_
      refine e_goto (tgt := 27) dX12_envyOf_72 (by decide) ?_
      exact h
    · replace h := h.2 c2
      refine e_aload_n dX12_envyOf_45 rfl rfl ?_
      refine e_iload_n dX12_envyOf_46 rfl rfl ?_
      refine e_iload_n dX12_envyOf_47 rfl rfl ?_
      refine e_iconst dX12_envyOf_48 ci_1 ?_
      refine e_iload dX12_envyOf_49 rfl ?_
      refine e_ishl dX12_envyOf_51 ?_
      refine e_iconst dX12_envyOf_52 ci_m1 ?_
      refine e_ixor dX12_envyOf_53 ?_
      refine e_iand dX12_envyOf_54 ?_
      refine e_aload_n dX12_envyOf_55 rfl rfl ?_
      refine e_getR (y := 71) dX12_envyOf_56 fl_X12_119 (ob_11 hn) rfl rfl ?_
      refine e_iload_n dX12_envyOf_59 rfl rfl ?_
      refine e_iald dX12_envyOf_60 (ar_71 hn) h.1 ?_
      replace h := h.2
      refine e_callV (M' := M_X12_isBetter) (as := [.int x1, .int (x3 &&& (((1 : Int32) <<< (x4 &&& 31)) ^^^ (-1))), .int (gI σ 71 x1.toNatClampNeg)]) (rest := []) dX12_envyOf_61 ml_X12_428 mk_X12_isBetter (ob_11 hn) rfl rfl rfl (Nat.le_of_ble_eq_true rfl) (show 0 < d by omega) (sp_X12_isBetter hn (show 1 ≤ d - 1 by omega) h.1) Md_nil (fun v σv hq hf => ?_)
      obtain ⟨v, rfl, rfl, rfl⟩ := hq
      replace h := h.2
      refine e_if_ne (tgt := 69) dX12_envyOf_64 (by decide) (fun c3 => ?_) (fun c3 => ?_)
      · replace h := h.1 c3
        refine e_iinc dX12_envyOf_69 rfl (ii_1 _) rfl (by decide) ?_
        refine e_goto (tgt := 27) dX12_envyOf_72 (by decide) ?_
        exact h
      · replace h := h.2 c3
        refine e_iconst dX12_envyOf_67 ci_1 ?_
        exact e_iret dX12_envyOf_68 rfl ⟨_, rfl, h⟩
theorem S_X12_envyOf {d n : Nat} {Q : Int32 → St → Prop} {σ : St} {a1 : Int32} {a2 : Int32} (hn : FIX ≤ n) (hd : 2 ≤ d) (h : vp_in a2 8 ∧ vp_in a1 8 ∧ pre_X12_isBetter σ a1 (gI σ 71 a2.toNatClampNeg) (gI σ 71 a1.toNatClampNeg) ∧ (((fn_X12_isBetter σ a1 (gI σ 71 a2.toNatClampNeg) (gI σ 71 a1.toNatClampNeg)) ≠ 0 → K_X12_envyOf_27 d n σ Q σ a1 (gI σ 71 a2.toNatClampNeg) 0) ∧ ((fn_X12_isBetter σ a1 (gI σ 71 a2.toNatClampNeg) (gI σ 71 a1.toNatClampNeg)) = 0 → Q 0 σ))) : Cn d n M_X12_envyOf md_X12_envyOf [.ref 11, .int a1, .int a2] σ (liI Q) := by
  refine Cn.of (k0 := 2) (by decide) rfl ?_
  show Ev (d, n, md_X12_envyOf, σ, liI Q) M_X12_envyOf 0 [some (.ref 11), some (.int a1), some (.int a2), none, none] [] σ
  refine e_aload_n dX12_envyOf_0 rfl rfl ?_
  refine e_getR (y := 71) dX12_envyOf_1 fl_X12_119 (ob_11 hn) rfl rfl ?_
  refine e_iload_n dX12_envyOf_4 rfl rfl ?_
  refine e_iald dX12_envyOf_5 (ar_71 hn) h.1 ?_
  replace h := h.2
  refine e_istore_n dX12_envyOf_6 rfl rfl (by decide) ?_
  refine e_aload_n dX12_envyOf_7 rfl rfl ?_
  refine e_iload_n dX12_envyOf_8 rfl rfl ?_
  refine e_iload_n dX12_envyOf_9 rfl rfl ?_
  refine e_aload_n dX12_envyOf_10 rfl rfl ?_
  refine e_getR (y := 71) dX12_envyOf_11 fl_X12_119 (ob_11 hn) rfl rfl ?_
  refine e_iload_n dX12_envyOf_14 rfl rfl ?_
  refine e_iald dX12_envyOf_15 (ar_71 hn) h.1 ?_
  replace h := h.2
  refine e_callV (M' := M_X12_isBetter) (as := [.int a1, .int (gI σ 71 a2.toNatClampNeg), .int (gI σ 71 a1.toNatClampNeg)]) (rest := []) dX12_envyOf_16 ml_X12_428 mk_X12_isBetter (ob_11 hn) rfl rfl rfl (Nat.le_of_ble_eq_true rfl) (show 0 < d by omega) (sp_X12_isBetter hn (show 1 ≤ d - 1 by omega) h.1) Md_nil (fun v σv hq hf => ?_)
  obtain ⟨v, rfl, rfl, rfl⟩ := hq
  replace h := h.2
  refine e_if_ne (tgt := 24) dX12_envyOf_19 (by decide) (fun c1 => ?_) (fun c1 => ?_)
  · replace h := h.1 c1
    refine e_iconst dX12_envyOf_24 ci_0 ?_
    refine e_istore dX12_envyOf_25 rfl (by decide) ?_
    refine e_kill [true, true, false, true, true] ?_
    exact h
  · replace h := h.2 c1
    refine e_iconst dX12_envyOf_22 ci_0 ?_
    exact e_iret dX12_envyOf_23 rfl ⟨_, rfl, h⟩
theorem S_X12_envy {d n : Nat} {Q : Int32 → St → Prop} {σ : St} {a1 : Int32} {a2 : Int32} {a3 : Int32} (hn : FIX ≤ n) (hd : 2 ≤ d) (h : (((fn_X12_isWay a1) = 0 → Q (-1) σ) ∧ (¬ (fn_X12_isWay a1) = 0 → (((fn_X12_isPerson σ a2) = 0 → Q (-1) σ) ∧ (¬ (fn_X12_isPerson σ a2) = 0 → (((fn_X12_isPerson σ a3) = 0 → Q (-1) σ) ∧ (¬ (fn_X12_isPerson σ a3) = 0 → ((a2 ≠ a3 → ∃ Q5 : St → Prop, Cn (d - 1) n M_X12_goes md_X12_goes [.ref 11, .int a1] σ (liV Q5) ∧ ∀ (σ7 : St), Q5 σ7 → Fr md_X12_goes σ σ7 → ∃ Q11 : Int32 → St → Prop, Cn (d - 1) n M_X12_envyOf md_X12_envyOf [.ref 11, .int a2, .int a3] σ7 (liI Q11) ∧ ∀ (v14 : Int32) (σ13 : St), Q11 v14 σ13 → Fr md_X12_envyOf σ7 σ13 → Q v14 σ13) ∧ (a2 = a3 → Q (-1) σ))))))))) : Cn d n M_X12_envy md_X12_envy [.ref 11, .int a1, .int a2, .int a3] σ (liI Q) := by
  refine Cn.of (k0 := 0) (by decide) rfl ?_
  show Ev (d, n, md_X12_envy, σ, liI Q) M_X12_envy 0 [some (.ref 11), some (.int a1), some (.int a2), some (.int a3)] [] σ
  refine e_iload_n dX12_envy_0 rfl rfl ?_
  refine e_callS (M' := M_X12_isWay) (as := [.int a1]) (rest := []) dX12_envy_1 ml_X12_418 mk_X12_isWay rfl (Nat.le_of_ble_eq_true rfl) (show 0 < d by omega) (sp_X12_isWay (show 1 ≤ d - 1 by omega)) Md_nil (fun v σv hq hf => ?_)
  obtain ⟨v, rfl, rfl, rfl⟩ := hq
  refine e_if_eq (tgt := 28) dX12_envy_4 (by decide) (fun c1 => ?_) (fun c1 => ?_)
  · replace h := h.1 c1
    refine e_iconst dX12_envy_28 ci_m1 ?_
    exact e_iret dX12_envy_29 rfl ⟨_, rfl, h⟩
  · replace h := h.2 c1
    refine e_aload_n dX12_envy_7 rfl rfl ?_
    refine e_iload_n dX12_envy_8 rfl rfl ?_
    refine e_callV (M' := M_X12_isPerson) (as := [.int a2]) (rest := []) dX12_envy_9 ml_X12_151 mk_X12_isPerson (ob_11 hn) rfl rfl rfl (Nat.le_of_ble_eq_true rfl) (show 0 < d by omega) (sp_X12_isPerson hn (show 1 ≤ d - 1 by omega)) Md_nil (fun v σv hq hf => ?_)
    obtain ⟨v, rfl, rfl, rfl⟩ := hq
    refine e_if_eq (tgt := 28) dX12_envy_12 (by decide) (fun c2 => ?_) (fun c2 => ?_)
    · replace h := h.1 c2
      refine e_iconst dX12_envy_28 ci_m1 ?_
      exact e_iret dX12_envy_29 rfl ⟨_, rfl, h⟩
    · replace h := h.2 c2
      refine e_aload_n dX12_envy_15 rfl rfl ?_
      refine e_iload_n dX12_envy_16 rfl rfl ?_
      refine e_callV (M' := M_X12_isPerson) (as := [.int a3]) (rest := []) dX12_envy_17 ml_X12_151 mk_X12_isPerson (ob_11 hn) rfl rfl rfl (Nat.le_of_ble_eq_true rfl) (show 0 < d by omega) (sp_X12_isPerson hn (show 1 ≤ d - 1 by omega)) Md_nil (fun v σv hq hf => ?_)
      obtain ⟨v, rfl, rfl, rfl⟩ := hq
      refine e_if_eq (tgt := 28) dX12_envy_20 (by decide) (fun c3 => ?_) (fun c3 => ?_)
      · replace h := h.1 c3
        refine e_iconst dX12_envy_28 ci_m1 ?_
        exact e_iret dX12_envy_29 rfl ⟨_, rfl, h⟩
      · replace h := h.2 c3
        refine e_iload_n dX12_envy_23 rfl rfl ?_
        refine e_iload_n dX12_envy_24 rfl rfl ?_
        refine e_icmp_ne (tgt := 30) dX12_envy_25 (by decide) (fun c4 => ?_) (fun c4 => ?_)
        · replace h := h.1 c4
          refine e_aload_n dX12_envy_30 rfl rfl ?_
          refine e_iload_n dX12_envy_31 rfl rfl ?_
          obtain ⟨Q5, hc6, h⟩ := h
          refine e_callV (M' := M_X12_goes) (as := [.int a1]) (rest := []) dX12_envy_32 ml_X12_424 mk_X12_goes (ob_11 hn) rfl rfl rfl (Nat.le_of_ble_eq_true rfl) (show 0 < d by omega) hc6 (Md_le (b := md_X12_envy) (by decide)) (fun v σ7 hq hf => ?_)
          obtain ⟨rfl, hq⟩ := hq
          replace h := h σ7 hq hf
          refine e_aload_n dX12_envy_35 rfl rfl ?_
          refine e_iload_n dX12_envy_36 rfl rfl ?_
          refine e_iload_n dX12_envy_37 rfl rfl ?_
          obtain ⟨Q11, hc12, h⟩ := h
          refine e_callV (M' := M_X12_envyOf) (as := [.int a2, .int a3]) (rest := []) dX12_envy_38 ml_X12_431 mk_X12_envyOf (ob_11 hn) rfl rfl rfl (Nat.le_of_ble_eq_true rfl) (show 0 < d by omega) hc12 (Md_le (b := md_X12_envy) (by decide)) (fun v σ13 hq hf => ?_)
          obtain ⟨v14, rfl, hq⟩ := hq
          replace h := h v14 σ13 hq hf
          exact e_iret dX12_envy_41 rfl ⟨_, rfl, h⟩
        · replace h := h.2 c4
          refine e_iconst dX12_envy_28 ci_m1 ?_
          exact e_iret dX12_envy_29 rfl ⟨_, rfl, h⟩
abbrev K_X12_envies_28 (d n : Nat) (σ0 : St) (Q : Int32 → St → Prop) (σ : St) (x2 : Int32) (x3 : Int32) (x4 : Int32) : Prop := Ev (d, n, md_X12_envies, σ0, liI Q) M_X12_envies 28 [some (.ref 11), none, some (.int x2), some (.int x3), some (.int x4), none] [] σ
abbrev K_X12_envies_40 (d n : Nat) (σ0 : St) (Q : Int32 → St → Prop) (σ : St) (x2 : Int32) (x3 : Int32) (x4 : Int32) (x5 : Int32) : Prop := Ev (d, n, md_X12_envies, σ0, liI Q) M_X12_envies 40 [some (.ref 11), none, some (.int x2), some (.int x3), some (.int x4), some (.int x5)] [] σ
theorem B_X12_envies_28 {d n : Nat} {σ0 : St} {Q : Int32 → St → Prop}  {σ : St} {x2 : Int32} {x3 : Int32} {x4 : Int32} (hn : FIX ≤ n) (hd : 2 ≤ d) (h : (((gI σ 11 1) ≤ x4 → Q x3 σ) ∧ (¬ (gI σ 11 1) ≤ x4 → K_X12_envies_40 d n σ0 Q σ x2 x3 x4 0))) : K_X12_envies_28 d n σ0 Q σ x2 x3 x4 := by
  refine e_iload dX12_envies_28 rfl ?_
  refine e_aload_n dX12_envies_30 rfl rfl ?_
  refine e_getI dX12_envies_31 fl_X12_138 (ob_11 hn) rfl ?_
  refine e_icmp_ge (tgt := 91) dX12_envies_34 (by decide) (fun c1 => ?_) (fun c1 => ?_)
  · replace h := h.1 c1
    refine e_iload_n dX12_envies_91 rfl rfl ?_
    exact e_iret dX12_envies_92 rfl ⟨_, rfl, h⟩
  · replace h := h.2 c1
    refine e_iconst dX12_envies_37 ci_0 ?_
    refine e_istore dX12_envies_38 rfl (by decide) ?_
    exact h
theorem B_X12_envies_40 {d n : Nat} {σ0 : St} {Q : Int32 → St → Prop}  {σ : St} {x2 : Int32} {x3 : Int32} {x4 : Int32} {x5 : Int32} (hn : FIX ≤ n) (hd : 2 ≤ d) (h : (((gI σ 11 1) ≤ x5 → K_X12_envies_28 d n σ0 Q σ x2 x3 (x4 + 1)) ∧ (¬ (gI σ 11 1) ≤ x5 → ((x4 = x5 → K_X12_envies_40 d n σ0 Q σ x2 x3 x4 (x5 + 1)) ∧ (¬ x4 = x5 → ∃ Q3 : Int32 → St → Prop, Cn (d - 1) n M_X12_envyOf md_X12_envyOf [.ref 11, .int x4, .int x5] σ (liI Q3) ∧ ∀ (v6 : Int32) (σ5 : St), Q3 v6 σ5 → Fr md_X12_envyOf σ σ5 → ((v6 < x2 → K_X12_envies_40 d n σ0 Q σ5 x2 (x3 + (fn_X12_one 0)) x4 (x5 + 1)) ∧ (¬ v6 < x2 → K_X12_envies_40 d n σ0 Q σ5 x2 (x3 + (fn_X12_one 1)) x4 (x5 + 1)))))))) : K_X12_envies_40 d n σ0 Q σ x2 x3 x4 x5 := by
  refine e_iload dX12_envies_40 rfl ?_
  refine e_aload_n dX12_envies_42 rfl rfl ?_
  refine e_getI dX12_envies_43 fl_X12_138 (ob_11 hn) rfl ?_
  refine e_icmp_ge (tgt := 85) dX12_envies_46 (by decide) (fun c1 => ?_) (fun c1 => ?_)
  · replace h := h.1 c1
    refine e_iinc dX12_envies_85 rfl (ii_1 _) rfl (by decide) ?_
    refine e_goto (tgt := 28) dX12_envies_88 (by decide) ?_
    refine e_kill [true, false, true, true, true, false] ?_
    exact h
  · replace h := h.2 c1
    refine e_iload dX12_envies_49 rfl ?_
    refine e_iload dX12_envies_51 rfl ?_
    refine e_icmp_eq (tgt := 79) dX12_envies_53 (by decide) (fun c2 => ?_) (fun c2 => ?_)
    · replace h := h.1 c2
      refine e_iinc dX12_envies_79 rfl (ii_1 _) rfl (by decide) ?_
      refine e_goto (tgt := 40) dX12_envies_82 (by decide) ?_
      exact h
    · replace h := h.2 c2
      refine e_iload_n dX12_envies_56 rfl rfl ?_
      refine e_aload_n dX12_envies_57 rfl rfl ?_
      refine e_iload dX12_envies_58 rfl ?_
      refine e_iload dX12_envies_60 rfl ?_
      obtain ⟨Q3, hc4, h⟩ := h
      refine e_callV (M' := M_X12_envyOf) (as := [.int x4, .int x5]) (rest := [.int x3]) dX12_envies_62 ml_X12_431 mk_X12_envyOf (ob_11 hn) rfl rfl rfl (Nat.le_of_ble_eq_true rfl) (show 0 < d by omega) hc4 (Md_le (b := md_X12_envies) (by decide)) (fun v σ5 hq hf => ?_)
      obtain ⟨v6, rfl, hq⟩ := hq
      replace h := h v6 σ5 hq hf
      refine e_iload_n dX12_envies_65 rfl rfl ?_
      refine e_icmp_lt (tgt := 73) dX12_envies_66 (by decide) (fun c9 => ?_) (fun c9 => ?_)
      · replace h := h.1 c9
        refine e_iconst dX12_envies_73 ci_0 ?_
        refine e_callS (M' := M_X12_one) (as := [.int 0]) (rest := [.int x3]) dX12_envies_74 ml_X12_293 mk_X12_one rfl (Nat.le_of_ble_eq_true rfl) (show 0 < d by omega) (sp_X12_one) Md_nil (fun v σv hq hf => ?_)
        obtain ⟨v, rfl, rfl, rfl⟩ := hq
        refine e_iadd dX12_envies_77 ?_
        refine e_istore_n dX12_envies_78 rfl rfl (by decide) ?_
        refine e_iinc dX12_envies_79 rfl (ii_1 _) rfl (by decide) ?_
        refine e_goto (tgt := 40) dX12_envies_82 (by decide) ?_
        exact h
      · replace h := h.2 c9
        refine e_iconst dX12_envies_69 ci_1 ?_
        refine e_goto (tgt := 74) dX12_envies_70 (by decide) ?_
        refine e_callS (M' := M_X12_one) (as := [.int 1]) (rest := [.int x3]) dX12_envies_74 ml_X12_293 mk_X12_one rfl (Nat.le_of_ble_eq_true rfl) (show 0 < d by omega) (sp_X12_one) Md_nil (fun v σv hq hf => ?_)
        obtain ⟨v, rfl, rfl, rfl⟩ := hq
        refine e_iadd dX12_envies_77 ?_
        refine e_istore_n dX12_envies_78 rfl rfl (by decide) ?_
        refine e_iinc dX12_envies_79 rfl (ii_1 _) rfl (by decide) ?_
        refine e_goto (tgt := 40) dX12_envies_82 (by decide) ?_
        exact h
theorem S_X12_envies {d n : Nat} {Q : Int32 → St → Prop} {σ : St} {a1 : Int32} {a2 : Int32} (hn : FIX ≤ n) (hd : 2 ≤ d) (h : (((fn_X12_isWay a1) = 0 → Q (-1) σ) ∧ (¬ (fn_X12_isWay a1) = 0 → (((fn_X12_isIn a2 1 2) ≠ 0 → ∃ Q3 : St → Prop, Cn (d - 1) n M_X12_goes md_X12_goes [.ref 11, .int a1] σ (liV Q3) ∧ ∀ (σ5 : St), Q3 σ5 → Fr md_X12_goes σ σ5 → K_X12_envies_28 d n σ Q σ5 a2 0 0) ∧ ((fn_X12_isIn a2 1 2) = 0 → Q (-1) σ))))) : Cn d n M_X12_envies md_X12_envies [.ref 11, .int a1, .int a2] σ (liI Q) := by
  refine Cn.of (k0 := 3) (by decide) rfl ?_
  show Ev (d, n, md_X12_envies, σ, liI Q) M_X12_envies 0 [some (.ref 11), some (.int a1), some (.int a2), none, none, none] [] σ
  refine e_iload_n dX12_envies_0 rfl rfl ?_
  refine e_callS (M' := M_X12_isWay) (as := [.int a1]) (rest := []) dX12_envies_1 ml_X12_418 mk_X12_isWay rfl (Nat.le_of_ble_eq_true rfl) (show 0 < d by omega) (sp_X12_isWay (show 1 ≤ d - 1 by omega)) Md_nil (fun v σv hq hf => ?_)
  obtain ⟨v, rfl, rfl, rfl⟩ := hq
  refine e_if_eq (tgt := 16) dX12_envies_4 (by decide) (fun c1 => ?_) (fun c1 => ?_)
  · replace h := h.1 c1
    refine e_iconst dX12_envies_16 ci_m1 ?_
    exact e_iret dX12_envies_17 rfl ⟨_, rfl, h⟩
  · replace h := h.2 c1
    refine e_iload_n dX12_envies_7 rfl rfl ?_
    refine e_iconst dX12_envies_8 ci_1 ?_
    refine e_iconst dX12_envies_9 ci_2 ?_
    refine e_callS (M' := M_X12_isIn) (as := [.int a2, .int 1, .int 2]) (rest := []) dX12_envies_10 ml_X12_134 mk_X12_isIn rfl (Nat.le_of_ble_eq_true rfl) (show 0 < d by omega) (sp_X12_isIn) Md_nil (fun v σv hq hf => ?_)
    obtain ⟨v, rfl, rfl, rfl⟩ := hq
    refine e_if_ne (tgt := 18) dX12_envies_13 (by decide) (fun c2 => ?_) (fun c2 => ?_)
    · replace h := h.1 c2
      refine e_aload_n dX12_envies_18 rfl rfl ?_
      refine e_iload_n dX12_envies_19 rfl rfl ?_
      obtain ⟨Q3, hc4, h⟩ := h
      refine e_callV (M' := M_X12_goes) (as := [.int a1]) (rest := []) dX12_envies_20 ml_X12_424 mk_X12_goes (ob_11 hn) rfl rfl rfl (Nat.le_of_ble_eq_true rfl) (show 0 < d by omega) hc4 (Md_le (b := md_X12_envies) (by decide)) (fun v σ5 hq hf => ?_)
      obtain ⟨rfl, hq⟩ := hq
      replace h := h σ5 hq hf
      refine e_iconst dX12_envies_23 ci_0 ?_
      refine e_istore_n dX12_envies_24 rfl rfl (by decide) ?_
      refine e_iconst dX12_envies_25 ci_0 ?_
      refine e_istore dX12_envies_26 rfl (by decide) ?_
      refine e_kill [true, false, true, true, true, false] ?_
      exact h
    · replace h := h.2 c2
      refine e_iconst dX12_envies_16 ci_m1 ?_
      exact e_iret dX12_envies_17 rfl ⟨_, rfl, h⟩
theorem S_X12_changed {d n : Nat} {Q : Int32 → St → Prop} {σ : St} {a1 : Int32} {a2 : Int32} {a3 : Int32} (hd : 1 ≤ d) (h : (((10 : Int32) ≤ a2 → (((10 : Int32) ≤ a3 → (((10 : Int32) ≤ a2 → (((10 : Int32) ≤ a3 → Q a1 σ) ∧ (¬ (10 : Int32) ≤ a3 → Q (a1 ||| ((1 : Int32) <<< (a3 &&& 31))) σ))) ∧ (¬ (10 : Int32) ≤ a2 → (((10 : Int32) ≤ a3 → Q (a1 &&& (((1 : Int32) <<< (a2 &&& 31)) ^^^ (-1))) σ) ∧ (¬ (10 : Int32) ≤ a3 → Q ((a1 &&& (((1 : Int32) <<< (a2 &&& 31)) ^^^ (-1))) ||| ((1 : Int32) <<< (a3 &&& 31))) σ))))) ∧ (¬ (10 : Int32) ≤ a3 → (((fn_X12_holds a1 a3) = 0 → (((10 : Int32) ≤ a2 → (((10 : Int32) ≤ a3 → Q a1 σ) ∧ (¬ (10 : Int32) ≤ a3 → Q (a1 ||| ((1 : Int32) <<< (a3 &&& 31))) σ))) ∧ (¬ (10 : Int32) ≤ a2 → (((10 : Int32) ≤ a3 → Q (a1 &&& (((1 : Int32) <<< (a2 &&& 31)) ^^^ (-1))) σ) ∧ (¬ (10 : Int32) ≤ a3 → Q ((a1 &&& (((1 : Int32) <<< (a2 &&& 31)) ^^^ (-1))) ||| ((1 : Int32) <<< (a3 &&& 31))) σ))))) ∧ (¬ (fn_X12_holds a1 a3) = 0 → Q (-1) σ))))) ∧ (¬ (10 : Int32) ≤ a2 → (((fn_X12_holds a1 a2) = 0 → Q (-1) σ) ∧ (¬ (fn_X12_holds a1 a2) = 0 → (((10 : Int32) ≤ a3 → (((10 : Int32) ≤ a2 → (((10 : Int32) ≤ a3 → Q a1 σ) ∧ (¬ (10 : Int32) ≤ a3 → Q (a1 ||| ((1 : Int32) <<< (a3 &&& 31))) σ))) ∧ (¬ (10 : Int32) ≤ a2 → (((10 : Int32) ≤ a3 → Q (a1 &&& (((1 : Int32) <<< (a2 &&& 31)) ^^^ (-1))) σ) ∧ (¬ (10 : Int32) ≤ a3 → Q ((a1 &&& (((1 : Int32) <<< (a2 &&& 31)) ^^^ (-1))) ||| ((1 : Int32) <<< (a3 &&& 31))) σ))))) ∧ (¬ (10 : Int32) ≤ a3 → (((fn_X12_holds a1 a3) = 0 → (((10 : Int32) ≤ a2 → (((10 : Int32) ≤ a3 → Q a1 σ) ∧ (¬ (10 : Int32) ≤ a3 → Q (a1 ||| ((1 : Int32) <<< (a3 &&& 31))) σ))) ∧ (¬ (10 : Int32) ≤ a2 → (((10 : Int32) ≤ a3 → Q (a1 &&& (((1 : Int32) <<< (a2 &&& 31)) ^^^ (-1))) σ) ∧ (¬ (10 : Int32) ≤ a3 → Q ((a1 &&& (((1 : Int32) <<< (a2 &&& 31)) ^^^ (-1))) ||| ((1 : Int32) <<< (a3 &&& 31))) σ))))) ∧ (¬ (fn_X12_holds a1 a3) = 0 → Q (-1) σ))))))))) : Cn d n M_X12_changed md_X12_changed [.ref 11, .int a1, .int a2, .int a3] σ (liI Q) := by
  refine Cn.of (k0 := 1) (by decide) rfl ?_
  show Ev (d, n, md_X12_changed, σ, liI Q) M_X12_changed 0 [some (.ref 11), some (.int a1), some (.int a2), some (.int a3), none] [] σ
  refine e_iload_n dX12_changed_0 rfl rfl ?_
  refine e_bipush dX12_changed_1 cb_10 ?_
  refine e_icmp_ge (tgt := 14) dX12_changed_3 (by decide) (fun c1 => ?_) (fun c1 => ?_)
  · replace h := h.1 c1
    refine e_iload_n dX12_changed_14 rfl rfl ?_
    refine e_bipush dX12_changed_15 cb_10 ?_
    refine e_icmp_ge (tgt := 30) dX12_changed_17 (by decide) (fun c2 => ?_) (fun c2 => ?_)
    · replace h := h.1 c2
      refine e_iload_n dX12_changed_30 rfl rfl ?_
      refine e_bipush dX12_changed_31 cb_10 ?_
      refine e_icmp_ge (tgt := 46) dX12_changed_33 (by decide) (fun c3 => ?_) (fun c3 => ?_)
      · replace h := h.1 c3
        refine e_iload_n dX12_changed_46 rfl rfl ?_
        refine e_istore dX12_changed_47 rfl (by decide) ?_
        refine e_iload_n dX12_changed_49 rfl rfl ?_
        refine e_bipush dX12_changed_50 cb_10 ?_
        refine e_icmp_ge (tgt := 64) dX12_changed_52 (by decide) (fun c4 => ?_) (fun c4 => ?_)
        · replace h := h.1 c4
          refine e_iload dX12_changed_64 rfl ?_
          exact e_iret dX12_changed_66 rfl ⟨_, rfl, h⟩
        · replace h := h.2 c4
          refine e_iload dX12_changed_55 rfl ?_
          refine e_iconst dX12_changed_57 ci_1 ?_
          refine e_iload_n dX12_changed_58 rfl rfl ?_
          refine e_ishl dX12_changed_59 ?_
          refine e_ior dX12_changed_60 ?_
          refine e_goto (tgt := 66) dX12_changed_61 (by decide) ?_
          exact e_iret dX12_changed_66 rfl ⟨_, rfl, h⟩
      · replace h := h.2 c3
        refine e_iload_n dX12_changed_36 rfl rfl ?_
        refine e_iconst dX12_changed_37 ci_1 ?_
        refine e_iload_n dX12_changed_38 rfl rfl ?_
        refine e_ishl dX12_changed_39 ?_
        refine e_iconst dX12_changed_40 ci_m1 ?_
        refine e_ixor dX12_changed_41 ?_
        refine e_iand dX12_changed_42 ?_
        refine e_goto (tgt := 47) dX12_changed_43 (by decide) ?_
        refine e_istore dX12_changed_47 rfl (by decide) ?_
        refine e_iload_n dX12_changed_49 rfl rfl ?_
        refine e_bipush dX12_changed_50 cb_10 ?_
        refine e_icmp_ge (tgt := 64) dX12_changed_52 (by decide) (fun c5 => ?_) (fun c5 => ?_)
        · replace h := h.1 c5
          refine e_iload dX12_changed_64 rfl ?_
          exact e_iret dX12_changed_66 rfl ⟨_, rfl, h⟩
        · replace h := h.2 c5
          refine e_iload dX12_changed_55 rfl ?_
          refine e_iconst dX12_changed_57 ci_1 ?_
          refine e_iload_n dX12_changed_58 rfl rfl ?_
          refine e_ishl dX12_changed_59 ?_
          refine e_ior dX12_changed_60 ?_
          refine e_goto (tgt := 66) dX12_changed_61 (by decide) ?_
          exact e_iret dX12_changed_66 rfl ⟨_, rfl, h⟩
    · replace h := h.2 c2
      refine e_iload_n dX12_changed_20 rfl rfl ?_
      refine e_iload_n dX12_changed_21 rfl rfl ?_
      refine e_callS (M' := M_X12_holds) (as := [.int a1, .int a3]) (rest := []) dX12_changed_22 ml_X12_289 mk_X12_holds rfl (Nat.le_of_ble_eq_true rfl) (show 0 < d by omega) (sp_X12_holds) Md_nil (fun v σv hq hf => ?_)
      obtain ⟨v, rfl, rfl, rfl⟩ := hq
      refine e_if_eq (tgt := 30) dX12_changed_25 (by decide) (fun c6 => ?_) (fun c6 => ?_)
      · replace h := h.1 c6
        refine e_iload_n dX12_changed_30 rfl rfl ?_
        refine e_bipush dX12_changed_31 cb_10 ?_
        refine e_icmp_ge (tgt := 46) dX12_changed_33 (by decide) (fun c7 => ?_) (fun c7 => ?_)
        · replace h := h.1 c7
          refine e_iload_n dX12_changed_46 rfl rfl ?_
          refine e_istore dX12_changed_47 rfl (by decide) ?_
          refine e_iload_n dX12_changed_49 rfl rfl ?_
          refine e_bipush dX12_changed_50 cb_10 ?_
          refine e_icmp_ge (tgt := 64) dX12_changed_52 (by decide) (fun c8 => ?_) (fun c8 => ?_)
          · replace h := h.1 c8
            refine e_iload dX12_changed_64 rfl ?_
            exact e_iret dX12_changed_66 rfl ⟨_, rfl, h⟩
          · replace h := h.2 c8
            refine e_iload dX12_changed_55 rfl ?_
            refine e_iconst dX12_changed_57 ci_1 ?_
            refine e_iload_n dX12_changed_58 rfl rfl ?_
            refine e_ishl dX12_changed_59 ?_
            refine e_ior dX12_changed_60 ?_
            refine e_goto (tgt := 66) dX12_changed_61 (by decide) ?_
            exact e_iret dX12_changed_66 rfl ⟨_, rfl, h⟩
        · replace h := h.2 c7
          refine e_iload_n dX12_changed_36 rfl rfl ?_
          refine e_iconst dX12_changed_37 ci_1 ?_
          refine e_iload_n dX12_changed_38 rfl rfl ?_
          refine e_ishl dX12_changed_39 ?_
          refine e_iconst dX12_changed_40 ci_m1 ?_
          refine e_ixor dX12_changed_41 ?_
          refine e_iand dX12_changed_42 ?_
          refine e_goto (tgt := 47) dX12_changed_43 (by decide) ?_
          refine e_istore dX12_changed_47 rfl (by decide) ?_
          refine e_iload_n dX12_changed_49 rfl rfl ?_
          refine e_bipush dX12_changed_50 cb_10 ?_
          refine e_icmp_ge (tgt := 64) dX12_changed_52 (by decide) (fun c9 => ?_) (fun c9 => ?_)
          · replace h := h.1 c9
            refine e_iload dX12_changed_64 rfl ?_
            exact e_iret dX12_changed_66 rfl ⟨_, rfl, h⟩
          · replace h := h.2 c9
            refine e_iload dX12_changed_55 rfl ?_
            refine e_iconst dX12_changed_57 ci_1 ?_
            refine e_iload_n dX12_changed_58 rfl rfl ?_
            refine e_ishl dX12_changed_59 ?_
            refine e_ior dX12_changed_60 ?_
            refine e_goto (tgt := 66) dX12_changed_61 (by decide) ?_
            exact e_iret dX12_changed_66 rfl ⟨_, rfl, h⟩
      · replace h := h.2 c6
        refine e_iconst dX12_changed_28 ci_m1 ?_
        exact e_iret dX12_changed_29 rfl ⟨_, rfl, h⟩
  · replace h := h.2 c1
    refine e_iload_n dX12_changed_6 rfl rfl ?_
    refine e_iload_n dX12_changed_7 rfl rfl ?_
    refine e_callS (M' := M_X12_holds) (as := [.int a1, .int a2]) (rest := []) dX12_changed_8 ml_X12_289 mk_X12_holds rfl (Nat.le_of_ble_eq_true rfl) (show 0 < d by omega) (sp_X12_holds) Md_nil (fun v σv hq hf => ?_)
    obtain ⟨v, rfl, rfl, rfl⟩ := hq
    refine e_if_eq (tgt := 28) dX12_changed_11 (by decide) (fun c10 => ?_) (fun c10 => ?_)
    · replace h := h.1 c10
      refine e_iconst dX12_changed_28 ci_m1 ?_
      exact e_iret dX12_changed_29 rfl ⟨_, rfl, h⟩
    · replace h := h.2 c10
      refine e_iload_n dX12_changed_14 rfl rfl ?_
      refine e_bipush dX12_changed_15 cb_10 ?_
      refine e_icmp_ge (tgt := 30) dX12_changed_17 (by decide) (fun c11 => ?_) (fun c11 => ?_)
      · replace h := h.1 c11
        refine e_iload_n dX12_changed_30 rfl rfl ?_
        refine e_bipush dX12_changed_31 cb_10 ?_
        refine e_icmp_ge (tgt := 46) dX12_changed_33 (by decide) (fun c12 => ?_) (fun c12 => ?_)
        · replace h := h.1 c12
          refine e_iload_n dX12_changed_46 rfl rfl ?_
          refine e_istore dX12_changed_47 rfl (by decide) ?_
          refine e_iload_n dX12_changed_49 rfl rfl ?_
          refine e_bipush dX12_changed_50 cb_10 ?_
          refine e_icmp_ge (tgt := 64) dX12_changed_52 (by decide) (fun c13 => ?_) (fun c13 => ?_)
          · replace h := h.1 c13
            refine e_iload dX12_changed_64 rfl ?_
            exact e_iret dX12_changed_66 rfl ⟨_, rfl, h⟩
          · replace h := h.2 c13
            refine e_iload dX12_changed_55 rfl ?_
            refine e_iconst dX12_changed_57 ci_1 ?_
            refine e_iload_n dX12_changed_58 rfl rfl ?_
            refine e_ishl dX12_changed_59 ?_
            refine e_ior dX12_changed_60 ?_
            refine e_goto (tgt := 66) dX12_changed_61 (by decide) ?_
            exact e_iret dX12_changed_66 rfl ⟨_, rfl, h⟩
        · replace h := h.2 c12
          refine e_iload_n dX12_changed_36 rfl rfl ?_
          refine e_iconst dX12_changed_37 ci_1 ?_
          refine e_iload_n dX12_changed_38 rfl rfl ?_
          refine e_ishl dX12_changed_39 ?_
          refine e_iconst dX12_changed_40 ci_m1 ?_
          refine e_ixor dX12_changed_41 ?_
          refine e_iand dX12_changed_42 ?_
          refine e_goto (tgt := 47) dX12_changed_43 (by decide) ?_
          refine e_istore dX12_changed_47 rfl (by decide) ?_
          refine e_iload_n dX12_changed_49 rfl rfl ?_
          refine e_bipush dX12_changed_50 cb_10 ?_
          refine e_icmp_ge (tgt := 64) dX12_changed_52 (by decide) (fun c14 => ?_) (fun c14 => ?_)
          · replace h := h.1 c14
            refine e_iload dX12_changed_64 rfl ?_
            exact e_iret dX12_changed_66 rfl ⟨_, rfl, h⟩
          · replace h := h.2 c14
            refine e_iload dX12_changed_55 rfl ?_
            refine e_iconst dX12_changed_57 ci_1 ?_
            refine e_iload_n dX12_changed_58 rfl rfl ?_
            refine e_ishl dX12_changed_59 ?_
            refine e_ior dX12_changed_60 ?_
            refine e_goto (tgt := 66) dX12_changed_61 (by decide) ?_
            exact e_iret dX12_changed_66 rfl ⟨_, rfl, h⟩
      · replace h := h.2 c11
        refine e_iload_n dX12_changed_20 rfl rfl ?_
        refine e_iload_n dX12_changed_21 rfl rfl ?_
        refine e_callS (M' := M_X12_holds) (as := [.int a1, .int a3]) (rest := []) dX12_changed_22 ml_X12_289 mk_X12_holds rfl (Nat.le_of_ble_eq_true rfl) (show 0 < d by omega) (sp_X12_holds) Md_nil (fun v σv hq hf => ?_)
        obtain ⟨v, rfl, rfl, rfl⟩ := hq
        refine e_if_eq (tgt := 30) dX12_changed_25 (by decide) (fun c15 => ?_) (fun c15 => ?_)
        · replace h := h.1 c15
          refine e_iload_n dX12_changed_30 rfl rfl ?_
          refine e_bipush dX12_changed_31 cb_10 ?_
          refine e_icmp_ge (tgt := 46) dX12_changed_33 (by decide) (fun c16 => ?_) (fun c16 => ?_)
          · replace h := h.1 c16
            refine e_iload_n dX12_changed_46 rfl rfl ?_
            refine e_istore dX12_changed_47 rfl (by decide) ?_
            refine e_iload_n dX12_changed_49 rfl rfl ?_
            refine e_bipush dX12_changed_50 cb_10 ?_
            refine e_icmp_ge (tgt := 64) dX12_changed_52 (by decide) (fun c17 => ?_) (fun c17 => ?_)
            · replace h := h.1 c17
              refine e_iload dX12_changed_64 rfl ?_
              exact e_iret dX12_changed_66 rfl ⟨_, rfl, h⟩
            · replace h := h.2 c17
              refine e_iload dX12_changed_55 rfl ?_
              refine e_iconst dX12_changed_57 ci_1 ?_
              refine e_iload_n dX12_changed_58 rfl rfl ?_
              refine e_ishl dX12_changed_59 ?_
              refine e_ior dX12_changed_60 ?_
              refine e_goto (tgt := 66) dX12_changed_61 (by decide) ?_
              exact e_iret dX12_changed_66 rfl ⟨_, rfl, h⟩
          · replace h := h.2 c16
            refine e_iload_n dX12_changed_36 rfl rfl ?_
            refine e_iconst dX12_changed_37 ci_1 ?_
            refine e_iload_n dX12_changed_38 rfl rfl ?_
            refine e_ishl dX12_changed_39 ?_
            refine e_iconst dX12_changed_40 ci_m1 ?_
            refine e_ixor dX12_changed_41 ?_
            refine e_iand dX12_changed_42 ?_
            refine e_goto (tgt := 47) dX12_changed_43 (by decide) ?_
            refine e_istore dX12_changed_47 rfl (by decide) ?_
            refine e_iload_n dX12_changed_49 rfl rfl ?_
            refine e_bipush dX12_changed_50 cb_10 ?_
            refine e_icmp_ge (tgt := 64) dX12_changed_52 (by decide) (fun c18 => ?_) (fun c18 => ?_)
            · replace h := h.1 c18
              refine e_iload dX12_changed_64 rfl ?_
              exact e_iret dX12_changed_66 rfl ⟨_, rfl, h⟩
            · replace h := h.2 c18
              refine e_iload dX12_changed_55 rfl ?_
              refine e_iconst dX12_changed_57 ci_1 ?_
              refine e_iload_n dX12_changed_58 rfl rfl ?_
              refine e_ishl dX12_changed_59 ?_
              refine e_ior dX12_changed_60 ?_
              refine e_goto (tgt := 66) dX12_changed_61 (by decide) ?_
              exact e_iret dX12_changed_66 rfl ⟨_, rfl, h⟩
        · replace h := h.2 c15
          refine e_iconst dX12_changed_28 ci_m1 ?_
          exact e_iret dX12_changed_29 rfl ⟨_, rfl, h⟩
theorem S_X12_isWaste {d n : Nat} {Q : Int32 → St → Prop} {σ : St} {a1 : Int32} {a2 : Int32} {a3 : Int32} {a4 : Int32} (hn : FIX ≤ n) (hd : 1 ≤ d) (h : vp_in a1 8 ∧ ∃ Q1 : Int32 → St → Prop, Cn (d - 1) n M_X12_changed md_X12_changed [.ref 11, .int (gI σ 71 a1.toNatClampNeg), .int a3, .int a4] σ (liI Q1) ∧ ∀ (v4 : Int32) (σ3 : St), Q1 v4 σ3 → Fr md_X12_changed σ σ3 → vp_in a2 8 ∧ ∃ Q7 : Int32 → St → Prop, Cn (d - 1) n M_X12_changed md_X12_changed [.ref 11, .int (gI σ3 71 a2.toNatClampNeg), .int a4, .int a3] σ3 (liI Q7) ∧ ∀ (v10 : Int32) (σ9 : St), Q7 v10 σ9 → Fr md_X12_changed σ3 σ9 → ((v4 = (-1) → Q 0 σ9) ∧ (¬ v4 = (-1) → ((v10 = (-1) → Q 0 σ9) ∧ (¬ v10 = (-1) → pre_X12_isLawful σ9 a1 v4 ∧ (((fn_X12_isLawful σ9 a1 v4) = 0 → Q 0 σ9) ∧ (¬ (fn_X12_isLawful σ9 a1 v4) = 0 → pre_X12_isLawful σ9 a2 v10 ∧ (((fn_X12_isLawful σ9 a2 v10) ≠ 0 → pre_X12_worthOf σ9 a1 v4 ∧ vp_in a1 8 ∧ pre_X12_worthOf σ9 a1 (gI σ9 71 a1.toNatClampNeg) ∧ pre_X12_worthOf σ9 a2 v10 ∧ vp_in a2 8 ∧ pre_X12_worthOf σ9 a2 (gI σ9 71 a2.toNatClampNeg) ∧ ((((fn_X12_worthOf σ9 a1 v4) - (fn_X12_worthOf σ9 a1 (gI σ9 71 a1.toNatClampNeg))) < 0 → Q 0 σ9) ∧ (¬ ((fn_X12_worthOf σ9 a1 v4) - (fn_X12_worthOf σ9 a1 (gI σ9 71 a1.toNatClampNeg))) < 0 → ((((fn_X12_worthOf σ9 a2 v10) - (fn_X12_worthOf σ9 a2 (gI σ9 71 a2.toNatClampNeg))) < 0 → Q 0 σ9) ∧ (¬ ((fn_X12_worthOf σ9 a2 v10) - (fn_X12_worthOf σ9 a2 (gI σ9 71 a2.toNatClampNeg))) < 0 → (((((fn_X12_worthOf σ9 a1 v4) - (fn_X12_worthOf σ9 a1 (gI σ9 71 a1.toNatClampNeg))) + ((fn_X12_worthOf σ9 a2 v10) - (fn_X12_worthOf σ9 a2 (gI σ9 71 a2.toNatClampNeg)))) ≤ 0 → Q 0 σ9) ∧ (¬ (((fn_X12_worthOf σ9 a1 v4) - (fn_X12_worthOf σ9 a1 (gI σ9 71 a1.toNatClampNeg))) + ((fn_X12_worthOf σ9 a2 v10) - (fn_X12_worthOf σ9 a2 (gI σ9 71 a2.toNatClampNeg)))) ≤ 0 → Q 1 σ9))))))) ∧ ((fn_X12_isLawful σ9 a2 v10) = 0 → Q 0 σ9))))))))) : Cn d n M_X12_isWaste md_X12_isWaste [.ref 11, .int a1, .int a2, .int a3, .int a4] σ (liI Q) := by
  refine Cn.of (k0 := 4) (by decide) rfl ?_
  show Ev (d, n, md_X12_isWaste, σ, liI Q) M_X12_isWaste 0 [some (.ref 11), some (.int a1), some (.int a2), some (.int a3), some (.int a4), none, none, none, none] [] σ
  refine e_aload_n dX12_isWaste_0 rfl rfl ?_
  refine e_aload_n dX12_isWaste_1 rfl rfl ?_
  refine e_getR (y := 71) dX12_isWaste_2 fl_X12_119 (ob_11 hn) rfl rfl ?_
  refine e_iload_n dX12_isWaste_5 rfl rfl ?_
  refine e_iald dX12_isWaste_6 (ar_71 hn) h.1 ?_
  replace h := h.2
  refine e_iload_n dX12_isWaste_7 rfl rfl ?_
  refine e_iload dX12_isWaste_8 rfl ?_
  obtain ⟨Q1, hc2, h⟩ := h
  refine e_callV (M' := M_X12_changed) (as := [.int (gI σ 71 a1.toNatClampNeg), .int a3, .int a4]) (rest := []) dX12_isWaste_10 ml_X12_434 mk_X12_changed (ob_11 hn) rfl rfl rfl (Nat.le_of_ble_eq_true rfl) (show 0 < d by omega) hc2 (Md_le (b := md_X12_isWaste) (by decide)) (fun v σ3 hq hf => ?_)
  obtain ⟨v4, rfl, hq⟩ := hq
  replace h := h v4 σ3 hq hf
  refine e_istore dX12_isWaste_13 rfl (by decide) ?_
  refine e_aload_n dX12_isWaste_15 rfl rfl ?_
  refine e_aload_n dX12_isWaste_16 rfl rfl ?_
  refine e_getR (y := 71) dX12_isWaste_17 fl_X12_119 (ob_11 hn) rfl rfl ?_
  refine e_iload_n dX12_isWaste_20 rfl rfl ?_
  refine e_iald dX12_isWaste_21 (ar_71 hn) h.1 ?_
  replace h := h.2
  refine e_iload dX12_isWaste_22 rfl ?_
  refine e_iload_n dX12_isWaste_24 rfl rfl ?_
  obtain ⟨Q7, hc8, h⟩ := h
  refine e_callV (M' := M_X12_changed) (as := [.int (gI σ3 71 a2.toNatClampNeg), .int a4, .int a3]) (rest := []) dX12_isWaste_25 ml_X12_434 mk_X12_changed (ob_11 hn) rfl rfl rfl (Nat.le_of_ble_eq_true rfl) (show 0 < d by omega) hc8 (Md_le (b := md_X12_isWaste) (by decide)) (fun v σ9 hq hf => ?_)
  obtain ⟨v10, rfl, hq⟩ := hq
  replace h := h v10 σ9 hq hf
  refine e_istore dX12_isWaste_28 rfl (by decide) ?_
  refine e_iload dX12_isWaste_30 rfl ?_
  refine e_iconst dX12_isWaste_32 ci_m1 ?_
  refine e_icmp_eq (tgt := 62) dX12_isWaste_33 (by decide) (fun c13 => ?_) (fun c13 => ?_)
  · replace h := h.1 c13
    refine e_iconst dX12_isWaste_62 ci_0 ?_
    exact e_zret dX12_isWaste_63 rfl (nar_z (Or.inl rfl)) ⟨_, rfl, h⟩
  · replace h := h.2 c13
    refine e_iload dX12_isWaste_36 rfl ?_
    refine e_iconst dX12_isWaste_38 ci_m1 ?_
    refine e_icmp_eq (tgt := 62) dX12_isWaste_39 (by decide) (fun c14 => ?_) (fun c14 => ?_)
    · replace h := h.1 c14
      refine e_iconst dX12_isWaste_62 ci_0 ?_
      exact e_zret dX12_isWaste_63 rfl (nar_z (Or.inl rfl)) ⟨_, rfl, h⟩
    · replace h := h.2 c14
      refine e_aload_n dX12_isWaste_42 rfl rfl ?_
      refine e_iload_n dX12_isWaste_43 rfl rfl ?_
      refine e_iload dX12_isWaste_44 rfl ?_
      refine e_callV (M' := M_X12_isLawful) (as := [.int a1, .int v4]) (rest := []) dX12_isWaste_46 ml_X12_348 mk_X12_isLawful (ob_11 hn) rfl rfl rfl (Nat.le_of_ble_eq_true rfl) (show 0 < d by omega) (sp_X12_isLawful hn h.1) Md_nil (fun v σv hq hf => ?_)
      obtain ⟨v, rfl, rfl, rfl⟩ := hq
      replace h := h.2
      refine e_if_eq (tgt := 62) dX12_isWaste_49 (by decide) (fun c15 => ?_) (fun c15 => ?_)
      · replace h := h.1 c15
        refine e_iconst dX12_isWaste_62 ci_0 ?_
        exact e_zret dX12_isWaste_63 rfl (nar_z (Or.inl rfl)) ⟨_, rfl, h⟩
      · replace h := h.2 c15
        refine e_aload_n dX12_isWaste_52 rfl rfl ?_
        refine e_iload_n dX12_isWaste_53 rfl rfl ?_
        refine e_iload dX12_isWaste_54 rfl ?_
        refine e_callV (M' := M_X12_isLawful) (as := [.int a2, .int v10]) (rest := []) dX12_isWaste_56 ml_X12_348 mk_X12_isLawful (ob_11 hn) rfl rfl rfl (Nat.le_of_ble_eq_true rfl) (show 0 < d by omega) (sp_X12_isLawful hn h.1) Md_nil (fun v σv hq hf => ?_)
        obtain ⟨v, rfl, rfl, rfl⟩ := hq
        replace h := h.2
        refine e_if_ne (tgt := 64) dX12_isWaste_59 (by decide) (fun c16 => ?_) (fun c16 => ?_)
        · replace h := h.1 c16
          refine e_aload_n dX12_isWaste_64 rfl rfl ?_
          refine e_iload_n dX12_isWaste_65 rfl rfl ?_
          refine e_iload dX12_isWaste_66 rfl ?_
          refine e_callV (M' := M_X12_worthOf) (as := [.int a1, .int v4]) (rest := []) dX12_isWaste_68 ml_X12_354 mk_X12_worthOf (ob_11 hn) rfl rfl rfl (Nat.le_of_ble_eq_true rfl) (show 0 < d by omega) (sp_X12_worthOf hn h.1) Md_nil (fun v σv hq hf => ?_)
          obtain ⟨v, rfl, rfl, rfl⟩ := hq
          replace h := h.2
          refine e_aload_n dX12_isWaste_71 rfl rfl ?_
          refine e_iload_n dX12_isWaste_72 rfl rfl ?_
          refine e_aload_n dX12_isWaste_73 rfl rfl ?_
          refine e_getR (y := 71) dX12_isWaste_74 fl_X12_119 (ob_11 hn) rfl rfl ?_
          refine e_iload_n dX12_isWaste_77 rfl rfl ?_
          refine e_iald dX12_isWaste_78 (ar_71 hn) h.1 ?_
          replace h := h.2
          refine e_callV (M' := M_X12_worthOf) (as := [.int a1, .int (gI σ9 71 a1.toNatClampNeg)]) (rest := [.int (fn_X12_worthOf σ9 a1 v4)]) dX12_isWaste_79 ml_X12_354 mk_X12_worthOf (ob_11 hn) rfl rfl rfl (Nat.le_of_ble_eq_true rfl) (show 0 < d by omega) (sp_X12_worthOf hn h.1) Md_nil (fun v σv hq hf => ?_)
          obtain ⟨v, rfl, rfl, rfl⟩ := hq
          replace h := h.2
          refine e_isub dX12_isWaste_82 ?_
          refine e_istore dX12_isWaste_83 rfl (by decide) ?_
          refine e_aload_n dX12_isWaste_85 rfl rfl ?_
          refine e_iload_n dX12_isWaste_86 rfl rfl ?_
          refine e_iload dX12_isWaste_87 rfl ?_
          refine e_callV (M' := M_X12_worthOf) (as := [.int a2, .int v10]) (rest := []) dX12_isWaste_89 ml_X12_354 mk_X12_worthOf (ob_11 hn) rfl rfl rfl (Nat.le_of_ble_eq_true rfl) (show 0 < d by omega) (sp_X12_worthOf hn h.1) Md_nil (fun v σv hq hf => ?_)
          obtain ⟨v, rfl, rfl, rfl⟩ := hq
          replace h := h.2
          refine e_aload_n dX12_isWaste_92 rfl rfl ?_
          refine e_iload_n dX12_isWaste_93 rfl rfl ?_
          refine e_aload_n dX12_isWaste_94 rfl rfl ?_
          refine e_getR (y := 71) dX12_isWaste_95 fl_X12_119 (ob_11 hn) rfl rfl ?_
          refine e_iload_n dX12_isWaste_98 rfl rfl ?_
          refine e_iald dX12_isWaste_99 (ar_71 hn) h.1 ?_
          replace h := h.2
          refine e_callV (M' := M_X12_worthOf) (as := [.int a2, .int (gI σ9 71 a2.toNatClampNeg)]) (rest := [.int (fn_X12_worthOf σ9 a2 v10)]) dX12_isWaste_100 ml_X12_354 mk_X12_worthOf (ob_11 hn) rfl rfl rfl (Nat.le_of_ble_eq_true rfl) (show 0 < d by omega) (sp_X12_worthOf hn h.1) Md_nil (fun v σv hq hf => ?_)
          obtain ⟨v, rfl, rfl, rfl⟩ := hq
          replace h := h.2
          refine e_isub dX12_isWaste_103 ?_
          refine e_istore dX12_isWaste_104 rfl (by decide) ?_
          refine e_iload dX12_isWaste_106 rfl ?_
          refine e_if_lt (tgt := 128) dX12_isWaste_108 (by decide) (fun c17 => ?_) (fun c17 => ?_)
          · replace h := h.1 c17
            refine e_iconst dX12_isWaste_128 ci_0 ?_
            exact e_zret dX12_isWaste_129 rfl (nar_z (Or.inl rfl)) ⟨_, rfl, h⟩
          · replace h := h.2 c17
            refine e_iload dX12_isWaste_111 rfl ?_
            refine e_if_lt (tgt := 128) dX12_isWaste_113 (by decide) (fun c18 => ?_) (fun c18 => ?_)
            · replace h := h.1 c18
              refine e_iconst dX12_isWaste_128 ci_0 ?_
              exact e_zret dX12_isWaste_129 rfl (nar_z (Or.inl rfl)) ⟨_, rfl, h⟩
            · replace h := h.2 c18
              refine e_iload dX12_isWaste_116 rfl ?_
              refine e_iload dX12_isWaste_118 rfl ?_
              refine e_iadd dX12_isWaste_120 ?_
              refine e_if_le (tgt := 128) dX12_isWaste_121 (by decide) (fun c19 => ?_) (fun c19 => ?_)
              · replace h := h.1 c19
                refine e_iconst dX12_isWaste_128 ci_0 ?_
                exact e_zret dX12_isWaste_129 rfl (nar_z (Or.inl rfl)) ⟨_, rfl, h⟩
              · replace h := h.2 c19
                refine e_iconst dX12_isWaste_124 ci_1 ?_
                refine e_goto (tgt := 129) dX12_isWaste_125 (by decide) ?_
                exact e_zret dX12_isWaste_129 rfl (nar_z (Or.inr rfl)) ⟨_, rfl, h⟩
        · replace h := h.2 c16
          refine e_iconst dX12_isWaste_62 ci_0 ?_
          exact e_zret dX12_isWaste_63 rfl (nar_z (Or.inl rfl)) ⟨_, rfl, h⟩
abbrev K_X12_waste_25 (d n : Nat) (σ0 : St) (Q : Int32 → St → Prop) (σ : St) (x2 : Int32) (x3 : Int32) : Prop := Ev (d, n, md_X12_waste, σ0, liI Q) M_X12_waste 25 [some (.ref 11), none, some (.int x2), some (.int x3), none, none] [] σ
abbrev K_X12_waste_38 (d n : Nat) (σ0 : St) (Q : Int32 → St → Prop) (σ : St) (x2 : Int32) (x3 : Int32) (x4 : Int32) : Prop := Ev (d, n, md_X12_waste, σ0, liI Q) M_X12_waste 38 [some (.ref 11), none, some (.int x2), some (.int x3), some (.int x4), none] [] σ
abbrev K_X12_waste_50 (d n : Nat) (σ0 : St) (Q : Int32 → St → Prop) (σ : St) (x2 : Int32) (x3 : Int32) (x4 : Int32) (x5 : Int32) : Prop := Ev (d, n, md_X12_waste, σ0, liI Q) M_X12_waste 50 [some (.ref 11), none, some (.int x2), some (.int x3), some (.int x4), some (.int x5)] [] σ
theorem B_X12_waste_25 {d n : Nat} {σ0 : St} {Q : Int32 → St → Prop}  {σ : St} {x2 : Int32} {x3 : Int32} (hn : FIX ≤ n) (hd : 2 ≤ d) (h : (((gI σ 11 1) ≤ x3 → Q (-1) σ) ∧ (¬ (gI σ 11 1) ≤ x3 → K_X12_waste_38 d n σ0 Q σ x2 x3 (x3 + 1)))) : K_X12_waste_25 d n σ0 Q σ x2 x3 := by
  refine e_iload_n dX12_waste_25 rfl rfl ?_
  refine e_aload_n dX12_waste_26 rfl rfl ?_
  refine e_getI dX12_waste_27 fl_X12_138 (ob_11 hn) rfl ?_
  refine e_icmp_ge (tgt := 132) dX12_waste_30 (by decide) (fun c1 => ?_) (fun c1 => ?_)
  · replace h := h.1 c1
    refine e_iconst dX12_waste_132 ci_m1 ?_
    exact e_iret dX12_waste_133 rfl ⟨_, rfl, h⟩
  · replace h := h.2 c1
    refine e_iload_n dX12_waste_33 rfl rfl ?_
    refine e_iconst dX12_waste_34 ci_1 ?_
    refine e_iadd dX12_waste_35 ?_
    refine e_istore dX12_waste_36 rfl (by decide) ?_
    exact h
theorem B_X12_waste_38 {d n : Nat} {σ0 : St} {Q : Int32 → St → Prop}  {σ : St} {x2 : Int32} {x3 : Int32} {x4 : Int32} (hn : FIX ≤ n) (hd : 2 ≤ d) (h : (((gI σ 11 1) ≤ x4 → K_X12_waste_25 d n σ0 Q σ x2 (x3 + 1)) ∧ (¬ (gI σ 11 1) ≤ x4 → K_X12_waste_50 d n σ0 Q σ x2 x3 x4 0))) : K_X12_waste_38 d n σ0 Q σ x2 x3 x4 := by
  refine e_iload dX12_waste_38 rfl ?_
  refine e_aload_n dX12_waste_40 rfl rfl ?_
  refine e_getI dX12_waste_41 fl_X12_138 (ob_11 hn) rfl ?_
  refine e_icmp_ge (tgt := 126) dX12_waste_44 (by decide) (fun c1 => ?_) (fun c1 => ?_)
  · replace h := h.1 c1
    refine e_iinc dX12_waste_126 rfl (ii_1 _) rfl (by decide) ?_
    refine e_goto (tgt := 25) dX12_waste_129 (by decide) ?_
    refine e_kill [true, false, true, true, false, false] ?_
    exact h
  · replace h := h.2 c1
    refine e_iconst dX12_waste_47 ci_0 ?_
    refine e_istore dX12_waste_48 rfl (by decide) ?_
    exact h
theorem B_X12_waste_50 {d n : Nat} {σ0 : St} {Q : Int32 → St → Prop}  {σ : St} {x2 : Int32} {x3 : Int32} {x4 : Int32} {x5 : Int32} (hn : FIX ≤ n) (hd : 2 ≤ d) (h : (((120 : Int32) ≤ x5 → K_X12_waste_38 d n σ0 Q σ x2 x3 (x4 + 1)) ∧ (¬ (120 : Int32) ≤ x5 → ∃ Q2 : Int32 → St → Prop, Cn (d - 1) n M_X12_isWaste md_X12_isWaste [.ref 11, .int x3, .int x4, .int (x5 / 11), .int (x5 - x5 / 11 * 11)] σ (liI Q2) ∧ ∀ (v5 : Int32) (σ4 : St), Q2 v5 σ4 → Fr md_X12_isWaste σ σ4 → ((v5 = 0 → K_X12_waste_50 d n σ0 Q σ4 x2 x3 x4 (x5 + 1)) ∧ (¬ v5 = 0 → ((x2 ≠ 0 → ((x2 ≠ 1 → ((x2 ≠ 2 → Q (x5 - x5 / 11 * 11) σ4) ∧ (x2 = 2 → Q (x5 / 11) σ4))) ∧ (x2 = 1 → Q x4 σ4))) ∧ (x2 = 0 → Q x3 σ4))))))) : K_X12_waste_50 d n σ0 Q σ x2 x3 x4 x5 := by
  refine e_iload dX12_waste_50 rfl ?_
  refine e_bipush dX12_waste_52 cb_120 ?_
  refine e_icmp_ge (tgt := 120) dX12_waste_54 (by decide) (fun c1 => ?_) (fun c1 => ?_)
  · replace h := h.1 c1
    refine e_iinc dX12_waste_120 rfl (ii_1 _) rfl (by decide) ?_
    refine e_goto (tgt := 38) dX12_waste_123 (by decide) ?_
    refine e_kill [true, false, true, true, true, false] ?_
    exact h
  · replace h := h.2 c1
    refine e_aload_n dX12_waste_57 rfl rfl ?_
    refine e_iload_n dX12_waste_58 rfl rfl ?_
    refine e_iload dX12_waste_59 rfl ?_
    refine e_iload dX12_waste_61 rfl ?_
    refine e_bipush dX12_waste_63 cb_11 ?_
    refine e_idiv dX12_waste_65 (by decide) ?_
    refine e_iload dX12_waste_66 rfl ?_
    refine e_bipush dX12_waste_68 cb_11 ?_
    refine e_irem dX12_waste_70 (by decide) ?_
    obtain ⟨Q2, hc3, h⟩ := h
    refine e_callV (M' := M_X12_isWaste) (as := [.int x3, .int x4, .int (x5 / 11), .int (x5 - x5 / 11 * 11)]) (rest := []) dX12_waste_71 ml_X12_437 mk_X12_isWaste (ob_11 hn) rfl rfl rfl (Nat.le_of_ble_eq_true rfl) (show 0 < d by omega) hc3 (Md_le (b := md_X12_waste) (by decide)) (fun v σ4 hq hf => ?_)
    obtain ⟨v5, rfl, hq⟩ := hq
    replace h := h v5 σ4 hq hf
    refine e_if_eq (tgt := 114) dX12_waste_74 (by decide) (fun c8 => ?_) (fun c8 => ?_)
    · replace h := h.1 c8
      refine e_iinc dX12_waste_114 rfl (ii_1 _) rfl (by decide) ?_
      refine e_goto (tgt := 50) dX12_waste_117 (by decide) ?_
      exact h
    · replace h := h.2 c8
      refine e_iload_n dX12_waste_77 rfl rfl ?_
      refine e_if_ne (tgt := 85) dX12_waste_78 (by decide) (fun c9 => ?_) (fun c9 => ?_)
      · replace h := h.1 c9
        refine e_iload_n dX12_waste_85 rfl rfl ?_
        refine e_iconst dX12_waste_86 ci_1 ?_
        refine e_icmp_ne (tgt := 95) dX12_waste_87 (by decide) (fun c10 => ?_) (fun c10 => ?_)
        · replace h := h.1 c10
          refine e_iload_n dX12_waste_95 rfl rfl ?_
          refine e_iconst dX12_waste_96 ci_2 ?_
          refine e_icmp_ne (tgt := 108) dX12_waste_97 (by decide) (fun c11 => ?_) (fun c11 => ?_)
          · replace h := h.1 c11
            refine e_iload dX12_waste_108 rfl ?_
            refine e_bipush dX12_waste_110 cb_11 ?_
            refine e_irem dX12_waste_112 (by decide) ?_
            exact e_iret dX12_waste_113 rfl ⟨_, rfl, h⟩
          · replace h := h.2 c11
            refine e_iload dX12_waste_100 rfl ?_
            refine e_bipush dX12_waste_102 cb_11 ?_
            refine e_idiv dX12_waste_104 (by decide) ?_
            refine e_goto (tgt := 113) dX12_waste_105 (by decide) ?_
            exact e_iret dX12_waste_113 rfl ⟨_, rfl, h⟩
        · replace h := h.2 c10
          refine e_iload dX12_waste_90 rfl ?_
          refine e_goto (tgt := 113) dX12_waste_92 (by decide) ?_
          exact e_iret dX12_waste_113 rfl ⟨_, rfl, h⟩
      · replace h := h.2 c9
        refine e_iload_n dX12_waste_81 rfl rfl ?_
        refine e_goto (tgt := 113) dX12_waste_82 (by decide) ?_
        exact e_iret dX12_waste_113 rfl ⟨_, rfl, h⟩
theorem S_X12_waste {d n : Nat} {Q : Int32 → St → Prop} {σ : St} {a1 : Int32} {a2 : Int32} (hn : FIX ≤ n) (hd : 2 ≤ d) (h : (((fn_X12_isWay a1) = 0 → Q (-1) σ) ∧ (¬ (fn_X12_isWay a1) = 0 → (((fn_X12_isIn a2 0 3) ≠ 0 → ∃ Q3 : St → Prop, Cn (d - 1) n M_X12_goes md_X12_goes [.ref 11, .int a1] σ (liV Q3) ∧ ∀ (σ5 : St), Q3 σ5 → Fr md_X12_goes σ σ5 → K_X12_waste_25 d n σ Q σ5 a2 0) ∧ ((fn_X12_isIn a2 0 3) = 0 → Q (-1) σ))))) : Cn d n M_X12_waste md_X12_waste [.ref 11, .int a1, .int a2] σ (liI Q) := by
  refine Cn.of (k0 := 3) (by decide) rfl ?_
  show Ev (d, n, md_X12_waste, σ, liI Q) M_X12_waste 0 [some (.ref 11), some (.int a1), some (.int a2), none, none, none] [] σ
  refine e_iload_n dX12_waste_0 rfl rfl ?_
  refine e_callS (M' := M_X12_isWay) (as := [.int a1]) (rest := []) dX12_waste_1 ml_X12_418 mk_X12_isWay rfl (Nat.le_of_ble_eq_true rfl) (show 0 < d by omega) (sp_X12_isWay (show 1 ≤ d - 1 by omega)) Md_nil (fun v σv hq hf => ?_)
  obtain ⟨v, rfl, rfl, rfl⟩ := hq
  refine e_if_eq (tgt := 16) dX12_waste_4 (by decide) (fun c1 => ?_) (fun c1 => ?_)
  · replace h := h.1 c1
    refine e_iconst dX12_waste_16 ci_m1 ?_
    exact e_iret dX12_waste_17 rfl ⟨_, rfl, h⟩
  · replace h := h.2 c1
    refine e_iload_n dX12_waste_7 rfl rfl ?_
    refine e_iconst dX12_waste_8 ci_0 ?_
    refine e_iconst dX12_waste_9 ci_3 ?_
    refine e_callS (M' := M_X12_isIn) (as := [.int a2, .int 0, .int 3]) (rest := []) dX12_waste_10 ml_X12_134 mk_X12_isIn rfl (Nat.le_of_ble_eq_true rfl) (show 0 < d by omega) (sp_X12_isIn) Md_nil (fun v σv hq hf => ?_)
    obtain ⟨v, rfl, rfl, rfl⟩ := hq
    refine e_if_ne (tgt := 18) dX12_waste_13 (by decide) (fun c2 => ?_) (fun c2 => ?_)
    · replace h := h.1 c2
      refine e_aload_n dX12_waste_18 rfl rfl ?_
      refine e_iload_n dX12_waste_19 rfl rfl ?_
      obtain ⟨Q3, hc4, h⟩ := h
      refine e_callV (M' := M_X12_goes) (as := [.int a1]) (rest := []) dX12_waste_20 ml_X12_424 mk_X12_goes (ob_11 hn) rfl rfl rfl (Nat.le_of_ble_eq_true rfl) (show 0 < d by omega) hc4 (Md_le (b := md_X12_waste) (by decide)) (fun v σ5 hq hf => ?_)
      obtain ⟨rfl, hq⟩ := hq
      replace h := h σ5 hq hf
      refine e_iconst dX12_waste_23 ci_0 ?_
      refine e_istore_n dX12_waste_24 rfl rfl (by decide) ?_
      refine e_kill [true, false, true, true, false, false] ?_
      exact h
    · replace h := h.2 c2
      refine e_iconst dX12_waste_16 ci_m1 ?_
      exact e_iret dX12_waste_17 rfl ⟨_, rfl, h⟩
abbrev K_X12_heapOf_8 (d n : Nat) (σ0 : St) (Q : Int32 → St → Prop) (σ : St) (x2 : Int32) (x3 : Int32) (x4 : Int32) (x5 : Int32) : Prop := Ev (d, n, md_X12_heapOf, σ0, liI Q) M_X12_heapOf 8 [some (.ref 11), none, some (.int x2), some (.int x3), some (.int x4), some (.int x5)] [] σ
theorem B_X12_heapOf_8 {d n : Nat} {σ0 : St} {Q : Int32 → St → Prop}  {σ : St} {x2 : Int32} {x3 : Int32} {x4 : Int32} {x5 : Int32} (hn : FIX ≤ n) (h : (((gI σ 11 0) ≤ x5 → Q x4 σ) ∧ (¬ (gI σ 11 0) ≤ x5 → (¬ (gI σ 11 1) = 0) ∧ (((x3 - x3 / (gI σ 11 1) * (gI σ 11 1)) ≠ x2 → (¬ (gI σ 11 1) = 0) ∧ K_X12_heapOf_8 d n σ0 Q σ x2 (x3 / (gI σ 11 1)) x4 (x5 + 1)) ∧ ((x3 - x3 / (gI σ 11 1) * (gI σ 11 1)) = x2 → (¬ (gI σ 11 1) = 0) ∧ K_X12_heapOf_8 d n σ0 Q σ x2 (x3 / (gI σ 11 1)) (x4 ||| ((1 : Int32) <<< (x5 &&& 31))) (x5 + 1)))))) : K_X12_heapOf_8 d n σ0 Q σ x2 x3 x4 x5 := by
  refine e_iload dX12_heapOf_8 rfl ?_
  refine e_aload_n dX12_heapOf_10 rfl rfl ?_
  refine e_getI dX12_heapOf_11 fl_X12_131 (ob_11 hn) rfl ?_
  refine e_icmp_ge (tgt := 49) dX12_heapOf_14 (by decide) (fun c1 => ?_) (fun c1 => ?_)
  · replace h := h.1 c1
    refine e_iload dX12_heapOf_49 rfl ?_
    exact e_iret dX12_heapOf_51 rfl ⟨_, rfl, h⟩
  · replace h := h.2 c1
    refine e_iload_n dX12_heapOf_17 rfl rfl ?_
    refine e_aload_n dX12_heapOf_18 rfl rfl ?_
    refine e_getI dX12_heapOf_19 fl_X12_138 (ob_11 hn) rfl ?_
    refine e_irem dX12_heapOf_22 h.1 ?_
    replace h := h.2
    refine e_iload_n dX12_heapOf_23 rfl rfl ?_
    refine e_icmp_ne (tgt := 36) dX12_heapOf_24 (by decide) (fun c2 => ?_) (fun c2 => ?_)
    · replace h := h.1 c2
      refine e_iload_n dX12_heapOf_36 rfl rfl ?_
      refine e_aload_n dX12_heapOf_37 rfl rfl ?_
      refine e_getI dX12_heapOf_38 fl_X12_138 (ob_11 hn) rfl ?_
      refine e_idiv dX12_heapOf_41 h.1 ?_
      replace h := h.2
      refine e_istore_n dX12_heapOf_42 rfl rfl (by decide) ?_
      refine e_iinc dX12_heapOf_43 rfl (ii_1 _) rfl (by decide) ?_
      refine e_goto (tgt := 8) dX12_heapOf_46 (by decide) ?_
      exact h
    · replace h := h.2 c2
      refine e_iload dX12_heapOf_27 rfl ?_
      refine e_iconst dX12_heapOf_29 ci_1 ?_
      refine e_iload dX12_heapOf_30 rfl ?_
      refine e_ishl dX12_heapOf_32 ?_
      refine e_ior dX12_heapOf_33 ?_
      refine e_istore dX12_heapOf_34 rfl (by decide) ?_
      refine e_iload_n dX12_heapOf_36 rfl rfl ?_
      refine e_aload_n dX12_heapOf_37 rfl rfl ?_
      refine e_getI dX12_heapOf_38 fl_X12_138 (ob_11 hn) rfl ?_
      refine e_idiv dX12_heapOf_41 h.1 ?_
      replace h := h.2
      refine e_istore_n dX12_heapOf_42 rfl rfl (by decide) ?_
      refine e_iinc dX12_heapOf_43 rfl (ii_1 _) rfl (by decide) ?_
      refine e_goto (tgt := 8) dX12_heapOf_46 (by decide) ?_
      exact h
theorem S_X12_heapOf {d n : Nat} {Q : Int32 → St → Prop} {σ : St} {a1 : Int32} {a2 : Int32} (hn : FIX ≤ n) (h : K_X12_heapOf_8 d n σ Q σ a2 a1 0 0) : Cn d n M_X12_heapOf md_X12_heapOf [.ref 11, .int a1, .int a2] σ (liI Q) := by
  refine Cn.of (k0 := 3) (by decide) rfl ?_
  show Ev (d, n, md_X12_heapOf, σ, liI Q) M_X12_heapOf 0 [some (.ref 11), some (.int a1), some (.int a2), none, none, none] [] σ
  refine e_iload_n dX12_heapOf_0 rfl rfl ?_
  refine e_istore_n dX12_heapOf_1 rfl rfl (by decide) ?_
  refine e_iconst dX12_heapOf_2 ci_0 ?_
  refine e_istore dX12_heapOf_3 rfl (by decide) ?_
  refine e_iconst dX12_heapOf_5 ci_0 ?_
  refine e_istore dX12_heapOf_6 rfl (by decide) ?_
  refine e_kill [true, false, true, true, true, true] ?_
  exact h
abbrev K_X12_share_37 (d n : Nat) (σ0 : St) (Q : Int32 → St → Prop) (σ : St) (x1 : Int32) (x2 : Int32) (x3 : Int32) : Prop := Ev (d, n, md_X12_share, σ0, liI Q) M_X12_share 37 [some (.ref 11), some (.int x1), some (.int x2), some (.int x3), none, none, none] [] σ
abbrev K_X12_share_60 (d n : Nat) (σ0 : St) (Q : Int32 → St → Prop) (σ : St) (x1 : Int32) (x2 : Int32) (x3 : Int32) : Prop := Ev (d, n, md_X12_share, σ0, liI Q) M_X12_share 60 [some (.ref 11), some (.int x1), some (.int x2), some (.int x3), none, none, none] [] σ
abbrev K_X12_share_172 (d n : Nat) (σ0 : St) (Q : Int32 → St → Prop) (σ : St) (x2 : Int32) (x3 : Int32) (x4 : Int32) : Prop := Ev (d, n, md_X12_share, σ0, liI Q) M_X12_share 172 [some (.ref 11), none, some (.int x2), some (.int x3), some (.int x4), none, none] [] σ
abbrev K_X12_share_85 (d n : Nat) (σ0 : St) (Q : Int32 → St → Prop) (σ : St) (x1 : Int32) (x2 : Int32) (x3 : Int32) (x4 : Int32) (x5 : Int32) : Prop := Ev (d, n, md_X12_share, σ0, liI Q) M_X12_share 85 [some (.ref 11), some (.int x1), some (.int x2), some (.int x3), some (.int x4), some (.int x5), none] [] σ
abbrev K_X12_share_186 (d n : Nat) (σ0 : St) (Q : Int32 → St → Prop) (σ : St) (x2 : Int32) (x3 : Int32) (x4 : Int32) (x5 : Int32) (x6 : Int32) : Prop := Ev (d, n, md_X12_share, σ0, liI Q) M_X12_share 186 [some (.ref 11), none, some (.int x2), some (.int x3), some (.int x4), some (.int x5), some (.int x6)] [] σ
theorem B_X12_share_37 {d n : Nat} {σ0 : St} {Q : Int32 → St → Prop}  {σ : St} {x1 : Int32} {x2 : Int32} {x3 : Int32} (hn : FIX ≤ n) (hd : 2 ≤ d) (h : (((gI σ 11 0) ≤ x3 → K_X12_share_60 d n σ0 Q σ x1 x2 0) ∧ (¬ (gI σ 11 0) ≤ x3 → K_X12_share_37 d n σ0 Q σ x1 (x2 * (gI σ 11 1)) (x3 + 1)))) : K_X12_share_37 d n σ0 Q σ x1 x2 x3 := by
  refine e_iload_n dX12_share_37 rfl rfl ?_
  refine e_aload_n dX12_share_38 rfl rfl ?_
  refine e_getI dX12_share_39 fl_X12_131 (ob_11 hn) rfl ?_
  refine e_icmp_ge (tgt := 58) dX12_share_42 (by decide) (fun c1 => ?_) (fun c1 => ?_)
  · replace h := h.1 c1
    refine e_iconst dX12_share_58 ci_0 ?_
    refine e_istore_n dX12_share_59 rfl rfl (by decide) ?_
    exact h
  · replace h := h.2 c1
    refine e_iload_n dX12_share_45 rfl rfl ?_
    refine e_aload_n dX12_share_46 rfl rfl ?_
    refine e_getI dX12_share_47 fl_X12_138 (ob_11 hn) rfl ?_
    refine e_imul dX12_share_50 ?_
    refine e_istore_n dX12_share_51 rfl rfl (by decide) ?_
    refine e_iinc dX12_share_52 rfl (ii_1 _) rfl (by decide) ?_
    refine e_goto (tgt := 37) dX12_share_55 (by decide) ?_
    exact h
theorem B_X12_share_60 {d n : Nat} {σ0 : St} {Q : Int32 → St → Prop}  {σ : St} {x1 : Int32} {x2 : Int32} {x3 : Int32} (hn : FIX ≤ n) (hd : 2 ≤ d) (h : ((((1 : Int32) <<< ((gI σ 11 0) &&& 31)) ≤ x3 → K_X12_share_172 d n σ0 Q σ x2 (-2000000) 0) ∧ (¬ ((1 : Int32) <<< ((gI σ 11 0) &&& 31)) ≤ x3 → vp_in x3 64 ∧ K_X12_share_85 d n σ0 Q (sI σ 73 x3.toNatClampNeg (-1000000)) x1 x2 x3 0 0))) : K_X12_share_60 d n σ0 Q σ x1 x2 x3 := by
  refine e_iload_n dX12_share_60 rfl rfl ?_
  refine e_iconst dX12_share_61 ci_1 ?_
  refine e_aload_n dX12_share_62 rfl rfl ?_
  refine e_getI dX12_share_63 fl_X12_131 (ob_11 hn) rfl ?_
  refine e_ishl dX12_share_66 ?_
  refine e_icmp_ge (tgt := 165) dX12_share_67 (by decide) (fun c1 => ?_) (fun c1 => ?_)
  · replace h := h.1 c1
    refine e_ldcw dX12_share_165 ck_X12_331 ?_
    refine e_istore_n dX12_share_168 rfl rfl (by decide) ?_
    refine e_iconst dX12_share_169 ci_0 ?_
    refine e_istore dX12_share_170 rfl (by decide) ?_
    refine e_kill [true, false, true, true, true, false, false] ?_
    exact h
  · replace h := h.2 c1
    refine e_aload_n dX12_share_70 rfl rfl ?_
    refine e_getR (y := 73) dX12_share_71 fl_X12_125 (ob_11 hn) rfl rfl ?_
    refine e_iload_n dX12_share_74 rfl rfl ?_
    refine e_ldcw dX12_share_75 ck_X12_441 ?_
    refine e_iast dX12_share_78 (ar_73 hn) h.1 (md_r (m := md_X12_share) (by decide)) ?_
    replace h := h.2
    refine e_iconst dX12_share_79 ci_0 ?_
    refine e_istore dX12_share_80 rfl (by decide) ?_
    refine e_iconst dX12_share_82 ci_0 ?_
    refine e_istore dX12_share_83 rfl (by decide) ?_
    exact h
theorem B_X12_share_172 {d n : Nat} {σ0 : St} {Q : Int32 → St → Prop}  {σ : St} {x2 : Int32} {x3 : Int32} {x4 : Int32} (hn : FIX ≤ n) (hd : 2 ≤ d) (h : ((x2 ≤ x4 → Q x3 σ) ∧ (¬ x2 ≤ x4 → K_X12_share_186 d n σ0 Q σ x2 x3 x4 2000000 0))) : K_X12_share_172 d n σ0 Q σ x2 x3 x4 := by
  refine e_iload dX12_share_172 rfl ?_
  refine e_iload_n dX12_share_174 rfl rfl ?_
  refine e_icmp_ge (tgt := 234) dX12_share_175 (by decide) (fun c1 => ?_) (fun c1 => ?_)
  · replace h := h.1 c1
    refine e_iload_n dX12_share_234 rfl rfl ?_
    exact e_iret dX12_share_235 rfl ⟨_, rfl, h⟩
  · replace h := h.2 c1
    refine e_ldcw dX12_share_178 ck_X12_442 ?_
    refine e_istore dX12_share_181 rfl (by decide) ?_
    refine e_iconst dX12_share_183 ci_0 ?_
    refine e_istore dX12_share_184 rfl (by decide) ?_
    exact h
theorem B_X12_share_85 {d n : Nat} {σ0 : St} {Q : Int32 → St → Prop}  {σ : St} {x1 : Int32} {x2 : Int32} {x3 : Int32} {x4 : Int32} {x5 : Int32} (hn : FIX ≤ n) (hd : 2 ≤ d) (h : ((x3 < x5 → K_X12_share_60 d n σ0 Q σ x1 x2 (x3 + 1)) ∧ (¬ x3 < x5 → (((x5 &&& (x3 ^^^ (-1))) ≠ 0 → K_X12_share_85 d n σ0 Q σ x1 x2 x3 x4 (x5 + 1)) ∧ ((x5 &&& (x3 ^^^ (-1))) = 0 → pre_X12_isLawful σ x1 x5 ∧ (((fn_X12_isLawful σ x1 x5) ≠ 0 → ((x4 = 0 → pre_X12_worthOf σ x1 x5 ∧ vp_in x3 64 ∧ K_X12_share_85 d n σ0 Q (sI σ 73 x3.toNatClampNeg (fn_X12_worthOf σ x1 x5)) x1 x2 x3 1 (x5 + 1)) ∧ (¬ x4 = 0 → vp_in x3 64 ∧ pre_X12_worthOf σ x1 x5 ∧ vp_in x3 64 ∧ K_X12_share_85 d n σ0 Q (sI σ 73 x3.toNatClampNeg (mxI (gI σ 73 x3.toNatClampNeg) (fn_X12_worthOf σ x1 x5))) x1 x2 x3 1 (x5 + 1)))) ∧ ((fn_X12_isLawful σ x1 x5) = 0 → K_X12_share_85 d n σ0 Q σ x1 x2 x3 x4 (x5 + 1)))))))) : K_X12_share_85 d n σ0 Q σ x1 x2 x3 x4 x5 := by
  refine e_iload dX12_share_85 rfl ?_
  refine e_iload_n dX12_share_87 rfl rfl ?_
  refine e_icmp_gt (tgt := 159) dX12_share_88 (by decide) (fun c1 => ?_) (fun c1 => ?_)
  · replace h := h.1 c1
    refine e_iinc dX12_share_159 rfl (ii_1 _) rfl (by decide) ?_
    refine e_goto (tgt := 60) dX12_share_162 (by decide) ?_
    refine e_kill [true, true, true, true, false, false, false] ?_
    exact h
  · replace h := h.2 c1
    refine e_iload dX12_share_91 rfl ?_
    refine e_iload_n dX12_share_93 rfl rfl ?_
    refine e_iconst dX12_share_94 ci_m1 ?_
    refine e_ixor dX12_share_95 ?_
    refine e_iand dX12_share_96 ?_
    refine e_if_ne (tgt := 153) dX12_share_97 (by decide) (fun c2 => ?_) (fun c2 => ?_)
    · replace h := h.1 c2
      refine e_iinc dX12_share_153 rfl (ii_1 _) rfl (by decide) ?_
      refine e_goto (tgt := 85) dX12_share_156 (by decide) ?_
      exact h
    · replace h := h.2 c2
      refine e_aload_n dX12_share_100 rfl rfl ?_
      refine e_iload_n dX12_share_101 rfl rfl ?_
      refine e_iload dX12_share_102 rfl ?_
      refine e_callV (M' := M_X12_isLawful) (as := [.int x1, .int x5]) (rest := []) dX12_share_104 ml_X12_348 mk_X12_isLawful (ob_11 hn) rfl rfl rfl (Nat.le_of_ble_eq_true rfl) (show 0 < d by omega) (sp_X12_isLawful hn h.1) Md_nil (fun v σv hq hf => ?_)
      obtain ⟨v, rfl, rfl, rfl⟩ := hq
      replace h := h.2
      refine e_if_ne (tgt := 113) dX12_share_107 (by decide) (fun c3 => ?_) (fun c3 => ?_)
      · replace h := h.1 c3
        refine e_aload_n dX12_share_113 rfl rfl ?_
        refine e_getR (y := 73) dX12_share_114 fl_X12_125 (ob_11 hn) rfl rfl ?_
        refine e_iload_n dX12_share_117 rfl rfl ?_
        refine e_iload dX12_share_118 rfl ?_
        refine e_if_eq (tgt := 142) dX12_share_120 (by decide) (fun c4 => ?_) (fun c4 => ?_)
        · replace h := h.1 c4
          refine e_aload_n dX12_share_142 rfl rfl ?_
          refine e_iload_n dX12_share_143 rfl rfl ?_
          refine e_iload dX12_share_144 rfl ?_
          refine e_callV (M' := M_X12_worthOf) (as := [.int x1, .int x5]) (rest := [.int x3, .ref 73]) dX12_share_146 ml_X12_354 mk_X12_worthOf (ob_11 hn) rfl rfl rfl (Nat.le_of_ble_eq_true rfl) (show 0 < d by omega) (sp_X12_worthOf hn h.1) Md_nil (fun v σv hq hf => ?_)
          obtain ⟨v, rfl, rfl, rfl⟩ := hq
          replace h := h.2
          refine e_iast dX12_share_149 (ar_73 hn) h.1 (md_r (m := md_X12_share) (by decide)) ?_
          replace h := h.2
          refine e_iconst dX12_share_150 ci_1 ?_
          refine e_istore dX12_share_151 rfl (by decide) ?_
          refine e_iinc dX12_share_153 rfl (ii_1 _) rfl (by decide) ?_
          refine e_goto (tgt := 85) dX12_share_156 (by decide) ?_
          exact h
        · replace h := h.2 c4
          refine e_aload_n dX12_share_123 rfl rfl ?_
          refine e_getR (y := 73) dX12_share_124 fl_X12_125 (ob_11 hn) rfl rfl ?_
          refine e_iload_n dX12_share_127 rfl rfl ?_
          refine e_iald dX12_share_128 (ar_73 hn) h.1 ?_
          replace h := h.2
          refine e_aload_n dX12_share_129 rfl rfl ?_
          refine e_iload_n dX12_share_130 rfl rfl ?_
          refine e_iload dX12_share_131 rfl ?_
          refine e_callV (M' := M_X12_worthOf) (as := [.int x1, .int x5]) (rest := [.int (gI σ 73 x3.toNatClampNeg), .int x3, .ref 73]) dX12_share_133 ml_X12_354 mk_X12_worthOf (ob_11 hn) rfl rfl rfl (Nat.le_of_ble_eq_true rfl) (show 0 < d by omega) (sp_X12_worthOf hn h.1) Md_nil (fun v σv hq hf => ?_)
          obtain ⟨v, rfl, rfl, rfl⟩ := hq
          replace h := h.2
          refine e_mmax (st := [.int x3, .ref 73]) dX12_share_136 ml_X12_304 (Nat.le_of_ble_eq_true rfl) (show 0 < d by omega) ?_
          refine e_goto (tgt := 149) dX12_share_139 (by decide) ?_
          refine e_iast dX12_share_149 (ar_73 hn) h.1 (md_r (m := md_X12_share) (by decide)) ?_
          replace h := h.2
          refine e_iconst dX12_share_150 ci_1 ?_
          refine e_istore dX12_share_151 rfl (by decide) ?_
          refine e_iinc dX12_share_153 rfl (ii_1 _) rfl (by decide) ?_
          refine e_goto (tgt := 85) dX12_share_156 (by decide) ?_
          exact h
      · replace h := h.2 c3
        refine e_goto (tgt := 153) dX12_share_110 (by decide) ?_
        refine e_iinc dX12_share_153 rfl (ii_1 _) rfl (by decide) ?_
        refine e_goto (tgt := 85) dX12_share_156 (by decide) ?_
        exact h
theorem B_X12_share_186 {d n : Nat} {σ0 : St} {Q : Int32 → St → Prop}  {σ : St} {x2 : Int32} {x3 : Int32} {x4 : Int32} {x5 : Int32} {x6 : Int32} (hn : FIX ≤ n) (hd : 2 ≤ d) (h : (((gI σ 11 1) ≤ x6 → K_X12_share_172 d n σ0 Q σ x2 (mxI x3 x5) (x4 + 1)) ∧ (¬ (gI σ 11 1) ≤ x6 → ∃ Q2 : Int32 → St → Prop, Cn (d - 1) n M_X12_heapOf md_X12_heapOf [.ref 11, .int x4, .int x6] σ (liI Q2) ∧ ∀ (v5 : Int32) (σ4 : St), Q2 v5 σ4 → Fr md_X12_heapOf σ σ4 → vp_in v5 64 ∧ K_X12_share_186 d n σ0 Q σ4 x2 x3 x4 (mnI x5 (gI σ4 73 v5.toNatClampNeg)) (x6 + 1)))) : K_X12_share_186 d n σ0 Q σ x2 x3 x4 x5 x6 := by
  refine e_iload dX12_share_186 rfl ?_
  refine e_aload_n dX12_share_188 rfl rfl ?_
  refine e_getI dX12_share_189 fl_X12_138 (ob_11 hn) rfl ?_
  refine e_icmp_ge (tgt := 221) dX12_share_192 (by decide) (fun c1 => ?_) (fun c1 => ?_)
  · replace h := h.1 c1
    refine e_iload_n dX12_share_221 rfl rfl ?_
    refine e_iload dX12_share_222 rfl ?_
    refine e_mmax (st := []) dX12_share_224 ml_X12_304 (Nat.le_of_ble_eq_true rfl) (show 0 < d by omega) ?_
    refine e_istore_n dX12_share_227 rfl rfl (by decide) ?_
    refine e_iinc dX12_share_228 rfl (ii_1 _) rfl (by decide) ?_
    refine e_goto (tgt := 172) dX12_share_231 (by decide) ?_
    refine e_kill [true, false, true, true, true, false, false] ?_
    exact h
  · replace h := h.2 c1
    refine e_iload dX12_share_195 rfl ?_
    refine e_aload_n dX12_share_197 rfl rfl ?_
    refine e_getR (y := 73) dX12_share_198 fl_X12_125 (ob_11 hn) rfl rfl ?_
    refine e_aload_n dX12_share_201 rfl rfl ?_
    refine e_iload dX12_share_202 rfl ?_
    refine e_iload dX12_share_204 rfl ?_
    obtain ⟨Q2, hc3, h⟩ := h
    refine e_callV (M' := M_X12_heapOf) (as := [.int x4, .int x6]) (rest := [.ref 73, .int x5]) dX12_share_206 ml_X12_443 mk_X12_heapOf (ob_11 hn) rfl rfl rfl (Nat.le_of_ble_eq_true rfl) (show 0 < d by omega) hc3 (Md_le (b := md_X12_share) (by decide)) (fun v σ4 hq hf => ?_)
    obtain ⟨v5, rfl, hq⟩ := hq
    replace h := h v5 σ4 hq hf
    refine e_iald dX12_share_209 (ar_73 hn) h.1 ?_
    replace h := h.2
    refine e_mmin (st := []) dX12_share_210 ml_X12_301 (Nat.le_of_ble_eq_true rfl) (show 0 < d by omega) ?_
    refine e_istore dX12_share_213 rfl (by decide) ?_
    refine e_iinc dX12_share_215 rfl (ii_1 _) rfl (by decide) ?_
    refine e_goto (tgt := 186) dX12_share_218 (by decide) ?_
    exact h
theorem S_X12_share {d n : Nat} {Q : Int32 → St → Prop} {σ : St} {a1 : Int32} (hn : FIX ≤ n) (hd : 2 ≤ d) (h : (((fn_X12_isPerson σ a1) = 0 → Q (-2000000) σ) ∧ (¬ (fn_X12_isPerson σ a1) = 0 → (((3 : Int32) < (gI σ 11 1) → Q (-2000000) σ) ∧ (¬ (3 : Int32) < (gI σ 11 1) → (((gI σ 11 0) ≤ 6 → ∃ Q4 : St → Prop, Cn (d - 1) n M_X12_tables md_X12_tables [.ref 11] σ (liV Q4) ∧ ∀ (σ6 : St), Q4 σ6 → Fr md_X12_tables σ σ6 → K_X12_share_37 d n σ Q σ6 a1 1 0) ∧ (¬ (gI σ 11 0) ≤ 6 → Q (-2000000) σ))))))) : Cn d n M_X12_share md_X12_share [.ref 11, .int a1] σ (liI Q) := by
  refine Cn.of (k0 := 5) (by decide) rfl ?_
  show Ev (d, n, md_X12_share, σ, liI Q) M_X12_share 0 [some (.ref 11), some (.int a1), none, none, none, none, none] [] σ
  refine e_aload_n dX12_share_0 rfl rfl ?_
  refine e_iload_n dX12_share_1 rfl rfl ?_
  refine e_callV (M' := M_X12_isPerson) (as := [.int a1]) (rest := []) dX12_share_2 ml_X12_151 mk_X12_isPerson (ob_11 hn) rfl rfl rfl (Nat.le_of_ble_eq_true rfl) (show 0 < d by omega) (sp_X12_isPerson hn (show 1 ≤ d - 1 by omega)) Md_nil (fun v σv hq hf => ?_)
  obtain ⟨v, rfl, rfl, rfl⟩ := hq
  refine e_if_eq (tgt := 25) dX12_share_5 (by decide) (fun c1 => ?_) (fun c1 => ?_)
  · replace h := h.1 c1
    refine e_ldcw dX12_share_25 ck_X12_331 ?_
    exact e_iret dX12_share_28 rfl ⟨_, rfl, h⟩
  · replace h := h.2 c1
    refine e_aload_n dX12_share_8 rfl rfl ?_
    refine e_getI dX12_share_9 fl_X12_138 (ob_11 hn) rfl ?_
    refine e_iconst dX12_share_12 ci_3 ?_
    refine e_icmp_gt (tgt := 25) dX12_share_13 (by decide) (fun c2 => ?_) (fun c2 => ?_)
    · replace h := h.1 c2
      refine e_ldcw dX12_share_25 ck_X12_331 ?_
      exact e_iret dX12_share_28 rfl ⟨_, rfl, h⟩
    · replace h := h.2 c2
      refine e_aload_n dX12_share_16 rfl rfl ?_
      refine e_getI dX12_share_17 fl_X12_131 (ob_11 hn) rfl ?_
      refine e_bipush dX12_share_20 cb_6 ?_
      refine e_icmp_le (tgt := 29) dX12_share_22 (by decide) (fun c3 => ?_) (fun c3 => ?_)
      · replace h := h.1 c3
        refine e_aload_n dX12_share_29 rfl rfl ?_
        obtain ⟨Q4, hc5, h⟩ := h
        refine e_callV (M' := M_X12_tables) (as := []) (rest := []) dX12_share_30 ml_X12_357 mk_X12_tables (ob_11 hn) rfl rfl rfl (Nat.le_of_ble_eq_true rfl) (show 0 < d by omega) hc5 (Md_le (b := md_X12_share) (by decide)) (fun v σ6 hq hf => ?_)
        obtain ⟨rfl, hq⟩ := hq
        replace h := h σ6 hq hf
        refine e_iconst dX12_share_33 ci_1 ?_
        refine e_istore_n dX12_share_34 rfl rfl (by decide) ?_
        refine e_iconst dX12_share_35 ci_0 ?_
        refine e_istore_n dX12_share_36 rfl rfl (by decide) ?_
        exact h
      · replace h := h.2 c3
        refine e_ldcw dX12_share_25 ck_X12_331 ?_
        exact e_iret dX12_share_28 rfl ⟨_, rfl, h⟩
theorem S_X12_gain {d n : Nat} {Q : Int32 → St → Prop} {σ : St} {a1 : Int32} {a2 : Int32} (hn : FIX ≤ n) (hd : 2 ≤ d) (h : (((fn_X12_isIn a1 1 4) = 0 → Q (-3000000) σ) ∧ (¬ (fn_X12_isIn a1 1 4) = 0 → (((fn_X12_isPerson σ a2) = 0 → Q (-3000000) σ) ∧ (¬ (fn_X12_isPerson σ a2) = 0 → (((gI σ 11 21) ≠ 0 → ∃ Q4 : Int32 → St → Prop, Cn (d - 1) n M_X12_hasIn md_X12_hasIn [.ref 11, .int a1, .int a2] σ (liI Q4) ∧ ∀ (v7 : Int32) (σ6 : St), Q4 v7 σ6 → Fr md_X12_hasIn σ σ6 → ∃ Q10 : St → Prop, Cn (d - 1) n M_X12_fills md_X12_fills [.ref 11, .int 8, .int 8, .int a2] σ6 (liV Q10) ∧ ∀ (σ12 : St), Q10 σ12 → Fr md_X12_fills σ6 σ12 → ∃ Q16 : Int32 → St → Prop, Cn (d - 1) n M_X12_hasIn md_X12_hasIn [.ref 11, .int a1, .int a2] (sI σ12 11 38 a2) (liI Q16) ∧ ∀ (v19 : Int32) (σ18 : St), Q16 v19 σ18 → Fr md_X12_hasIn (sI σ12 11 38 a2) σ18 → pre_X12_worthOf (sI σ18 11 38 (-1)) a2 v19 ∧ pre_X12_worthOf (sI σ18 11 38 (-1)) a2 v7 ∧ Q ((fn_X12_worthOf (sI σ18 11 38 (-1)) a2 v19) - (fn_X12_worthOf (sI σ18 11 38 (-1)) a2 v7)) (sI σ18 11 38 (-1))) ∧ ((gI σ 11 21) = 0 → Q (-3000000) σ))))))) : Cn d n M_X12_gain md_X12_gain [.ref 11, .int a1, .int a2] σ (liI Q) := by
  refine Cn.of (k0 := 2) (by decide) rfl ?_
  show Ev (d, n, md_X12_gain, σ, liI Q) M_X12_gain 0 [some (.ref 11), some (.int a1), some (.int a2), none, none] [] σ
  refine e_iload_n dX12_gain_0 rfl rfl ?_
  refine e_iconst dX12_gain_1 ci_1 ?_
  refine e_iconst dX12_gain_2 ci_4 ?_
  refine e_callS (M' := M_X12_isIn) (as := [.int a1, .int 1, .int 4]) (rest := []) dX12_gain_3 ml_X12_134 mk_X12_isIn rfl (Nat.le_of_ble_eq_true rfl) (show 0 < d by omega) (sp_X12_isIn) Md_nil (fun v σv hq hf => ?_)
  obtain ⟨v, rfl, rfl, rfl⟩ := hq
  refine e_if_eq (tgt := 24) dX12_gain_6 (by decide) (fun c1 => ?_) (fun c1 => ?_)
  · replace h := h.1 c1
    refine e_ldcw dX12_gain_24 ck_X12_446 ?_
    exact e_iret dX12_gain_27 rfl ⟨_, rfl, h⟩
  · replace h := h.2 c1
    refine e_aload_n dX12_gain_9 rfl rfl ?_
    refine e_iload_n dX12_gain_10 rfl rfl ?_
    refine e_callV (M' := M_X12_isPerson) (as := [.int a2]) (rest := []) dX12_gain_11 ml_X12_151 mk_X12_isPerson (ob_11 hn) rfl rfl rfl (Nat.le_of_ble_eq_true rfl) (show 0 < d by omega) (sp_X12_isPerson hn (show 1 ≤ d - 1 by omega)) Md_nil (fun v σv hq hf => ?_)
    obtain ⟨v, rfl, rfl, rfl⟩ := hq
    refine e_if_eq (tgt := 24) dX12_gain_14 (by decide) (fun c2 => ?_) (fun c2 => ?_)
    · replace h := h.1 c2
      refine e_ldcw dX12_gain_24 ck_X12_446 ?_
      exact e_iret dX12_gain_27 rfl ⟨_, rfl, h⟩
    · replace h := h.2 c2
      refine e_aload_n dX12_gain_17 rfl rfl ?_
      refine e_getI dX12_gain_18 fl_X12_262 (ob_11 hn) rfl ?_
      refine e_if_ne (tgt := 28) dX12_gain_21 (by decide) (fun c3 => ?_) (fun c3 => ?_)
      · replace h := h.1 c3
        refine e_aload_n dX12_gain_28 rfl rfl ?_
        refine e_iload_n dX12_gain_29 rfl rfl ?_
        refine e_iload_n dX12_gain_30 rfl rfl ?_
        obtain ⟨Q4, hc5, h⟩ := h
        refine e_callV (M' := M_X12_hasIn) (as := [.int a1, .int a2]) (rest := []) dX12_gain_31 ml_X12_421 mk_X12_hasIn (ob_11 hn) rfl rfl rfl (Nat.le_of_ble_eq_true rfl) (show 0 < d by omega) hc5 (Md_le (b := md_X12_gain) (by decide)) (fun v σ6 hq hf => ?_)
        obtain ⟨v7, rfl, hq⟩ := hq
        replace h := h v7 σ6 hq hf
        refine e_istore_n dX12_gain_34 rfl rfl (by decide) ?_
        refine e_aload_n dX12_gain_35 rfl rfl ?_
        refine e_bipush dX12_gain_36 cb_8 ?_
        refine e_bipush dX12_gain_38 cb_8 ?_
        refine e_iload_n dX12_gain_40 rfl rfl ?_
        obtain ⟨Q10, hc11, h⟩ := h
        refine e_callV (M' := M_X12_fills) (as := [.int 8, .int 8, .int a2]) (rest := []) dX12_gain_41 ml_X12_335 mk_X12_fills (ob_11 hn) rfl rfl rfl (Nat.le_of_ble_eq_true rfl) (show 0 < d by omega) hc11 (Md_le (b := md_X12_gain) (by decide)) (fun v σ12 hq hf => ?_)
        obtain ⟨rfl, hq⟩ := hq
        replace h := h σ12 hq hf
        refine e_aload_n dX12_gain_44 rfl rfl ?_
        refine e_iload_n dX12_gain_45 rfl rfl ?_
        refine e_putI dX12_gain_46 fl_X12_92 (ob_11 hn) rfl (fpI_12_38 _) (md_c (m := md_X12_gain) (by decide)) ?_
        refine e_aload_n dX12_gain_49 rfl rfl ?_
        refine e_iload_n dX12_gain_50 rfl rfl ?_
        refine e_iload_n dX12_gain_51 rfl rfl ?_
        obtain ⟨Q16, hc17, h⟩ := h
        refine e_callV (M' := M_X12_hasIn) (as := [.int a1, .int a2]) (rest := []) dX12_gain_52 ml_X12_421 mk_X12_hasIn (ob_11 hn) rfl rfl rfl (Nat.le_of_ble_eq_true rfl) (show 0 < d by omega) hc17 (Md_le (b := md_X12_gain) (by decide)) (fun v σ18 hq hf => ?_)
        obtain ⟨v19, rfl, hq⟩ := hq
        replace h := h v19 σ18 hq hf
        refine e_istore dX12_gain_55 rfl (by decide) ?_
        refine e_aload_n dX12_gain_57 rfl rfl ?_
        refine e_iconst dX12_gain_58 ci_m1 ?_
        refine e_putI dX12_gain_59 fl_X12_92 (ob_11 hn) rfl (fpI_12_38 _) (md_c (m := md_X12_gain) (by decide)) ?_
        refine e_aload_n dX12_gain_62 rfl rfl ?_
        refine e_iload_n dX12_gain_63 rfl rfl ?_
        refine e_iload dX12_gain_64 rfl ?_
        refine e_callV (M' := M_X12_worthOf) (as := [.int a2, .int v19]) (rest := []) dX12_gain_66 ml_X12_354 mk_X12_worthOf (ob_11 hn) rfl rfl rfl (Nat.le_of_ble_eq_true rfl) (show 0 < d by omega) (sp_X12_worthOf hn h.1) Md_nil (fun v σv hq hf => ?_)
        obtain ⟨v, rfl, rfl, rfl⟩ := hq
        replace h := h.2
        refine e_aload_n dX12_gain_69 rfl rfl ?_
        refine e_iload_n dX12_gain_70 rfl rfl ?_
        refine e_iload_n dX12_gain_71 rfl rfl ?_
        refine e_callV (M' := M_X12_worthOf) (as := [.int a2, .int v7]) (rest := [.int (fn_X12_worthOf (sI σ18 11 38 (-1)) a2 v19)]) dX12_gain_72 ml_X12_354 mk_X12_worthOf (ob_11 hn) rfl rfl rfl (Nat.le_of_ble_eq_true rfl) (show 0 < d by omega) (sp_X12_worthOf hn h.1) Md_nil (fun v σv hq hf => ?_)
        obtain ⟨v, rfl, rfl, rfl⟩ := hq
        replace h := h.2
        refine e_isub dX12_gain_75 ?_
        exact e_iret dX12_gain_76 rfl ⟨_, rfl, h⟩
      · replace h := h.2 c3
        refine e_ldcw dX12_gain_24 ck_X12_446 ?_
        exact e_iret dX12_gain_27 rfl ⟨_, rfl, h⟩
abbrev K_X12_rank_30 (d n : Nat) (σ0 : St) (Q : Int32 → St → Prop) (σ : St) (x2 : Int32) (x3 : Int32) (x4 : Int32) (x5 : Int32) : Prop := Ev (d, n, md_X12_rank, σ0, liI Q) M_X12_rank 30 [some (.ref 11), none, some (.int x2), some (.int x3), some (.int x4), some (.int x5)] [] σ
theorem B_X12_rank_30 {d n : Nat} {σ0 : St} {Q : Int32 → St → Prop}  {σ : St} {x2 : Int32} {x3 : Int32} {x4 : Int32} {x5 : Int32} (hn : FIX ≤ n) (hd : 2 ≤ d) (h : ((((1 : Int32) <<< ((gI σ 11 0) &&& 31)) ≤ x5 → Q x4 σ) ∧ (¬ ((1 : Int32) <<< ((gI σ 11 0) &&& 31)) ≤ x5 → pre_X12_isBetter σ x2 x5 x3 ∧ K_X12_rank_30 d n σ0 Q σ x2 x3 (x4 + (fn_X12_one (fn_X12_isBetter σ x2 x5 x3))) (x5 + 1)))) : K_X12_rank_30 d n σ0 Q σ x2 x3 x4 x5 := by
  refine e_iload dX12_rank_30 rfl ?_
  refine e_iconst dX12_rank_32 ci_1 ?_
  refine e_aload_n dX12_rank_33 rfl rfl ?_
  refine e_getI dX12_rank_34 fl_X12_131 (ob_11 hn) rfl ?_
  refine e_ishl dX12_rank_37 ?_
  refine e_icmp_ge (tgt := 63) dX12_rank_38 (by decide) (fun c1 => ?_) (fun c1 => ?_)
  · replace h := h.1 c1
    refine e_iload dX12_rank_63 rfl ?_
    exact e_iret dX12_rank_65 rfl ⟨_, rfl, h⟩
  · replace h := h.2 c1
    refine e_iload dX12_rank_41 rfl ?_
    refine e_aload_n dX12_rank_43 rfl rfl ?_
    refine e_iload_n dX12_rank_44 rfl rfl ?_
    refine e_iload dX12_rank_45 rfl ?_
    refine e_iload_n dX12_rank_47 rfl rfl ?_
    refine e_callV (M' := M_X12_isBetter) (as := [.int x2, .int x5, .int x3]) (rest := [.int x4]) dX12_rank_48 ml_X12_428 mk_X12_isBetter (ob_11 hn) rfl rfl rfl (Nat.le_of_ble_eq_true rfl) (show 0 < d by omega) (sp_X12_isBetter hn (show 1 ≤ d - 1 by omega) h.1) Md_nil (fun v σv hq hf => ?_)
    obtain ⟨v, rfl, rfl, rfl⟩ := hq
    replace h := h.2
    refine e_callS (M' := M_X12_one) (as := [.int (fn_X12_isBetter σ x2 x5 x3)]) (rest := [.int x4]) dX12_rank_51 ml_X12_293 mk_X12_one rfl (Nat.le_of_ble_eq_true rfl) (show 0 < d by omega) (sp_X12_one) Md_nil (fun v σv hq hf => ?_)
    obtain ⟨v, rfl, rfl, rfl⟩ := hq
    refine e_iadd dX12_rank_54 ?_
    refine e_istore dX12_rank_55 rfl (by decide) ?_
    refine e_iinc dX12_rank_57 rfl (ii_1 _) rfl (by decide) ?_
    refine e_goto (tgt := 30) dX12_rank_60 (by decide) ?_
    exact h
theorem S_X12_rank {d n : Nat} {Q : Int32 → St → Prop} {σ : St} {a1 : Int32} {a2 : Int32} (hn : FIX ≤ n) (hd : 2 ≤ d) (h : (((fn_X12_isWay a1) = 0 → Q (-1) σ) ∧ (¬ (fn_X12_isWay a1) = 0 → (((fn_X12_isPerson σ a2) ≠ 0 → ∃ Q3 : Int32 → St → Prop, Cn (d - 1) n M_X12_hasIn md_X12_hasIn [.ref 11, .int a1, .int a2] σ (liI Q3) ∧ ∀ (v6 : Int32) (σ5 : St), Q3 v6 σ5 → Fr md_X12_hasIn σ σ5 → K_X12_rank_30 d n σ Q σ5 a2 v6 0 0) ∧ ((fn_X12_isPerson σ a2) = 0 → Q (-1) σ))))) : Cn d n M_X12_rank md_X12_rank [.ref 11, .int a1, .int a2] σ (liI Q) := by
  refine Cn.of (k0 := 3) (by decide) rfl ?_
  show Ev (d, n, md_X12_rank, σ, liI Q) M_X12_rank 0 [some (.ref 11), some (.int a1), some (.int a2), none, none, none] [] σ
  refine e_iload_n dX12_rank_0 rfl rfl ?_
  refine e_callS (M' := M_X12_isWay) (as := [.int a1]) (rest := []) dX12_rank_1 ml_X12_418 mk_X12_isWay rfl (Nat.le_of_ble_eq_true rfl) (show 0 < d by omega) (sp_X12_isWay (show 1 ≤ d - 1 by omega)) Md_nil (fun v σv hq hf => ?_)
  obtain ⟨v, rfl, rfl, rfl⟩ := hq
  refine e_if_eq (tgt := 15) dX12_rank_4 (by decide) (fun c1 => ?_) (fun c1 => ?_)
  · replace h := h.1 c1
    refine e_iconst dX12_rank_15 ci_m1 ?_
    exact e_iret dX12_rank_16 rfl ⟨_, rfl, h⟩
  · replace h := h.2 c1
    refine e_aload_n dX12_rank_7 rfl rfl ?_
    refine e_iload_n dX12_rank_8 rfl rfl ?_
    refine e_callV (M' := M_X12_isPerson) (as := [.int a2]) (rest := []) dX12_rank_9 ml_X12_151 mk_X12_isPerson (ob_11 hn) rfl rfl rfl (Nat.le_of_ble_eq_true rfl) (show 0 < d by omega) (sp_X12_isPerson hn (show 1 ≤ d - 1 by omega)) Md_nil (fun v σv hq hf => ?_)
    obtain ⟨v, rfl, rfl, rfl⟩ := hq
    refine e_if_ne (tgt := 17) dX12_rank_12 (by decide) (fun c2 => ?_) (fun c2 => ?_)
    · replace h := h.1 c2
      refine e_aload_n dX12_rank_17 rfl rfl ?_
      refine e_iload_n dX12_rank_18 rfl rfl ?_
      refine e_iload_n dX12_rank_19 rfl rfl ?_
      obtain ⟨Q3, hc4, h⟩ := h
      refine e_callV (M' := M_X12_hasIn) (as := [.int a1, .int a2]) (rest := []) dX12_rank_20 ml_X12_421 mk_X12_hasIn (ob_11 hn) rfl rfl rfl (Nat.le_of_ble_eq_true rfl) (show 0 < d by omega) hc4 (Md_le (b := md_X12_rank) (by decide)) (fun v σ5 hq hf => ?_)
      obtain ⟨v6, rfl, hq⟩ := hq
      replace h := h v6 σ5 hq hf
      refine e_istore_n dX12_rank_23 rfl rfl (by decide) ?_
      refine e_iconst dX12_rank_24 ci_0 ?_
      refine e_istore dX12_rank_25 rfl (by decide) ?_
      refine e_iconst dX12_rank_27 ci_0 ?_
      refine e_istore dX12_rank_28 rfl (by decide) ?_
      refine e_kill [true, false, true, true, true, true] ?_
      exact h
    · replace h := h.2 c2
      refine e_iconst dX12_rank_15 ci_m1 ?_
      exact e_iret dX12_rank_16 rfl ⟨_, rfl, h⟩
abbrev K_X12_ties_25 (d n : Nat) (σ0 : St) (Q : Int32 → St → Prop) (σ : St) (x1 : Int32) (x2 : Int32) (x3 : Int32) (x4 : Int32) : Prop := Ev (d, n, md_X12_ties, σ0, liI Q) M_X12_ties 25 [some (.ref 11), some (.int x1), some (.int x2), some (.int x3), some (.int x4)] [] σ
theorem B_X12_ties_25 {d n : Nat} {σ0 : St} {Q : Int32 → St → Prop}  {σ : St} {x1 : Int32} {x2 : Int32} {x3 : Int32} {x4 : Int32} (hn : FIX ≤ n) (hd : 2 ≤ d) (h : ((((1 : Int32) <<< ((gI σ 11 0) &&& 31)) ≤ x4 → ((x2 ≠ (-1) → Q x3 σ) ∧ (x2 = (-1) → Q (-1) σ))) ∧ (¬ ((1 : Int32) <<< ((gI σ 11 0) &&& 31)) ≤ x4 → ((x4 = x2 → K_X12_ties_25 d n σ0 Q σ x1 x2 (x3 + (fn_X12_one 0)) (x4 + 1)) ∧ (¬ x4 = x2 → pre_X12_isLawful σ x1 x4 ∧ (((fn_X12_isLawful σ x1 x4) = 0 → K_X12_ties_25 d n σ0 Q σ x1 x2 (x3 + (fn_X12_one 0)) (x4 + 1)) ∧ (¬ (fn_X12_isLawful σ x1 x4) = 0 → ∃ Q5 : Int32 → St → Prop, Cn (d - 1) n M_X12_costOf md_X12_costOf [.ref 11, .int x4] σ (liI Q5) ∧ ∀ (v8 : Int32) (σ7 : St), Q5 v8 σ7 → Fr md_X12_costOf σ σ7 → vp_in x1 8 ∧ (((gI σ7 47 x1.toNatClampNeg) < v8 → K_X12_ties_25 d n σ0 Q σ7 x1 x2 (x3 + (fn_X12_one 0)) (x4 + 1)) ∧ (¬ (gI σ7 47 x1.toNatClampNeg) < v8 → pre_X12_worthOf σ7 x1 x4 ∧ (((fn_X12_worthOf σ7 x1 x4) ≠ (gI σ7 11 41) → K_X12_ties_25 d n σ0 Q σ7 x1 x2 (x3 + (fn_X12_one 0)) (x4 + 1)) ∧ ((fn_X12_worthOf σ7 x1 x4) = (gI σ7 11 41) → K_X12_ties_25 d n σ0 Q σ7 x1 x2 (x3 + (fn_X12_one 1)) (x4 + 1)))))))))))) : K_X12_ties_25 d n σ0 Q σ x1 x2 x3 x4 := by
  refine e_iload dX12_ties_25 rfl ?_
  refine e_iconst dX12_ties_27 ci_1 ?_
  refine e_aload_n dX12_ties_28 rfl rfl ?_
  refine e_getI dX12_ties_29 fl_X12_131 (ob_11 hn) rfl ?_
  refine e_ishl dX12_ties_32 ?_
  refine e_icmp_ge (tgt := 98) dX12_ties_33 (by decide) (fun c1 => ?_) (fun c1 => ?_)
  · replace h := h.1 c1
    refine e_iload_n dX12_ties_98 rfl rfl ?_
    refine e_iconst dX12_ties_99 ci_m1 ?_
    refine e_icmp_ne (tgt := 107) dX12_ties_100 (by decide) (fun c2 => ?_) (fun c2 => ?_)
    · replace h := h.1 c2
      refine e_iload_n dX12_ties_107 rfl rfl ?_
      exact e_iret dX12_ties_108 rfl ⟨_, rfl, h⟩
    · replace h := h.2 c2
      refine e_iconst dX12_ties_103 ci_m1 ?_
      refine e_goto (tgt := 108) dX12_ties_104 (by decide) ?_
      exact e_iret dX12_ties_108 rfl ⟨_, rfl, h⟩
  · replace h := h.2 c1
    refine e_iload_n dX12_ties_36 rfl rfl ?_
    refine e_iload dX12_ties_37 rfl ?_
    refine e_iload_n dX12_ties_39 rfl rfl ?_
    refine e_icmp_eq (tgt := 86) dX12_ties_40 (by decide) (fun c3 => ?_) (fun c3 => ?_)
    · replace h := h.1 c3
      refine e_iconst dX12_ties_86 ci_0 ?_
      refine e_callS (M' := M_X12_one) (as := [.int 0]) (rest := [.int x3]) dX12_ties_87 ml_X12_293 mk_X12_one rfl (Nat.le_of_ble_eq_true rfl) (show 0 < d by omega) (sp_X12_one) Md_nil (fun v σv hq hf => ?_)
      obtain ⟨v, rfl, rfl, rfl⟩ := hq
      refine e_iadd dX12_ties_90 ?_
      refine e_istore_n dX12_ties_91 rfl rfl (by decide) ?_
      refine e_iinc dX12_ties_92 rfl (ii_1 _) rfl (by decide) ?_
      refine e_goto (tgt := 25) dX12_ties_95 (by decide) ?_
      exact h
    · replace h := h.2 c3
      refine e_aload_n dX12_ties_43 rfl rfl ?_
      refine e_iload_n dX12_ties_44 rfl rfl ?_
      refine e_iload dX12_ties_45 rfl ?_
      refine e_callV (M' := M_X12_isLawful) (as := [.int x1, .int x4]) (rest := [.int x3]) dX12_ties_47 ml_X12_348 mk_X12_isLawful (ob_11 hn) rfl rfl rfl (Nat.le_of_ble_eq_true rfl) (show 0 < d by omega) (sp_X12_isLawful hn h.1) Md_nil (fun v σv hq hf => ?_)
      obtain ⟨v, rfl, rfl, rfl⟩ := hq
      replace h := h.2
      refine e_if_eq (tgt := 86) dX12_ties_50 (by decide) (fun c4 => ?_) (fun c4 => ?_)
      · replace h := h.1 c4
        refine e_iconst dX12_ties_86 ci_0 ?_
        refine e_callS (M' := M_X12_one) (as := [.int 0]) (rest := [.int x3]) dX12_ties_87 ml_X12_293 mk_X12_one rfl (Nat.le_of_ble_eq_true rfl) (show 0 < d by omega) (sp_X12_one) Md_nil (fun v σv hq hf => ?_)
        obtain ⟨v, rfl, rfl, rfl⟩ := hq
        refine e_iadd dX12_ties_90 ?_
        refine e_istore_n dX12_ties_91 rfl rfl (by decide) ?_
        refine e_iinc dX12_ties_92 rfl (ii_1 _) rfl (by decide) ?_
        refine e_goto (tgt := 25) dX12_ties_95 (by decide) ?_
        exact h
      · replace h := h.2 c4
        refine e_aload_n dX12_ties_53 rfl rfl ?_
        refine e_iload dX12_ties_54 rfl ?_
        obtain ⟨Q5, hc6, h⟩ := h
        refine e_callV (M' := M_X12_costOf) (as := [.int x4]) (rest := [.int x3]) dX12_ties_56 ml_X12_351 mk_X12_costOf (ob_11 hn) rfl rfl rfl (Nat.le_of_ble_eq_true rfl) (show 0 < d by omega) hc6 (Md_le (b := md_X12_ties) (by decide)) (fun v σ7 hq hf => ?_)
        obtain ⟨v8, rfl, hq⟩ := hq
        replace h := h v8 σ7 hq hf
        refine e_aload_n dX12_ties_59 rfl rfl ?_
        refine e_getR (y := 47) dX12_ties_60 fl_X12_35 (ob_11 hn) rfl rfl ?_
        refine e_iload_n dX12_ties_63 rfl rfl ?_
        refine e_iald dX12_ties_64 (ar_47 hn) h.1 ?_
        replace h := h.2
        refine e_icmp_gt (tgt := 86) dX12_ties_65 (by decide) (fun c11 => ?_) (fun c11 => ?_)
        · replace h := h.1 c11
          refine e_iconst dX12_ties_86 ci_0 ?_
          refine e_callS (M' := M_X12_one) (as := [.int 0]) (rest := [.int x3]) dX12_ties_87 ml_X12_293 mk_X12_one rfl (Nat.le_of_ble_eq_true rfl) (show 0 < d by omega) (sp_X12_one) Md_nil (fun v σv hq hf => ?_)
          obtain ⟨v, rfl, rfl, rfl⟩ := hq
          refine e_iadd dX12_ties_90 ?_
          refine e_istore_n dX12_ties_91 rfl rfl (by decide) ?_
          refine e_iinc dX12_ties_92 rfl (ii_1 _) rfl (by decide) ?_
          refine e_goto (tgt := 25) dX12_ties_95 (by decide) ?_
          exact h
        · replace h := h.2 c11
          refine e_aload_n dX12_ties_68 rfl rfl ?_
          refine e_iload_n dX12_ties_69 rfl rfl ?_
          refine e_iload dX12_ties_70 rfl ?_
          refine e_callV (M' := M_X12_worthOf) (as := [.int x1, .int x4]) (rest := [.int x3]) dX12_ties_72 ml_X12_354 mk_X12_worthOf (ob_11 hn) rfl rfl rfl (Nat.le_of_ble_eq_true rfl) (show 0 < d by omega) (sp_X12_worthOf hn h.1) Md_nil (fun v σv hq hf => ?_)
          obtain ⟨v, rfl, rfl, rfl⟩ := hq
          replace h := h.2
          refine e_aload_n dX12_ties_75 rfl rfl ?_
          refine e_getI dX12_ties_76 fl_X12_345 (ob_11 hn) rfl ?_
          refine e_icmp_ne (tgt := 86) dX12_ties_79 (by decide) (fun c12 => ?_) (fun c12 => ?_)
          · replace h := h.1 c12
            refine e_iconst dX12_ties_86 ci_0 ?_
            refine e_callS (M' := M_X12_one) (as := [.int 0]) (rest := [.int x3]) dX12_ties_87 ml_X12_293 mk_X12_one rfl (Nat.le_of_ble_eq_true rfl) (show 0 < d by omega) (sp_X12_one) Md_nil (fun v σv hq hf => ?_)
            obtain ⟨v, rfl, rfl, rfl⟩ := hq
            refine e_iadd dX12_ties_90 ?_
            refine e_istore_n dX12_ties_91 rfl rfl (by decide) ?_
            refine e_iinc dX12_ties_92 rfl (ii_1 _) rfl (by decide) ?_
            refine e_goto (tgt := 25) dX12_ties_95 (by decide) ?_
            exact h
          · replace h := h.2 c12
            refine e_iconst dX12_ties_82 ci_1 ?_
            refine e_goto (tgt := 87) dX12_ties_83 (by decide) ?_
            refine e_callS (M' := M_X12_one) (as := [.int 1]) (rest := [.int x3]) dX12_ties_87 ml_X12_293 mk_X12_one rfl (Nat.le_of_ble_eq_true rfl) (show 0 < d by omega) (sp_X12_one) Md_nil (fun v σv hq hf => ?_)
            obtain ⟨v, rfl, rfl, rfl⟩ := hq
            refine e_iadd dX12_ties_90 ?_
            refine e_istore_n dX12_ties_91 rfl rfl (by decide) ?_
            refine e_iinc dX12_ties_92 rfl (ii_1 _) rfl (by decide) ?_
            refine e_goto (tgt := 25) dX12_ties_95 (by decide) ?_
            exact h
theorem S_X12_ties {d n : Nat} {Q : Int32 → St → Prop} {σ : St} {a1 : Int32} (hn : FIX ≤ n) (hd : 2 ≤ d) (h : (((fn_X12_isPerson σ a1) ≠ 0 → ∃ Q2 : St → Prop, Cn (d - 1) n M_X12_told md_X12_told [.ref 11] σ (liV Q2) ∧ ∀ (σ4 : St), Q2 σ4 → Fr md_X12_told σ σ4 → ∃ Q8 : Int32 → St → Prop, Cn (d - 1) n M_X12_buysBy md_X12_buysBy [.ref 11, .int a1] σ4 (liI Q8) ∧ ∀ (v11 : Int32) (σ10 : St), Q8 v11 σ10 → Fr md_X12_buysBy σ4 σ10 → K_X12_ties_25 d n σ Q σ10 a1 v11 0 0) ∧ ((fn_X12_isPerson σ a1) = 0 → Q (-1) σ))) : Cn d n M_X12_ties md_X12_ties [.ref 11, .int a1] σ (liI Q) := by
  refine Cn.of (k0 := 3) (by decide) rfl ?_
  show Ev (d, n, md_X12_ties, σ, liI Q) M_X12_ties 0 [some (.ref 11), some (.int a1), none, none, none] [] σ
  refine e_aload_n dX12_ties_0 rfl rfl ?_
  refine e_iload_n dX12_ties_1 rfl rfl ?_
  refine e_callV (M' := M_X12_isPerson) (as := [.int a1]) (rest := []) dX12_ties_2 ml_X12_151 mk_X12_isPerson (ob_11 hn) rfl rfl rfl (Nat.le_of_ble_eq_true rfl) (show 0 < d by omega) (sp_X12_isPerson hn (show 1 ≤ d - 1 by omega)) Md_nil (fun v σv hq hf => ?_)
  obtain ⟨v, rfl, rfl, rfl⟩ := hq
  refine e_if_ne (tgt := 10) dX12_ties_5 (by decide) (fun c1 => ?_) (fun c1 => ?_)
  · replace h := h.1 c1
    refine e_aload_n dX12_ties_10 rfl rfl ?_
    obtain ⟨Q2, hc3, h⟩ := h
    refine e_callV (M' := M_X12_told) (as := []) (rest := []) dX12_ties_11 ml_X12_360 mk_X12_told (ob_11 hn) rfl rfl rfl (Nat.le_of_ble_eq_true rfl) (show 0 < d by omega) hc3 (Md_le (b := md_X12_ties) (by decide)) (fun v σ4 hq hf => ?_)
    obtain ⟨rfl, hq⟩ := hq
    replace h := h σ4 hq hf
    refine e_aload_n dX12_ties_14 rfl rfl ?_
    refine e_iload_n dX12_ties_15 rfl rfl ?_
    obtain ⟨Q8, hc9, h⟩ := h
    refine e_callV (M' := M_X12_buysBy) (as := [.int a1]) (rest := []) dX12_ties_16 ml_X12_363 mk_X12_buysBy (ob_11 hn) rfl rfl rfl (Nat.le_of_ble_eq_true rfl) (show 0 < d by omega) hc9 (Md_le (b := md_X12_ties) (by decide)) (fun v σ10 hq hf => ?_)
    obtain ⟨v11, rfl, hq⟩ := hq
    replace h := h v11 σ10 hq hf
    refine e_istore_n dX12_ties_19 rfl rfl (by decide) ?_
    refine e_iconst dX12_ties_20 ci_0 ?_
    refine e_istore_n dX12_ties_21 rfl rfl (by decide) ?_
    refine e_iconst dX12_ties_22 ci_0 ?_
    refine e_istore dX12_ties_23 rfl (by decide) ?_
    exact h
  · replace h := h.2 c1
    refine e_iconst dX12_ties_8 ci_m1 ?_
    exact e_iret dX12_ties_9 rfl ⟨_, rfl, h⟩
abbrev K_X12_edge_24 (d n : Nat) (σ0 : St) (Q : Int32 → St → Prop) (σ : St) (x1 : Int32) (x2 : Int32) (x3 : Int32) : Prop := Ev (d, n, md_X12_edge, σ0, liI Q) M_X12_edge 24 [some (.ref 11), some (.int x1), some (.int x2), some (.int x3), none] [] σ
theorem B_X12_edge_24 {d n : Nat} {σ0 : St} {Q : Int32 → St → Prop}  {σ : St} {x1 : Int32} {x2 : Int32} {x3 : Int32} (hn : FIX ≤ n) (hd : 2 ≤ d) (h : (((250 : Int32) < x3 → Q (-1) σ) ∧ (¬ (250 : Int32) < x3 → vp_in x2 10 ∧ ∃ Q2 : Int32 → St → Prop, Cn (d - 1) n M_X12_buysBy md_X12_buysBy [.ref 11, .int x1] (sI σ 63 x2.toNatClampNeg x3) (liI Q2) ∧ ∀ (v5 : Int32) (σ4 : St), Q2 v5 σ4 → Fr md_X12_buysBy (sI σ 63 x2.toNatClampNeg x3) σ4 → ((v5 = (-1) → Q x3 σ4) ∧ (¬ v5 = (-1) → (((fn_X12_holds v5 x2) ≠ 0 → K_X12_edge_24 d n σ0 Q σ4 x1 x2 (x3 + 1)) ∧ ((fn_X12_holds v5 x2) = 0 → Q x3 σ4))))))) : K_X12_edge_24 d n σ0 Q σ x1 x2 x3 := by
  refine e_iload_n dX12_edge_24 rfl rfl ?_
  refine e_sipush dX12_edge_25 cs_250 ?_
  refine e_icmp_gt (tgt := 68) dX12_edge_28 (by decide) (fun c1 => ?_) (fun c1 => ?_)
  · replace h := h.1 c1
    refine e_iconst dX12_edge_68 ci_m1 ?_
    exact e_iret dX12_edge_69 rfl ⟨_, rfl, h⟩
  · replace h := h.2 c1
    refine e_aload_n dX12_edge_31 rfl rfl ?_
    refine e_getR (y := 63) dX12_edge_32 fl_X12_95 (ob_11 hn) rfl rfl ?_
    refine e_iload_n dX12_edge_35 rfl rfl ?_
    refine e_iload_n dX12_edge_36 rfl rfl ?_
    refine e_iast dX12_edge_37 (ar_63 hn) h.1 (md_r (m := md_X12_edge) (by decide)) ?_
    replace h := h.2
    refine e_aload_n dX12_edge_38 rfl rfl ?_
    refine e_iload_n dX12_edge_39 rfl rfl ?_
    obtain ⟨Q2, hc3, h⟩ := h
    refine e_callV (M' := M_X12_buysBy) (as := [.int x1]) (rest := []) dX12_edge_40 ml_X12_363 mk_X12_buysBy (ob_11 hn) rfl rfl rfl (Nat.le_of_ble_eq_true rfl) (show 0 < d by omega) hc3 (Md_le (b := md_X12_edge) (by decide)) (fun v σ4 hq hf => ?_)
    obtain ⟨v5, rfl, hq⟩ := hq
    replace h := h v5 σ4 hq hf
    refine e_istore dX12_edge_43 rfl (by decide) ?_
    refine e_iload dX12_edge_45 rfl ?_
    refine e_iconst dX12_edge_47 ci_m1 ?_
    refine e_icmp_eq (tgt := 60) dX12_edge_48 (by decide) (fun c8 => ?_) (fun c8 => ?_)
    · replace h := h.1 c8
      refine e_iload_n dX12_edge_60 rfl rfl ?_
      exact e_iret dX12_edge_61 rfl ⟨_, rfl, h⟩
    · replace h := h.2 c8
      refine e_iload dX12_edge_51 rfl ?_
      refine e_iload_n dX12_edge_53 rfl rfl ?_
      refine e_callS (M' := M_X12_holds) (as := [.int v5, .int x2]) (rest := []) dX12_edge_54 ml_X12_289 mk_X12_holds rfl (Nat.le_of_ble_eq_true rfl) (show 0 < d by omega) (sp_X12_holds) Md_nil (fun v σv hq hf => ?_)
      obtain ⟨v, rfl, rfl, rfl⟩ := hq
      refine e_if_ne (tgt := 62) dX12_edge_57 (by decide) (fun c9 => ?_) (fun c9 => ?_)
      · replace h := h.1 c9
        refine e_iinc dX12_edge_62 rfl (ii_1 _) rfl (by decide) ?_
        refine e_goto (tgt := 24) dX12_edge_65 (by decide) ?_
        refine e_kill [true, true, true, true, false] ?_
        exact h
      · replace h := h.2 c9
        refine e_iload_n dX12_edge_60 rfl rfl ?_
        exact e_iret dX12_edge_61 rfl ⟨_, rfl, h⟩
theorem S_X12_edge {d n : Nat} {Q : Int32 → St → Prop} {σ : St} {a1 : Int32} {a2 : Int32} (hn : FIX ≤ n) (hd : 2 ≤ d) (h : (((fn_X12_isPerson σ a1) = 0 → Q (-1) σ) ∧ (¬ (fn_X12_isPerson σ a1) = 0 → (((fn_X12_isLesson σ a2) ≠ 0 → ∃ Q3 : St → Prop, Cn (d - 1) n M_X12_told md_X12_told [.ref 11] σ (liV Q3) ∧ ∀ (σ5 : St), Q3 σ5 → Fr md_X12_told σ σ5 → K_X12_edge_24 d n σ Q σ5 a1 a2 0) ∧ ((fn_X12_isLesson σ a2) = 0 → Q (-1) σ))))) : Cn d n M_X12_edge md_X12_edge [.ref 11, .int a1, .int a2] σ (liI Q) := by
  refine Cn.of (k0 := 2) (by decide) rfl ?_
  show Ev (d, n, md_X12_edge, σ, liI Q) M_X12_edge 0 [some (.ref 11), some (.int a1), some (.int a2), none, none] [] σ
  refine e_aload_n dX12_edge_0 rfl rfl ?_
  refine e_iload_n dX12_edge_1 rfl rfl ?_
  refine e_callV (M' := M_X12_isPerson) (as := [.int a1]) (rest := []) dX12_edge_2 ml_X12_151 mk_X12_isPerson (ob_11 hn) rfl rfl rfl (Nat.le_of_ble_eq_true rfl) (show 0 < d by omega) (sp_X12_isPerson hn (show 1 ≤ d - 1 by omega)) Md_nil (fun v σv hq hf => ?_)
  obtain ⟨v, rfl, rfl, rfl⟩ := hq
  refine e_if_eq (tgt := 16) dX12_edge_5 (by decide) (fun c1 => ?_) (fun c1 => ?_)
  · replace h := h.1 c1
    refine e_iconst dX12_edge_16 ci_m1 ?_
    exact e_iret dX12_edge_17 rfl ⟨_, rfl, h⟩
  · replace h := h.2 c1
    refine e_aload_n dX12_edge_8 rfl rfl ?_
    refine e_iload_n dX12_edge_9 rfl rfl ?_
    refine e_callV (M' := M_X12_isLesson) (as := [.int a2]) (rest := []) dX12_edge_10 ml_X12_141 mk_X12_isLesson (ob_11 hn) rfl rfl rfl (Nat.le_of_ble_eq_true rfl) (show 0 < d by omega) (sp_X12_isLesson hn (show 1 ≤ d - 1 by omega)) Md_nil (fun v σv hq hf => ?_)
    obtain ⟨v, rfl, rfl, rfl⟩ := hq
    refine e_if_ne (tgt := 18) dX12_edge_13 (by decide) (fun c2 => ?_) (fun c2 => ?_)
    · replace h := h.1 c2
      refine e_aload_n dX12_edge_18 rfl rfl ?_
      obtain ⟨Q3, hc4, h⟩ := h
      refine e_callV (M' := M_X12_told) (as := []) (rest := []) dX12_edge_19 ml_X12_360 mk_X12_told (ob_11 hn) rfl rfl rfl (Nat.le_of_ble_eq_true rfl) (show 0 < d by omega) hc4 (Md_le (b := md_X12_edge) (by decide)) (fun v σ5 hq hf => ?_)
      obtain ⟨rfl, hq⟩ := hq
      replace h := h σ5 hq hf
      refine e_iconst dX12_edge_22 ci_0 ?_
      refine e_istore_n dX12_edge_23 rfl rfl (by decide) ?_
      exact h
    · replace h := h.2 c2
      refine e_iconst dX12_edge_16 ci_m1 ?_
      exact e_iret dX12_edge_17 rfl ⟨_, rfl, h⟩
abbrev K_X12_isWell_2 (d n : Nat) (σ0 : St) (Q : Int32 → St → Prop) (σ : St) (x1 : Int32) (x2 : Int32) (x3 : Int32) : Prop := Ev (d, n, md_X12_isWell, σ0, liI Q) M_X12_isWell 2 [some (.ref 11), some (.int x1), some (.int x2), some (.int x3), none] [] σ
abbrev K_X12_isWell_42 (d n : Nat) (σ0 : St) (Q : Int32 → St → Prop) (σ : St) (x1 : Int32) (x2 : Int32) (x3 : Int32) : Prop := Ev (d, n, md_X12_isWell, σ0, liI Q) M_X12_isWell 42 [some (.ref 11), some (.int x1), some (.int x2), some (.int x3), none] [] σ
abbrev K_X12_isWell_85 (d n : Nat) (σ0 : St) (Q : Int32 → St → Prop) (σ : St) (x3 : Int32) (x4 : Int32) : Prop := Ev (d, n, md_X12_isWell, σ0, liI Q) M_X12_isWell 85 [some (.ref 11), none, none, some (.int x3), some (.int x4)] [] σ
abbrev K_X12_isWell_129 (d n : Nat) (σ0 : St) (Q : Int32 → St → Prop) (σ : St) (x3 : Int32) (x4 : Int32) : Prop := Ev (d, n, md_X12_isWell, σ0, liI Q) M_X12_isWell 129 [some (.ref 11), none, none, some (.int x3), some (.int x4)] [] σ
theorem B_X12_isWell_2 {d n : Nat} {σ0 : St} {Q : Int32 → St → Prop}  {σ : St} {x1 : Int32} {x2 : Int32} {x3 : Int32} (hn : FIX ≤ n) (hd : 1 ≤ d) (h : (((gI σ 11 1) ≤ x3 → K_X12_isWell_42 d n σ0 Q σ x1 x2 0) ∧ (¬ (gI σ 11 1) ≤ x3 → (((fn_X12_holds x1 x3) = 0 → vp_in x3 8 ∧ vp_in x3 8 ∧ K_X12_isWell_2 d n σ0 Q (sI σ 71 x3.toNatClampNeg (gI σ 74 x3.toNatClampNeg)) x1 x2 (x3 + 1)) ∧ (¬ (fn_X12_holds x1 x3) = 0 → vp_in x3 8 ∧ K_X12_isWell_2 d n σ0 Q (sI σ 71 x3.toNatClampNeg 0) x1 x2 (x3 + 1)))))) : K_X12_isWell_2 d n σ0 Q σ x1 x2 x3 := by
  refine e_iload_n dX12_isWell_2 rfl rfl ?_
  refine e_aload_n dX12_isWell_3 rfl rfl ?_
  refine e_getI dX12_isWell_4 fl_X12_138 (ob_11 hn) rfl ?_
  refine e_icmp_ge (tgt := 40) dX12_isWell_7 (by decide) (fun c1 => ?_) (fun c1 => ?_)
  · replace h := h.1 c1
    refine e_iconst dX12_isWell_40 ci_0 ?_
    refine e_istore_n dX12_isWell_41 rfl rfl (by decide) ?_
    exact h
  · replace h := h.2 c1
    refine e_aload_n dX12_isWell_10 rfl rfl ?_
    refine e_getR (y := 71) dX12_isWell_11 fl_X12_119 (ob_11 hn) rfl rfl ?_
    refine e_iload_n dX12_isWell_14 rfl rfl ?_
    refine e_iload_n dX12_isWell_15 rfl rfl ?_
    refine e_iload_n dX12_isWell_16 rfl rfl ?_
    refine e_callS (M' := M_X12_holds) (as := [.int x1, .int x3]) (rest := [.int x3, .ref 71]) dX12_isWell_17 ml_X12_289 mk_X12_holds rfl (Nat.le_of_ble_eq_true rfl) (show 0 < d by omega) (sp_X12_holds) Md_nil (fun v σv hq hf => ?_)
    obtain ⟨v, rfl, rfl, rfl⟩ := hq
    refine e_if_eq (tgt := 27) dX12_isWell_20 (by decide) (fun c2 => ?_) (fun c2 => ?_)
    · replace h := h.1 c2
      refine e_aload_n dX12_isWell_27 rfl rfl ?_
      refine e_getR (y := 74) dX12_isWell_28 fl_X12_128 (ob_11 hn) rfl rfl ?_
      refine e_iload_n dX12_isWell_31 rfl rfl ?_
      refine e_iald dX12_isWell_32 (ar_74 hn) h.1 ?_
      replace h := h.2
      refine e_iast dX12_isWell_33 (ar_71 hn) h.1 (md_r (m := md_X12_isWell) (by decide)) ?_
      replace h := h.2
      refine e_iinc dX12_isWell_34 rfl (ii_1 _) rfl (by decide) ?_
      refine e_goto (tgt := 2) dX12_isWell_37 (by decide) ?_
      exact h
    · replace h := h.2 c2
      refine e_iconst dX12_isWell_23 ci_0 ?_
      refine e_goto (tgt := 33) dX12_isWell_24 (by decide) ?_
      refine e_iast dX12_isWell_33 (ar_71 hn) h.1 (md_r (m := md_X12_isWell) (by decide)) ?_
      replace h := h.2
      refine e_iinc dX12_isWell_34 rfl (ii_1 _) rfl (by decide) ?_
      refine e_goto (tgt := 2) dX12_isWell_37 (by decide) ?_
      exact h
theorem B_X12_isWell_42 {d n : Nat} {σ0 : St} {Q : Int32 → St → Prop}  {σ : St} {x1 : Int32} {x2 : Int32} {x3 : Int32} (hn : FIX ≤ n) (hd : 1 ≤ d) (h : (((gI σ 11 1) ≤ x3 → K_X12_isWell_85 d n σ0 Q σ 1 0) ∧ (¬ (gI σ 11 1) ≤ x3 → (((fn_X12_holds x1 x3) = 0 → K_X12_isWell_42 d n σ0 Q σ x1 x2 (x3 + 1)) ∧ (¬ (fn_X12_holds x1 x3) = 0 → ∃ Q3 : Int32 → St → Prop, Cn (d - 1) n M_X12_takesBest md_X12_takesBest [.ref 11, .int x3, .int x2] σ (liI Q3) ∧ ∀ (v6 : Int32) (σ5 : St), Q3 v6 σ5 → Fr md_X12_takesBest σ σ5 → vp_in x3 8 ∧ K_X12_isWell_42 d n σ0 Q (sI σ5 71 x3.toNatClampNeg (mxI 0 v6)) x1 x2 (x3 + 1)))))) : K_X12_isWell_42 d n σ0 Q σ x1 x2 x3 := by
  refine e_iload_n dX12_isWell_42 rfl rfl ?_
  refine e_aload_n dX12_isWell_43 rfl rfl ?_
  refine e_getI dX12_isWell_44 fl_X12_138 (ob_11 hn) rfl ?_
  refine e_icmp_ge (tgt := 80) dX12_isWell_47 (by decide) (fun c1 => ?_) (fun c1 => ?_)
  · replace h := h.1 c1
    refine e_iconst dX12_isWell_80 ci_1 ?_
    refine e_istore_n dX12_isWell_81 rfl rfl (by decide) ?_
    refine e_iconst dX12_isWell_82 ci_0 ?_
    refine e_istore dX12_isWell_83 rfl (by decide) ?_
    refine e_kill [true, false, false, true, true] ?_
    exact h
  · replace h := h.2 c1
    refine e_iload_n dX12_isWell_50 rfl rfl ?_
    refine e_iload_n dX12_isWell_51 rfl rfl ?_
    refine e_callS (M' := M_X12_holds) (as := [.int x1, .int x3]) (rest := []) dX12_isWell_52 ml_X12_289 mk_X12_holds rfl (Nat.le_of_ble_eq_true rfl) (show 0 < d by omega) (sp_X12_holds) Md_nil (fun v σv hq hf => ?_)
    obtain ⟨v, rfl, rfl, rfl⟩ := hq
    refine e_if_eq (tgt := 74) dX12_isWell_55 (by decide) (fun c2 => ?_) (fun c2 => ?_)
    · replace h := h.1 c2
      refine e_iinc dX12_isWell_74 rfl (ii_1 _) rfl (by decide) ?_
      refine e_goto (tgt := 42) dX12_isWell_77 (by decide) ?_
      exact h
    · replace h := h.2 c2
      refine e_aload_n dX12_isWell_58 rfl rfl ?_
      refine e_getR (y := 71) dX12_isWell_59 fl_X12_119 (ob_11 hn) rfl rfl ?_
      refine e_iload_n dX12_isWell_62 rfl rfl ?_
      refine e_iconst dX12_isWell_63 ci_0 ?_
      refine e_aload_n dX12_isWell_64 rfl rfl ?_
      refine e_iload_n dX12_isWell_65 rfl rfl ?_
      refine e_iload_n dX12_isWell_66 rfl rfl ?_
      obtain ⟨Q3, hc4, h⟩ := h
      refine e_callV (M' := M_X12_takesBest) (as := [.int x3, .int x2]) (rest := [.int 0, .int x3, .ref 71]) dX12_isWell_67 ml_X12_403 mk_X12_takesBest (ob_11 hn) rfl rfl rfl (Nat.le_of_ble_eq_true rfl) (show 0 < d by omega) hc4 (Md_le (b := md_X12_isWell) (by decide)) (fun v σ5 hq hf => ?_)
      obtain ⟨v6, rfl, hq⟩ := hq
      replace h := h v6 σ5 hq hf
      refine e_mmax (st := [.int x3, .ref 71]) dX12_isWell_70 ml_X12_304 (Nat.le_of_ble_eq_true rfl) (show 0 < d by omega) ?_
      refine e_iast dX12_isWell_73 (ar_71 hn) h.1 (md_r (m := md_X12_isWell) (by decide)) ?_
      replace h := h.2
      refine e_iinc dX12_isWell_74 rfl (ii_1 _) rfl (by decide) ?_
      refine e_goto (tgt := 42) dX12_isWell_77 (by decide) ?_
      exact h
theorem B_X12_isWell_85 {d n : Nat} {σ0 : St} {Q : Int32 → St → Prop}  {σ : St} {x3 : Int32} {x4 : Int32} (hn : FIX ≤ n) (hd : 1 ≤ d) (h : (((gI σ 11 1) ≤ x4 → K_X12_isWell_129 d n σ0 Q σ x3 0) ∧ (¬ (gI σ 11 1) ≤ x4 → ((x3 = 0 → K_X12_isWell_85 d n σ0 Q σ 0 (x4 + 1)) ∧ (¬ x3 = 0 → vp_in x4 8 ∧ pre_X12_isLawful σ x4 (gI σ 71 x4.toNatClampNeg) ∧ (((fn_X12_isLawful σ x4 (gI σ 71 x4.toNatClampNeg)) = 0 → K_X12_isWell_85 d n σ0 Q σ 0 (x4 + 1)) ∧ (¬ (fn_X12_isLawful σ x4 (gI σ 71 x4.toNatClampNeg)) = 0 → K_X12_isWell_85 d n σ0 Q σ 1 (x4 + 1)))))))) : K_X12_isWell_85 d n σ0 Q σ x3 x4 := by
  refine e_iload dX12_isWell_85 rfl ?_
  refine e_aload_n dX12_isWell_87 rfl rfl ?_
  refine e_getI dX12_isWell_88 fl_X12_138 (ob_11 hn) rfl ?_
  refine e_icmp_ge (tgt := 126) dX12_isWell_91 (by decide) (fun c1 => ?_) (fun c1 => ?_)
  · replace h := h.1 c1
    refine e_iconst dX12_isWell_126 ci_0 ?_
    refine e_istore dX12_isWell_127 rfl (by decide) ?_
    exact h
  · replace h := h.2 c1
    refine e_iload_n dX12_isWell_94 rfl rfl ?_
    refine e_if_eq (tgt := 118) dX12_isWell_95 (by decide) (fun c2 => ?_) (fun c2 => ?_)
    · replace h := h.1 c2
      refine e_iconst dX12_isWell_118 ci_0 ?_
      refine e_istore_n dX12_isWell_119 rfl rfl (by decide) ?_
      refine e_iinc dX12_isWell_120 rfl (ii_1 _) rfl (by decide) ?_
      refine e_goto (tgt := 85) dX12_isWell_123 (by decide) ?_
      exact h
    · replace h := h.2 c2
      refine e_aload_n dX12_isWell_98 rfl rfl ?_
      refine e_iload dX12_isWell_99 rfl ?_
      refine e_aload_n dX12_isWell_101 rfl rfl ?_
      refine e_getR (y := 71) dX12_isWell_102 fl_X12_119 (ob_11 hn) rfl rfl ?_
      refine e_iload dX12_isWell_105 rfl ?_
      refine e_iald dX12_isWell_107 (ar_71 hn) h.1 ?_
      replace h := h.2
      refine e_callV (M' := M_X12_isLawful) (as := [.int x4, .int (gI σ 71 x4.toNatClampNeg)]) (rest := []) dX12_isWell_108 ml_X12_348 mk_X12_isLawful (ob_11 hn) rfl rfl rfl (Nat.le_of_ble_eq_true rfl) (show 0 < d by omega) (sp_X12_isLawful hn h.1) Md_nil (fun v σv hq hf => ?_)
      obtain ⟨v, rfl, rfl, rfl⟩ := hq
      replace h := h.2
      refine e_if_eq (tgt := 118) dX12_isWell_111 (by decide) (fun c3 => ?_) (fun c3 => ?_)
      · replace h := h.1 c3
        refine e_iconst dX12_isWell_118 ci_0 ?_
        refine e_istore_n dX12_isWell_119 rfl rfl (by decide) ?_
        refine e_iinc dX12_isWell_120 rfl (ii_1 _) rfl (by decide) ?_
        refine e_goto (tgt := 85) dX12_isWell_123 (by decide) ?_
        exact h
      · replace h := h.2 c3
        refine e_iconst dX12_isWell_114 ci_1 ?_
        refine e_goto (tgt := 119) dX12_isWell_115 (by decide) ?_
        refine e_istore_n dX12_isWell_119 rfl rfl (by decide) ?_
        refine e_iinc dX12_isWell_120 rfl (ii_1 _) rfl (by decide) ?_
        refine e_goto (tgt := 85) dX12_isWell_123 (by decide) ?_
        exact h
theorem B_X12_isWell_129 {d n : Nat} {σ0 : St} {Q : Int32 → St → Prop}  {σ : St} {x3 : Int32} {x4 : Int32} (hn : FIX ≤ n) (hd : 1 ≤ d) (h : (((gI σ 11 0) ≤ x4 → (x3 = 0 ∨ x3 = 1) ∧ Q x3 σ) ∧ (¬ (gI σ 11 0) ≤ x4 → ((x3 = 0 → K_X12_isWell_129 d n σ0 Q σ 0 (x4 + 1)) ∧ (¬ x3 = 0 → ∃ Q3 : Int32 → St → Prop, Cn (d - 1) n M_X12_leftOf md_X12_leftOf [.ref 11, .int x4] σ (liI Q3) ∧ ∀ (v6 : Int32) (σ5 : St), Q3 v6 σ5 → Fr md_X12_leftOf σ σ5 → ((v6 < 0 → K_X12_isWell_129 d n σ0 Q σ5 0 (x4 + 1)) ∧ (¬ v6 < 0 → K_X12_isWell_129 d n σ0 Q σ5 1 (x4 + 1)))))))) : K_X12_isWell_129 d n σ0 Q σ x3 x4 := by
  refine e_iload dX12_isWell_129 rfl ?_
  refine e_aload_n dX12_isWell_131 rfl rfl ?_
  refine e_getI dX12_isWell_132 fl_X12_131 (ob_11 hn) rfl ?_
  refine e_icmp_ge (tgt := 163) dX12_isWell_135 (by decide) (fun c1 => ?_) (fun c1 => ?_)
  · replace h := h.1 c1
    refine e_iload_n dX12_isWell_163 rfl rfl ?_
    exact e_zret dX12_isWell_164 rfl (nar_z h.1) ⟨_, rfl, h.2⟩
  · replace h := h.2 c1
    refine e_iload_n dX12_isWell_138 rfl rfl ?_
    refine e_if_eq (tgt := 155) dX12_isWell_139 (by decide) (fun c2 => ?_) (fun c2 => ?_)
    · replace h := h.1 c2
      refine e_iconst dX12_isWell_155 ci_0 ?_
      refine e_istore_n dX12_isWell_156 rfl rfl (by decide) ?_
      refine e_iinc dX12_isWell_157 rfl (ii_1 _) rfl (by decide) ?_
      refine e_goto (tgt := 129) dX12_isWell_160 (by decide) ?_
      exact h
    · replace h := h.2 c2
      refine e_aload_n dX12_isWell_142 rfl rfl ?_
      refine e_iload dX12_isWell_143 rfl ?_
      obtain ⟨Q3, hc4, h⟩ := h
      refine e_callV (M' := M_X12_leftOf) (as := [.int x4]) (rest := []) dX12_isWell_145 ml_X12_390 mk_X12_leftOf (ob_11 hn) rfl rfl rfl (Nat.le_of_ble_eq_true rfl) (show 0 < d by omega) hc4 (Md_le (b := md_X12_isWell) (by decide)) (fun v σ5 hq hf => ?_)
      obtain ⟨v6, rfl, hq⟩ := hq
      replace h := h v6 σ5 hq hf
      refine e_if_lt (tgt := 155) dX12_isWell_148 (by decide) (fun c9 => ?_) (fun c9 => ?_)
      · replace h := h.1 c9
        refine e_iconst dX12_isWell_155 ci_0 ?_
        refine e_istore_n dX12_isWell_156 rfl rfl (by decide) ?_
        refine e_iinc dX12_isWell_157 rfl (ii_1 _) rfl (by decide) ?_
        refine e_goto (tgt := 129) dX12_isWell_160 (by decide) ?_
        exact h
      · replace h := h.2 c9
        refine e_iconst dX12_isWell_151 ci_1 ?_
        refine e_goto (tgt := 156) dX12_isWell_152 (by decide) ?_
        refine e_istore_n dX12_isWell_156 rfl rfl (by decide) ?_
        refine e_iinc dX12_isWell_157 rfl (ii_1 _) rfl (by decide) ?_
        refine e_goto (tgt := 129) dX12_isWell_160 (by decide) ?_
        exact h
theorem S_X12_isWell {d n : Nat} {Q : Int32 → St → Prop} {σ : St} {a1 : Int32} {a2 : Int32} (hn : FIX ≤ n) (hd : 1 ≤ d) (h : K_X12_isWell_2 d n σ Q σ a1 a2 0) : Cn d n M_X12_isWell md_X12_isWell [.ref 11, .int a1, .int a2] σ (liI Q) := by
  refine Cn.of (k0 := 2) (by decide) rfl ?_
  show Ev (d, n, md_X12_isWell, σ, liI Q) M_X12_isWell 0 [some (.ref 11), some (.int a1), some (.int a2), none, none] [] σ
  refine e_iconst dX12_isWell_0 ci_0 ?_
  refine e_istore_n dX12_isWell_1 rfl rfl (by decide) ?_
  exact h
abbrev K_X12_few_45 (d n : Nat) (σ0 : St) (Q : Int32 → St → Prop) (σ : St) (x2 : Int32) (x3 : Int32) (x4 : Int32) : Prop := Ev (d, n, md_X12_few, σ0, liI Q) M_X12_few 45 [some (.ref 11), none, some (.int x2), some (.int x3), some (.int x4), none] [] σ
abbrev K_X12_few_86 (d n : Nat) (σ0 : St) (Q : Int32 → St → Prop) (σ : St) (x2 : Int32) (x3 : Int32) (x4 : Int32) (x5 : Int32) : Prop := Ev (d, n, md_X12_few, σ0, liI Q) M_X12_few 86 [some (.ref 11), none, some (.int x2), some (.int x3), some (.int x4), some (.int x5)] [] σ
theorem B_X12_few_45 {d n : Nat} {σ0 : St} {Q : Int32 → St → Prop}  {σ : St} {x2 : Int32} {x3 : Int32} {x4 : Int32} (hn : FIX ≤ n) (hd : 2 ≤ d) (h : (((gI σ 11 1) ≤ x4 → K_X12_few_86 d n σ0 Q σ x2 x3 (-1) 0) ∧ (¬ (gI σ 11 1) ≤ x4 → vp_in x4 8 ∧ vp_in x4 8 ∧ K_X12_few_45 d n σ0 Q (sI σ 74 x4.toNatClampNeg ((gI σ 71 x4.toNatClampNeg) &&& (((1 : Int32) <<< (x2 &&& 31)) ^^^ (-1)))) x2 x3 (x4 + 1)))) : K_X12_few_45 d n σ0 Q σ x2 x3 x4 := by
  refine e_iload dX12_few_45 rfl ?_
  refine e_aload_n dX12_few_47 rfl rfl ?_
  refine e_getI dX12_few_48 fl_X12_138 (ob_11 hn) rfl ?_
  refine e_icmp_ge (tgt := 80) dX12_few_51 (by decide) (fun c1 => ?_) (fun c1 => ?_)
  · replace h := h.1 c1
    refine e_iconst dX12_few_80 ci_m1 ?_
    refine e_istore dX12_few_81 rfl (by decide) ?_
    refine e_iconst dX12_few_83 ci_0 ?_
    refine e_istore dX12_few_84 rfl (by decide) ?_
    exact h
  · replace h := h.2 c1
    refine e_aload_n dX12_few_54 rfl rfl ?_
    refine e_getR (y := 74) dX12_few_55 fl_X12_128 (ob_11 hn) rfl rfl ?_
    refine e_iload dX12_few_58 rfl ?_
    refine e_aload_n dX12_few_60 rfl rfl ?_
    refine e_getR (y := 71) dX12_few_61 fl_X12_119 (ob_11 hn) rfl rfl ?_
    refine e_iload dX12_few_64 rfl ?_
    refine e_iald dX12_few_66 (ar_71 hn) h.1 ?_
    replace h := h.2
    refine e_iconst dX12_few_67 ci_1 ?_
    refine e_iload_n dX12_few_68 rfl rfl ?_
    refine e_ishl dX12_few_69 ?_
    refine e_iconst dX12_few_70 ci_m1 ?_
    refine e_ixor dX12_few_71 ?_
    refine e_iand dX12_few_72 ?_
    refine e_iast dX12_few_73 (ar_74 hn) h.1 (md_r (m := md_X12_few) (by decide)) ?_
    replace h := h.2
    refine e_iinc dX12_few_74 rfl (ii_1 _) rfl (by decide) ?_
    refine e_goto (tgt := 45) dX12_few_77 (by decide) ?_
    exact h
theorem B_X12_few_86 {d n : Nat} {σ0 : St} {Q : Int32 → St → Prop}  {σ : St} {x2 : Int32} {x3 : Int32} {x4 : Int32} {x5 : Int32} (hn : FIX ≤ n) (hd : 2 ≤ d) (h : ((((1 : Int32) <<< ((gI σ 11 1) &&& 31)) ≤ x5 → ((x4 = (-1) → Q x4 σ) ∧ (¬ x4 = (-1) → ((x3 ≠ 0 → ∃ Q4 : Int32 → St → Prop, Cn (d - 1) n M_X12_isWell md_X12_isWell [.ref 11, .int x4, .int x2] σ (liI Q4) ∧ ∀ (v7 : Int32) (σ6 : St), Q4 v7 σ6 → Fr md_X12_isWell σ σ6 → vp_in (x3 - 10) 8 ∧ Q (gI σ6 71 (x3 - 10).toNatClampNeg) σ6) ∧ (x3 = 0 → Q x4 σ))))) ∧ (¬ ((1 : Int32) <<< ((gI σ 11 1) &&& 31)) ≤ x5 → ((x4 = (-1) → ∃ Q11 : Int32 → St → Prop, Cn (d - 1) n M_X12_isWell md_X12_isWell [.ref 11, .int x5, .int x2] σ (liI Q11) ∧ ∀ (v14 : Int32) (σ13 : St), Q11 v14 σ13 → Fr md_X12_isWell σ σ13 → ((v14 = 0 → K_X12_few_86 d n σ0 Q σ13 x2 x3 x4 (x5 + 1)) ∧ (¬ v14 = 0 → K_X12_few_86 d n σ0 Q σ13 x2 x3 x5 (x5 + 1)))) ∧ (¬ x4 = (-1) → ∃ Q18 : Int32 → St → Prop, Cn (d - 1) n M_X12_bits md_X12_bits [.int x5] σ (liI Q18) ∧ ∀ (v21 : Int32) (σ20 : St), Q18 v21 σ20 → Fr md_X12_bits σ σ20 → ∃ Q24 : Int32 → St → Prop, Cn (d - 1) n M_X12_bits md_X12_bits [.int x4] σ20 (liI Q24) ∧ ∀ (v27 : Int32) (σ26 : St), Q24 v27 σ26 → Fr md_X12_bits σ20 σ26 → ((v27 ≤ v21 → K_X12_few_86 d n σ0 Q σ26 x2 x3 x4 (x5 + 1)) ∧ (¬ v27 ≤ v21 → ∃ Q31 : Int32 → St → Prop, Cn (d - 1) n M_X12_isWell md_X12_isWell [.ref 11, .int x5, .int x2] σ26 (liI Q31) ∧ ∀ (v34 : Int32) (σ33 : St), Q31 v34 σ33 → Fr md_X12_isWell σ26 σ33 → ((v34 = 0 → K_X12_few_86 d n σ0 Q σ33 x2 x3 x4 (x5 + 1)) ∧ (¬ v34 = 0 → K_X12_few_86 d n σ0 Q σ33 x2 x3 x5 (x5 + 1)))))))))) : K_X12_few_86 d n σ0 Q σ x2 x3 x4 x5 := by
  refine e_iload dX12_few_86 rfl ?_
  refine e_iconst dX12_few_88 ci_1 ?_
  refine e_aload_n dX12_few_89 rfl rfl ?_
  refine e_getI dX12_few_90 fl_X12_138 (ob_11 hn) rfl ?_
  refine e_ishl dX12_few_93 ?_
  refine e_icmp_ge (tgt := 136) dX12_few_94 (by decide) (fun c1 => ?_) (fun c1 => ?_)
  · replace h := h.1 c1
    refine e_iload dX12_few_136 rfl ?_
    refine e_iconst dX12_few_138 ci_m1 ?_
    refine e_icmp_eq (tgt := 146) dX12_few_139 (by decide) (fun c2 => ?_) (fun c2 => ?_)
    · replace h := h.1 c2
      refine e_iload dX12_few_146 rfl ?_
      exact e_iret dX12_few_148 rfl ⟨_, rfl, h⟩
    · replace h := h.2 c2
      refine e_iload_n dX12_few_142 rfl rfl ?_
      refine e_if_ne (tgt := 149) dX12_few_143 (by decide) (fun c3 => ?_) (fun c3 => ?_)
      · replace h := h.1 c3
        refine e_aload_n dX12_few_149 rfl rfl ?_
        refine e_iload dX12_few_150 rfl ?_
        refine e_iload_n dX12_few_152 rfl rfl ?_
        obtain ⟨Q4, hc5, h⟩ := h
        refine e_callV (M' := M_X12_isWell) (as := [.int x4, .int x2]) (rest := []) dX12_few_153 ml_X12_447 mk_X12_isWell (ob_11 hn) rfl rfl rfl (Nat.le_of_ble_eq_true rfl) (show 0 < d by omega) hc5 (Md_le (b := md_X12_few) (by decide)) (fun v σ6 hq hf => ?_)
        obtain ⟨v7, rfl, hq⟩ := hq
        replace h := h v7 σ6 hq hf
        refine e_pop dX12_few_156 rfl ?_
        refine e_aload_n dX12_few_157 rfl rfl ?_
        refine e_getR (y := 71) dX12_few_158 fl_X12_119 (ob_11 hn) rfl rfl ?_
        refine e_iload_n dX12_few_161 rfl rfl ?_
        refine e_bipush dX12_few_162 cb_10 ?_
        refine e_isub dX12_few_164 ?_
        refine e_iald dX12_few_165 (ar_71 hn) h.1 ?_
        replace h := h.2
        exact e_iret dX12_few_166 rfl ⟨_, rfl, h⟩
      · replace h := h.2 c3
        refine e_iload dX12_few_146 rfl ?_
        exact e_iret dX12_few_148 rfl ⟨_, rfl, h⟩
  · replace h := h.2 c1
    refine e_iload dX12_few_97 rfl ?_
    refine e_iconst dX12_few_99 ci_m1 ?_
    refine e_icmp_eq (tgt := 116) dX12_few_100 (by decide) (fun c10 => ?_) (fun c10 => ?_)
    · replace h := h.1 c10
      refine e_aload_n dX12_few_116 rfl rfl ?_
      refine e_iload dX12_few_117 rfl ?_
      refine e_iload_n dX12_few_119 rfl rfl ?_
      obtain ⟨Q11, hc12, h⟩ := h
      refine e_callV (M' := M_X12_isWell) (as := [.int x5, .int x2]) (rest := []) dX12_few_120 ml_X12_447 mk_X12_isWell (ob_11 hn) rfl rfl rfl (Nat.le_of_ble_eq_true rfl) (show 0 < d by omega) hc12 (Md_le (b := md_X12_few) (by decide)) (fun v σ13 hq hf => ?_)
      obtain ⟨v14, rfl, hq⟩ := hq
      replace h := h v14 σ13 hq hf
      refine e_if_eq (tgt := 130) dX12_few_123 (by decide) (fun c17 => ?_) (fun c17 => ?_)
      · replace h := h.1 c17
        refine e_iinc dX12_few_130 rfl (ii_1 _) rfl (by decide) ?_
        refine e_goto (tgt := 86) dX12_few_133 (by decide) ?_
        exact h
      · replace h := h.2 c17
        refine e_iload dX12_few_126 rfl ?_
        refine e_istore dX12_few_128 rfl (by decide) ?_
        refine e_iinc dX12_few_130 rfl (ii_1 _) rfl (by decide) ?_
        refine e_goto (tgt := 86) dX12_few_133 (by decide) ?_
        exact h
    · replace h := h.2 c10
      refine e_iload dX12_few_103 rfl ?_
      obtain ⟨Q18, hc19, h⟩ := h
      refine e_callS (M' := M_X12_bits) (as := [.int x5]) (rest := []) dX12_few_105 ml_X12_306 mk_X12_bits rfl (Nat.le_of_ble_eq_true rfl) (show 0 < d by omega) hc19 (Md_le (b := md_X12_few) (by decide)) (fun v σ20 hq hf => ?_)
      obtain ⟨v21, rfl, hq⟩ := hq
      replace h := h v21 σ20 hq hf
      refine e_iload dX12_few_108 rfl ?_
      obtain ⟨Q24, hc25, h⟩ := h
      refine e_callS (M' := M_X12_bits) (as := [.int x4]) (rest := [.int v21]) dX12_few_110 ml_X12_306 mk_X12_bits rfl (Nat.le_of_ble_eq_true rfl) (show 0 < d by omega) hc25 (Md_le (b := md_X12_few) (by decide)) (fun v σ26 hq hf => ?_)
      obtain ⟨v27, rfl, hq⟩ := hq
      replace h := h v27 σ26 hq hf
      refine e_icmp_ge (tgt := 130) dX12_few_113 (by decide) (fun c30 => ?_) (fun c30 => ?_)
      · replace h := h.1 c30
        refine e_iinc dX12_few_130 rfl (ii_1 _) rfl (by decide) ?_
        refine e_goto (tgt := 86) dX12_few_133 (by decide) ?_
        exact h
      · replace h := h.2 c30
        refine e_aload_n dX12_few_116 rfl rfl ?_
        refine e_iload dX12_few_117 rfl ?_
        refine e_iload_n dX12_few_119 rfl rfl ?_
        obtain ⟨Q31, hc32, h⟩ := h
        refine e_callV (M' := M_X12_isWell) (as := [.int x5, .int x2]) (rest := []) dX12_few_120 ml_X12_447 mk_X12_isWell (ob_11 hn) rfl rfl rfl (Nat.le_of_ble_eq_true rfl) (show 0 < d by omega) hc32 (Md_le (b := md_X12_few) (by decide)) (fun v σ33 hq hf => ?_)
        obtain ⟨v34, rfl, hq⟩ := hq
        replace h := h v34 σ33 hq hf
        refine e_if_eq (tgt := 130) dX12_few_123 (by decide) (fun c37 => ?_) (fun c37 => ?_)
        · replace h := h.1 c37
          refine e_iinc dX12_few_130 rfl (ii_1 _) rfl (by decide) ?_
          refine e_goto (tgt := 86) dX12_few_133 (by decide) ?_
          exact h
        · replace h := h.2 c37
          refine e_iload dX12_few_126 rfl ?_
          refine e_istore dX12_few_128 rfl (by decide) ?_
          refine e_iinc dX12_few_130 rfl (ii_1 _) rfl (by decide) ?_
          refine e_goto (tgt := 86) dX12_few_133 (by decide) ?_
          exact h
theorem S_X12_few {d n : Nat} {Q : Int32 → St → Prop} {σ : St} {a1 : Int32} {a2 : Int32} {a3 : Int32} (hn : FIX ≤ n) (hd : 2 ≤ d) (h : (((fn_X12_isWay a1) = 0 → Q (-1) σ) ∧ (¬ (fn_X12_isWay a1) = 0 → (((fn_X12_isLesson σ a2) = 0 → Q (-1) σ) ∧ (¬ (fn_X12_isLesson σ a2) = 0 → ((a3 = 0 → ∃ Q4 : St → Prop, Cn (d - 1) n M_X12_goes md_X12_goes [.ref 11, .int a1] σ (liV Q4) ∧ ∀ (σ6 : St), Q4 σ6 → Fr md_X12_goes σ σ6 → K_X12_few_45 d n σ Q σ6 a2 a3 0) ∧ (¬ a3 = 0 → (((fn_X12_isIn a3 10 (9 + (gI σ 11 1))) ≠ 0 → ∃ Q11 : St → Prop, Cn (d - 1) n M_X12_goes md_X12_goes [.ref 11, .int a1] σ (liV Q11) ∧ ∀ (σ13 : St), Q11 σ13 → Fr md_X12_goes σ σ13 → K_X12_few_45 d n σ Q σ13 a2 a3 0) ∧ ((fn_X12_isIn a3 10 (9 + (gI σ 11 1))) = 0 → Q (-1) σ))))))))) : Cn d n M_X12_few md_X12_few [.ref 11, .int a1, .int a2, .int a3] σ (liI Q) := by
  refine Cn.of (k0 := 2) (by decide) rfl ?_
  show Ev (d, n, md_X12_few, σ, liI Q) M_X12_few 0 [some (.ref 11), some (.int a1), some (.int a2), some (.int a3), none, none] [] σ
  refine e_iload_n dX12_few_0 rfl rfl ?_
  refine e_callS (M' := M_X12_isWay) (as := [.int a1]) (rest := []) dX12_few_1 ml_X12_418 mk_X12_isWay rfl (Nat.le_of_ble_eq_true rfl) (show 0 < d by omega) (sp_X12_isWay (show 1 ≤ d - 1 by omega)) Md_nil (fun v σv hq hf => ?_)
  obtain ⟨v, rfl, rfl, rfl⟩ := hq
  refine e_if_eq (tgt := 35) dX12_few_4 (by decide) (fun c1 => ?_) (fun c1 => ?_)
  · replace h := h.1 c1
    refine e_iconst dX12_few_35 ci_m1 ?_
    exact e_iret dX12_few_36 rfl ⟨_, rfl, h⟩
  · replace h := h.2 c1
    refine e_aload_n dX12_few_7 rfl rfl ?_
    refine e_iload_n dX12_few_8 rfl rfl ?_
    refine e_callV (M' := M_X12_isLesson) (as := [.int a2]) (rest := []) dX12_few_9 ml_X12_141 mk_X12_isLesson (ob_11 hn) rfl rfl rfl (Nat.le_of_ble_eq_true rfl) (show 0 < d by omega) (sp_X12_isLesson hn (show 1 ≤ d - 1 by omega)) Md_nil (fun v σv hq hf => ?_)
    obtain ⟨v, rfl, rfl, rfl⟩ := hq
    refine e_if_eq (tgt := 35) dX12_few_12 (by decide) (fun c2 => ?_) (fun c2 => ?_)
    · replace h := h.1 c2
      refine e_iconst dX12_few_35 ci_m1 ?_
      exact e_iret dX12_few_36 rfl ⟨_, rfl, h⟩
    · replace h := h.2 c2
      refine e_iload_n dX12_few_15 rfl rfl ?_
      refine e_if_eq (tgt := 37) dX12_few_16 (by decide) (fun c3 => ?_) (fun c3 => ?_)
      · replace h := h.1 c3
        refine e_aload_n dX12_few_37 rfl rfl ?_
        refine e_iload_n dX12_few_38 rfl rfl ?_
        obtain ⟨Q4, hc5, h⟩ := h
        refine e_callV (M' := M_X12_goes) (as := [.int a1]) (rest := []) dX12_few_39 ml_X12_424 mk_X12_goes (ob_11 hn) rfl rfl rfl (Nat.le_of_ble_eq_true rfl) (show 0 < d by omega) hc5 (Md_le (b := md_X12_few) (by decide)) (fun v σ6 hq hf => ?_)
        obtain ⟨rfl, hq⟩ := hq
        replace h := h σ6 hq hf
        refine e_iconst dX12_few_42 ci_0 ?_
        refine e_istore dX12_few_43 rfl (by decide) ?_
        refine e_kill [true, false, true, true, true, false] ?_
        exact h
      · replace h := h.2 c3
        refine e_iload_n dX12_few_19 rfl rfl ?_
        refine e_bipush dX12_few_20 cb_10 ?_
        refine e_bipush dX12_few_22 cb_9 ?_
        refine e_aload_n dX12_few_24 rfl rfl ?_
        refine e_getI dX12_few_25 fl_X12_138 (ob_11 hn) rfl ?_
        refine e_iadd dX12_few_28 ?_
        refine e_callS (M' := M_X12_isIn) (as := [.int a3, .int 10, .int (9 + (gI σ 11 1))]) (rest := []) dX12_few_29 ml_X12_134 mk_X12_isIn rfl (Nat.le_of_ble_eq_true rfl) (show 0 < d by omega) (sp_X12_isIn) Md_nil (fun v σv hq hf => ?_)
        obtain ⟨v, rfl, rfl, rfl⟩ := hq
        refine e_if_ne (tgt := 37) dX12_few_32 (by decide) (fun c10 => ?_) (fun c10 => ?_)
        · replace h := h.1 c10
          refine e_aload_n dX12_few_37 rfl rfl ?_
          refine e_iload_n dX12_few_38 rfl rfl ?_
          obtain ⟨Q11, hc12, h⟩ := h
          refine e_callV (M' := M_X12_goes) (as := [.int a1]) (rest := []) dX12_few_39 ml_X12_424 mk_X12_goes (ob_11 hn) rfl rfl rfl (Nat.le_of_ble_eq_true rfl) (show 0 < d by omega) hc12 (Md_le (b := md_X12_few) (by decide)) (fun v σ13 hq hf => ?_)
          obtain ⟨rfl, hq⟩ := hq
          replace h := h σ13 hq hf
          refine e_iconst dX12_few_42 ci_0 ?_
          refine e_istore dX12_few_43 rfl (by decide) ?_
          refine e_kill [true, false, true, true, true, false] ?_
          exact h
        · replace h := h.2 c10
          refine e_iconst dX12_few_35 ci_m1 ?_
          exact e_iret dX12_few_36 rfl ⟨_, rfl, h⟩
abbrev K_X12_judge_2 (d n : Nat) (σ0 : St) (Q : Int32 → St → Prop) (σ : St) (x1 : Int32) : Prop := Ev (d, n, md_X12_judge, σ0, liI Q) M_X12_judge 2 [some (.ref 11), some (.int x1)] [] σ
abbrev K_X12_judge_51 (d n : Nat) (σ0 : St) (Q : Int32 → St → Prop) (σ : St) (x1 : Int32) : Prop := Ev (d, n, md_X12_judge, σ0, liI Q) M_X12_judge 51 [some (.ref 11), some (.int x1)] [] σ
abbrev K_X12_judge_89 (d n : Nat) (σ0 : St) (Q : Int32 → St → Prop) (σ : St) (x1 : Int32) : Prop := Ev (d, n, md_X12_judge, σ0, liI Q) M_X12_judge 89 [some (.ref 11), some (.int x1)] [] σ
theorem B_X12_judge_2 {d n : Nat} {σ0 : St} {Q : Int32 → St → Prop}  {σ : St} {x1 : Int32} (hn : FIX ≤ n) (hd : 1 ≤ d) (h : (((gI σ 11 1) ≤ x1 → K_X12_judge_51 d n σ0 Q σ 0) ∧ (¬ (gI σ 11 1) ≤ x1 → vp_in x1 8 ∧ ∃ Q2 : Int32 → St → Prop, Cn (d - 1) n M_X12_barsBy md_X12_barsBy [.ref 11, .int x1, .int x1, .int (gI σ 49 x1.toNatClampNeg)] σ (liI Q2) ∧ ∀ (v5 : Int32) (σ4 : St), Q2 v5 σ4 → Fr md_X12_barsBy σ σ4 → ((v5 ≤ 0 → K_X12_judge_2 d n σ0 Q σ4 (x1 + 1)) ∧ (¬ v5 ≤ 0 → vp_in x1 8 ∧ ∃ Q9 : Int32 → St → Prop, Cn (d - 1) n M_X12_barsBy md_X12_barsBy [.ref 11, .int x1, .int x1, .int (gI σ4 49 x1.toNatClampNeg)] σ4 (liI Q9) ∧ ∀ (v12 : Int32) (σ11 : St), Q9 v12 σ11 → Fr md_X12_barsBy σ4 σ11 → Q ((10 * x1) + v12) σ11))))) : K_X12_judge_2 d n σ0 Q σ x1 := by
  refine e_iload_n dX12_judge_2 rfl rfl ?_
  refine e_aload_n dX12_judge_3 rfl rfl ?_
  refine e_getI dX12_judge_4 fl_X12_138 (ob_11 hn) rfl ?_
  refine e_icmp_ge (tgt := 49) dX12_judge_7 (by decide) (fun c1 => ?_) (fun c1 => ?_)
  · replace h := h.1 c1
    refine e_iconst dX12_judge_49 ci_0 ?_
    refine e_istore_n dX12_judge_50 rfl rfl (by decide) ?_
    exact h
  · replace h := h.2 c1
    refine e_aload_n dX12_judge_10 rfl rfl ?_
    refine e_iload_n dX12_judge_11 rfl rfl ?_
    refine e_iload_n dX12_judge_12 rfl rfl ?_
    refine e_aload_n dX12_judge_13 rfl rfl ?_
    refine e_getR (y := 49) dX12_judge_14 fl_X12_41 (ob_11 hn) rfl rfl ?_
    refine e_iload_n dX12_judge_17 rfl rfl ?_
    refine e_iald dX12_judge_18 (ar_49 hn) h.1 ?_
    replace h := h.2
    obtain ⟨Q2, hc3, h⟩ := h
    refine e_callV (M' := M_X12_barsBy) (as := [.int x1, .int x1, .int (gI σ 49 x1.toNatClampNeg)]) (rest := []) dX12_judge_19 ml_X12_324 mk_X12_barsBy (ob_11 hn) rfl rfl rfl (Nat.le_of_ble_eq_true rfl) (show 0 < d by omega) hc3 (Md_le (b := md_X12_judge) (by decide)) (fun v σ4 hq hf => ?_)
    obtain ⟨v5, rfl, hq⟩ := hq
    replace h := h v5 σ4 hq hf
    refine e_if_le (tgt := 43) dX12_judge_22 (by decide) (fun c8 => ?_) (fun c8 => ?_)
    · replace h := h.1 c8
      refine e_iinc dX12_judge_43 rfl (ii_1 _) rfl (by decide) ?_
      refine e_goto (tgt := 2) dX12_judge_46 (by decide) ?_
      exact h
    · replace h := h.2 c8
      refine e_bipush dX12_judge_25 cb_10 ?_
      refine e_iload_n dX12_judge_27 rfl rfl ?_
      refine e_imul dX12_judge_28 ?_
      refine e_aload_n dX12_judge_29 rfl rfl ?_
      refine e_iload_n dX12_judge_30 rfl rfl ?_
      refine e_iload_n dX12_judge_31 rfl rfl ?_
      refine e_aload_n dX12_judge_32 rfl rfl ?_
      refine e_getR (y := 49) dX12_judge_33 fl_X12_41 (ob_11 hn) rfl rfl ?_
      refine e_iload_n dX12_judge_36 rfl rfl ?_
      refine e_iald dX12_judge_37 (ar_49 hn) h.1 ?_
      replace h := h.2
      obtain ⟨Q9, hc10, h⟩ := h
      refine e_callV (M' := M_X12_barsBy) (as := [.int x1, .int x1, .int (gI σ4 49 x1.toNatClampNeg)]) (rest := [.int (10 * x1)]) dX12_judge_38 ml_X12_324 mk_X12_barsBy (ob_11 hn) rfl rfl rfl (Nat.le_of_ble_eq_true rfl) (show 0 < d by omega) hc10 (Md_le (b := md_X12_judge) (by decide)) (fun v σ11 hq hf => ?_)
      obtain ⟨v12, rfl, hq⟩ := hq
      replace h := h v12 σ11 hq hf
      refine e_iadd dX12_judge_41 ?_
      exact e_iret dX12_judge_42 rfl ⟨_, rfl, h⟩
theorem B_X12_judge_51 {d n : Nat} {σ0 : St} {Q : Int32 → St → Prop}  {σ : St} {x1 : Int32} (hn : FIX ≤ n) (hd : 1 ≤ d) (h : (((8 : Int32) ≤ x1 → K_X12_judge_89 d n σ0 Q σ 0) ∧ (¬ (8 : Int32) ≤ x1 → (((gI σ 11 1) ≤ x1 → vp_in x1 8 ∧ K_X12_judge_51 d n σ0 Q (sI σ 71 x1.toNatClampNeg 0) (x1 + 1)) ∧ (¬ (gI σ 11 1) ≤ x1 → vp_in x1 8 ∧ vp_in x1 8 ∧ K_X12_judge_51 d n σ0 Q (sI σ 71 x1.toNatClampNeg (gI σ 49 x1.toNatClampNeg)) (x1 + 1)))))) : K_X12_judge_51 d n σ0 Q σ x1 := by
  refine e_iload_n dX12_judge_51 rfl rfl ?_
  refine e_bipush dX12_judge_52 cb_8 ?_
  refine e_icmp_ge (tgt := 87) dX12_judge_54 (by decide) (fun c1 => ?_) (fun c1 => ?_)
  · replace h := h.1 c1
    refine e_iconst dX12_judge_87 ci_0 ?_
    refine e_istore_n dX12_judge_88 rfl rfl (by decide) ?_
    exact h
  · replace h := h.2 c1
    refine e_aload_n dX12_judge_57 rfl rfl ?_
    refine e_getR (y := 71) dX12_judge_58 fl_X12_119 (ob_11 hn) rfl rfl ?_
    refine e_iload_n dX12_judge_61 rfl rfl ?_
    refine e_iload_n dX12_judge_62 rfl rfl ?_
    refine e_aload_n dX12_judge_63 rfl rfl ?_
    refine e_getI dX12_judge_64 fl_X12_138 (ob_11 hn) rfl ?_
    refine e_icmp_ge (tgt := 79) dX12_judge_67 (by decide) (fun c2 => ?_) (fun c2 => ?_)
    · replace h := h.1 c2
      refine e_iconst dX12_judge_79 ci_0 ?_
      refine e_iast dX12_judge_80 (ar_71 hn) h.1 (md_r (m := md_X12_judge) (by decide)) ?_
      replace h := h.2
      refine e_iinc dX12_judge_81 rfl (ii_1 _) rfl (by decide) ?_
      refine e_goto (tgt := 51) dX12_judge_84 (by decide) ?_
      exact h
    · replace h := h.2 c2
      refine e_aload_n dX12_judge_70 rfl rfl ?_
      refine e_getR (y := 49) dX12_judge_71 fl_X12_41 (ob_11 hn) rfl rfl ?_
      refine e_iload_n dX12_judge_74 rfl rfl ?_
      refine e_iald dX12_judge_75 (ar_49 hn) h.1 ?_
      replace h := h.2
      refine e_goto (tgt := 80) dX12_judge_76 (by decide) ?_
      refine e_iast dX12_judge_80 (ar_71 hn) h.1 (md_r (m := md_X12_judge) (by decide)) ?_
      replace h := h.2
      refine e_iinc dX12_judge_81 rfl (ii_1 _) rfl (by decide) ?_
      refine e_goto (tgt := 51) dX12_judge_84 (by decide) ?_
      exact h
theorem B_X12_judge_89 {d n : Nat} {σ0 : St} {Q : Int32 → St → Prop}  {σ : St} {x1 : Int32} (hn : FIX ≤ n) (hd : 1 ≤ d) (h : (((gI σ 11 0) ≤ x1 → Q (-1) σ) ∧ (¬ (gI σ 11 0) ≤ x1 → ∃ Q2 : Int32 → St → Prop, Cn (d - 1) n M_X12_leftOf md_X12_leftOf [.ref 11, .int x1] σ (liI Q2) ∧ ∀ (v5 : Int32) (σ4 : St), Q2 v5 σ4 → Fr md_X12_leftOf σ σ4 → (((0 : Int32) ≤ v5 → K_X12_judge_89 d n σ0 Q σ4 (x1 + 1)) ∧ (¬ (0 : Int32) ≤ v5 → Q (1000 + x1) σ4))))) : K_X12_judge_89 d n σ0 Q σ x1 := by
  refine e_iload_n dX12_judge_89 rfl rfl ?_
  refine e_aload_n dX12_judge_90 rfl rfl ?_
  refine e_getI dX12_judge_91 fl_X12_131 (ob_11 hn) rfl ?_
  refine e_icmp_ge (tgt := 117) dX12_judge_94 (by decide) (fun c1 => ?_) (fun c1 => ?_)
  · replace h := h.1 c1
    refine e_iconst dX12_judge_117 ci_m1 ?_
    exact e_iret dX12_judge_118 rfl ⟨_, rfl, h⟩
  · replace h := h.2 c1
    refine e_aload_n dX12_judge_97 rfl rfl ?_
    refine e_iload_n dX12_judge_98 rfl rfl ?_
    obtain ⟨Q2, hc3, h⟩ := h
    refine e_callV (M' := M_X12_leftOf) (as := [.int x1]) (rest := []) dX12_judge_99 ml_X12_390 mk_X12_leftOf (ob_11 hn) rfl rfl rfl (Nat.le_of_ble_eq_true rfl) (show 0 < d by omega) hc3 (Md_le (b := md_X12_judge) (by decide)) (fun v σ4 hq hf => ?_)
    obtain ⟨v5, rfl, hq⟩ := hq
    replace h := h v5 σ4 hq hf
    refine e_if_ge (tgt := 111) dX12_judge_102 (by decide) (fun c8 => ?_) (fun c8 => ?_)
    · replace h := h.1 c8
      refine e_iinc dX12_judge_111 rfl (ii_1 _) rfl (by decide) ?_
      refine e_goto (tgt := 89) dX12_judge_114 (by decide) ?_
      exact h
    · replace h := h.2 c8
      refine e_sipush dX12_judge_105 cs_1000 ?_
      refine e_iload_n dX12_judge_108 rfl rfl ?_
      refine e_iadd dX12_judge_109 ?_
      exact e_iret dX12_judge_110 rfl ⟨_, rfl, h⟩
theorem S_X12_judge {d n : Nat} {Q : Int32 → St → Prop} {σ : St}  (hn : FIX ≤ n) (hd : 1 ≤ d) (h : K_X12_judge_2 d n σ Q σ 0) : Cn d n M_X12_judge md_X12_judge [.ref 11] σ (liI Q) := by
  refine Cn.of (k0 := 1) (by decide) rfl ?_
  show Ev (d, n, md_X12_judge, σ, liI Q) M_X12_judge 0 [some (.ref 11), none] [] σ
  refine e_iconst dX12_judge_0 ci_0 ?_
  refine e_istore_n dX12_judge_1 rfl rfl (by decide) ?_
  exact h
abbrev K_X12_count_88 (d n : Nat) (σ0 : St) (Q : Int32 → St → Prop) (σ : St) (x2 : Int32) (x3 : Int32) : Prop := Ev (d, n, md_X12_count, σ0, liI Q) M_X12_count 88 [some (.ref 11), none, some (.int x2), some (.int x3)] [] σ
abbrev K_X12_count_115 (d n : Nat) (σ0 : St) (Q : Int32 → St → Prop) (σ : St) (x2 : Int32) (x3 : Int32) : Prop := Ev (d, n, md_X12_count, σ0, liI Q) M_X12_count 115 [some (.ref 11), none, some (.int x2), some (.int x3)] [] σ
abbrev K_X12_count_142 (d n : Nat) (σ0 : St) (Q : Int32 → St → Prop) (σ : St) (x2 : Int32) (x3 : Int32) : Prop := Ev (d, n, md_X12_count, σ0, liI Q) M_X12_count 142 [some (.ref 11), none, some (.int x2), some (.int x3)] [] σ
theorem B_X12_count_88 {d n : Nat} {σ0 : St} {Q : Int32 → St → Prop}  {σ : St} {x2 : Int32} {x3 : Int32} (hn : FIX ≤ n) (hd : 1 ≤ d) (h : (((gI σ 11 0) ≤ x3 → Q x2 σ) ∧ (¬ (gI σ 11 0) ≤ x3 → vp_in x3 10 ∧ K_X12_count_88 d n σ0 Q σ (x2 + (gI σ 41 x3.toNatClampNeg)) (x3 + 1)))) : K_X12_count_88 d n σ0 Q σ x2 x3 := by
  refine e_iload_n dX12_count_88 rfl rfl ?_
  refine e_aload_n dX12_count_89 rfl rfl ?_
  refine e_getI dX12_count_90 fl_X12_131 (ob_11 hn) rfl ?_
  refine e_icmp_ge (tgt := 111) dX12_count_93 (by decide) (fun c1 => ?_) (fun c1 => ?_)
  · replace h := h.1 c1
    refine e_iload_n dX12_count_111 rfl rfl ?_
    exact e_iret dX12_count_112 rfl ⟨_, rfl, h⟩
  · replace h := h.2 c1
    refine e_iload_n dX12_count_96 rfl rfl ?_
    refine e_aload_n dX12_count_97 rfl rfl ?_
    refine e_getR (y := 41) dX12_count_98 fl_X12_16 (ob_11 hn) rfl rfl ?_
    refine e_iload_n dX12_count_101 rfl rfl ?_
    refine e_iald dX12_count_102 (ar_41 hn) h.1 ?_
    replace h := h.2
    refine e_iadd dX12_count_103 ?_
    refine e_istore_n dX12_count_104 rfl rfl (by decide) ?_
    refine e_iinc dX12_count_105 rfl (ii_1 _) rfl (by decide) ?_
    refine e_goto (tgt := 88) dX12_count_108 (by decide) ?_
    exact h
theorem B_X12_count_115 {d n : Nat} {σ0 : St} {Q : Int32 → St → Prop}  {σ : St} {x2 : Int32} {x3 : Int32} (hn : FIX ≤ n) (hd : 1 ≤ d) (h : (((gI σ 11 0) ≤ x3 → Q x2 σ) ∧ (¬ (gI σ 11 0) ≤ x3 → vp_in x3 10 ∧ K_X12_count_115 d n σ0 Q σ (x2 + (gI σ 44 x3.toNatClampNeg)) (x3 + 1)))) : K_X12_count_115 d n σ0 Q σ x2 x3 := by
  refine e_iload_n dX12_count_115 rfl rfl ?_
  refine e_aload_n dX12_count_116 rfl rfl ?_
  refine e_getI dX12_count_117 fl_X12_131 (ob_11 hn) rfl ?_
  refine e_icmp_ge (tgt := 138) dX12_count_120 (by decide) (fun c1 => ?_) (fun c1 => ?_)
  · replace h := h.1 c1
    refine e_iload_n dX12_count_138 rfl rfl ?_
    exact e_iret dX12_count_139 rfl ⟨_, rfl, h⟩
  · replace h := h.2 c1
    refine e_iload_n dX12_count_123 rfl rfl ?_
    refine e_aload_n dX12_count_124 rfl rfl ?_
    refine e_getR (y := 44) dX12_count_125 fl_X12_26 (ob_11 hn) rfl rfl ?_
    refine e_iload_n dX12_count_128 rfl rfl ?_
    refine e_iald dX12_count_129 (ar_44 hn) h.1 ?_
    replace h := h.2
    refine e_iadd dX12_count_130 ?_
    refine e_istore_n dX12_count_131 rfl rfl (by decide) ?_
    refine e_iinc dX12_count_132 rfl (ii_1 _) rfl (by decide) ?_
    refine e_goto (tgt := 115) dX12_count_135 (by decide) ?_
    exact h
theorem B_X12_count_142 {d n : Nat} {σ0 : St} {Q : Int32 → St → Prop}  {σ : St} {x2 : Int32} {x3 : Int32} (hn : FIX ≤ n) (hd : 1 ≤ d) (h : (((gI σ 11 1) ≤ x3 → Q x2 σ) ∧ (¬ (gI σ 11 1) ≤ x3 → vp_in x3 8 ∧ K_X12_count_142 d n σ0 Q σ (x2 + (gI σ 47 x3.toNatClampNeg)) (x3 + 1)))) : K_X12_count_142 d n σ0 Q σ x2 x3 := by
  refine e_iload_n dX12_count_142 rfl rfl ?_
  refine e_aload_n dX12_count_143 rfl rfl ?_
  refine e_getI dX12_count_144 fl_X12_138 (ob_11 hn) rfl ?_
  refine e_icmp_ge (tgt := 165) dX12_count_147 (by decide) (fun c1 => ?_) (fun c1 => ?_)
  · replace h := h.1 c1
    refine e_iload_n dX12_count_165 rfl rfl ?_
    exact e_iret dX12_count_166 rfl ⟨_, rfl, h⟩
  · replace h := h.2 c1
    refine e_iload_n dX12_count_150 rfl rfl ?_
    refine e_aload_n dX12_count_151 rfl rfl ?_
    refine e_getR (y := 47) dX12_count_152 fl_X12_35 (ob_11 hn) rfl rfl ?_
    refine e_iload_n dX12_count_155 rfl rfl ?_
    refine e_iald dX12_count_156 (ar_47 hn) h.1 ?_
    replace h := h.2
    refine e_iadd dX12_count_157 ?_
    refine e_istore_n dX12_count_158 rfl rfl (by decide) ?_
    refine e_iinc dX12_count_159 rfl (ii_1 _) rfl (by decide) ?_
    refine e_goto (tgt := 142) dX12_count_162 (by decide) ?_
    exact h
theorem S_X12_count {d n : Nat} {Q : Int32 → St → Prop} {σ : St} {a1 : Int32} (hn : FIX ≤ n) (hd : 1 ≤ d) (h : ((a1.toInt = 0 → Q (gI σ 11 0) σ) ∧ (a1.toInt = 1 → Q (gI σ 11 1) σ) ∧ (a1.toInt = 2 → Q (gI σ 11 2) σ) ∧ (a1.toInt = 3 → Q (gI σ 11 3) σ) ∧ (a1.toInt = 4 → Q (gI σ 11 4) σ) ∧ (a1.toInt = 5 → Q (gI σ 11 14) σ) ∧ (a1.toInt = 6 → K_X12_count_88 d n σ Q σ 0 0) ∧ (a1.toInt = 7 → K_X12_count_115 d n σ Q σ 0 0) ∧ (a1.toInt = 8 → K_X12_count_142 d n σ Q σ 0 0) ∧ (a1.toInt = 9 → Q (fn_X12_one (gI σ 11 21)) σ) ∧ (a1.toInt < 0 ∨ 9 < a1.toInt → Q (-1) σ))) : Cn d n M_X12_count md_X12_count [.ref 11, .int a1] σ (liI Q) := by
  refine Cn.of (k0 := 2) (by decide) rfl ?_
  show Ev (d, n, md_X12_count, σ, liI Q) M_X12_count 0 [some (.ref 11), some (.int a1), none, none] [] σ
  refine e_iconst dX12_count_0 ci_0 ?_
  refine e_istore_n dX12_count_1 rfl rfl (by decide) ?_
  refine e_iload_n dX12_count_2 rfl rfl ?_
  by_cases c1 : a1.toInt < 0 ∨ 9 < a1.toInt
  · refine e_tableOut (tgt := 175) dX12_count_3 c1 (by decide) ?_
    replace h := h.2.2.2.2.2.2.2.2.2.2 c1
    refine e_iconst dX12_count_175 ci_m1 ?_
    exact e_iret dX12_count_176 rfl ⟨_, rfl, h⟩
  · rcases (show a1.toInt = 0 ∨ a1.toInt = 1 ∨ a1.toInt = 2 ∨ a1.toInt = 3 ∨ a1.toInt = 4 ∨ a1.toInt = 5 ∨ a1.toInt = 6 ∨ a1.toInt = 7 ∨ a1.toInt = 8 ∨ a1.toInt = 9 by omega) with c1 | c1 | c1 | c1 | c1 | c1 | c1 | c1 | c1 | c1
    · refine e_tableIn (tgt := 56) (off := 53) dX12_count_3 (by omega) (by omega) (by rw [c1]; rfl) (by decide) ?_
      replace h := h.1 c1
      refine e_aload_n dX12_count_56 rfl rfl ?_
      refine e_getI dX12_count_57 fl_X12_131 (ob_11 hn) rfl ?_
      exact e_iret dX12_count_60 rfl ⟨_, rfl, h⟩
    · refine e_tableIn (tgt := 61) (off := 58) dX12_count_3 (by omega) (by omega) (by rw [c1]; rfl) (by decide) ?_
      replace h := h.2.1 c1
      refine e_aload_n dX12_count_61 rfl rfl ?_
      refine e_getI dX12_count_62 fl_X12_138 (ob_11 hn) rfl ?_
      exact e_iret dX12_count_65 rfl ⟨_, rfl, h⟩
    · refine e_tableIn (tgt := 66) (off := 63) dX12_count_3 (by omega) (by omega) (by rw [c1]; rfl) (by decide) ?_
      replace h := h.2.2.1 c1
      refine e_aload_n dX12_count_66 rfl rfl ?_
      refine e_getI dX12_count_67 fl_X12_145 (ob_11 hn) rfl ?_
      exact e_iret dX12_count_70 rfl ⟨_, rfl, h⟩
    · refine e_tableIn (tgt := 71) (off := 68) dX12_count_3 (by omega) (by omega) (by rw [c1]; rfl) (by decide) ?_
      replace h := h.2.2.2.1 c1
      refine e_aload_n dX12_count_71 rfl rfl ?_
      refine e_getI dX12_count_72 fl_X12_7 (ob_11 hn) rfl ?_
      exact e_iret dX12_count_75 rfl ⟨_, rfl, h⟩
    · refine e_tableIn (tgt := 76) (off := 73) dX12_count_3 (by omega) (by omega) (by rw [c1]; rfl) (by decide) ?_
      replace h := h.2.2.2.2.1 c1
      refine e_aload_n dX12_count_76 rfl rfl ?_
      refine e_getI dX12_count_77 fl_X12_13 (ob_11 hn) rfl ?_
      exact e_iret dX12_count_80 rfl ⟨_, rfl, h⟩
    · refine e_tableIn (tgt := 81) (off := 78) dX12_count_3 (by omega) (by omega) (by rw [c1]; rfl) (by decide) ?_
      replace h := h.2.2.2.2.2.1 c1
      refine e_aload_n dX12_count_81 rfl rfl ?_
      refine e_getI dX12_count_82 fl_X12_154 (ob_11 hn) rfl ?_
      exact e_iret dX12_count_85 rfl ⟨_, rfl, h⟩
    · refine e_tableIn (tgt := 86) (off := 83) dX12_count_3 (by omega) (by omega) (by rw [c1]; rfl) (by decide) ?_
      replace h := h.2.2.2.2.2.2.1 c1
      refine e_iconst dX12_count_86 ci_0 ?_
      refine e_istore_n dX12_count_87 rfl rfl (by decide) ?_
      refine e_kill [true, false, true, true] ?_
      exact h
    · refine e_tableIn (tgt := 113) (off := 110) dX12_count_3 (by omega) (by omega) (by rw [c1]; rfl) (by decide) ?_
      replace h := h.2.2.2.2.2.2.2.1 c1
      refine e_iconst dX12_count_113 ci_0 ?_
      refine e_istore_n dX12_count_114 rfl rfl (by decide) ?_
      refine e_kill [true, false, true, true] ?_
      exact h
    · refine e_tableIn (tgt := 140) (off := 137) dX12_count_3 (by omega) (by omega) (by rw [c1]; rfl) (by decide) ?_
      replace h := h.2.2.2.2.2.2.2.2.1 c1
      refine e_iconst dX12_count_140 ci_0 ?_
      refine e_istore_n dX12_count_141 rfl rfl (by decide) ?_
      refine e_kill [true, false, true, true] ?_
      exact h
    · refine e_tableIn (tgt := 167) (off := 164) dX12_count_3 (by omega) (by omega) (by rw [c1]; rfl) (by decide) ?_
      replace h := h.2.2.2.2.2.2.2.2.2.1 c1
      refine e_aload_n dX12_count_167 rfl rfl ?_
      refine e_getI dX12_count_168 fl_X12_262 (ob_11 hn) rfl ?_
      refine e_callS (M' := M_X12_one) (as := [.int (gI σ 11 21)]) (rest := []) dX12_count_171 ml_X12_293 mk_X12_one rfl (Nat.le_of_ble_eq_true rfl) (show 0 < d by omega) (sp_X12_one) Md_nil (fun v σv hq hf => ?_)
      obtain ⟨v, rfl, rfl, rfl⟩ := hq
      exact e_iret dX12_count_174 rfl ⟨_, rfl, h⟩
