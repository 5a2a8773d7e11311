abbrev K_J7_fill_53178_5 (d n : Nat) (σ0 : St) (Q : St → Prop) (q1 : Nat) (σ : St) (N1 : Nat) (x1 : Int32) (x2 : Int32) (x3 : Int32) : Prop := Ev (d, n, (md_J7_fill_53178 q1), σ0, liV Q) M_J7_fill_53178 5 [some (.ref q1), some (.int x1), some (.int x2), some (.int x3)] [] σ
theorem B_J7_fill_53178_5 {d n : Nat} {σ0 : St} {Q : St → Prop} {q1 : Nat} {σ : St} {N1 : Nat} {x1 : Int32} {x2 : Int32} {x3 : Int32} (ha_q1 : Ar n q1 20 N1) (h : ((x3 ≤ x2 → Q σ) ∧ (¬ x3 ≤ x2 → vp_in x2 N1 ∧ K_J7_fill_53178_5 d n σ0 Q q1 (sI σ q1 x2.toNatClampNeg x1) N1 x1 (x2 + 1) x3))) : K_J7_fill_53178_5 d n σ0 Q q1 σ N1 x1 x2 x3 := by
  refine e_iload_n dJ7_fill_53178_5 rfl rfl ?_
  refine e_iload_n dJ7_fill_53178_6 rfl rfl ?_
  refine e_icmp_ge (tgt := 20) dJ7_fill_53178_7 (by decide) (fun c1 => ?_) (fun c1 => ?_)
  · replace h := h.1 c1
    exact e_vret dJ7_fill_53178_20 rfl ⟨rfl, h⟩
  · replace h := h.2 c1
    refine e_aload_n dJ7_fill_53178_10 rfl rfl ?_
    refine e_iload_n dJ7_fill_53178_11 rfl rfl ?_
    refine e_iload_n dJ7_fill_53178_12 rfl rfl ?_
    refine e_iast dJ7_fill_53178_13 ha_q1 h.1 (show inMd (md_J7_fill_53178 q1) _ _ from Or.inl (by simp [md_J7_fill_53178, mdP])) ?_
    replace h := h.2
    refine e_iinc dJ7_fill_53178_14 rfl (ii_1 _) rfl (by decide) ?_
    refine e_goto (tgt := 5) dJ7_fill_53178_17 (by decide) ?_
    exact h
theorem S_J7_fill_53178 {d n : Nat} {Q : St → Prop} {σ : St} {q1 : Nat} {N1 : Nat} {a2 : Int32} (ha_q1 : Ar n q1 20 N1) (h : K_J7_fill_53178_5 d n σ Q q1 σ N1 a2 0 (Int32.ofNat N1)) : Cn d n M_J7_fill_53178 (md_J7_fill_53178 q1) [.ref q1, .int a2] σ (liV Q) := by
  refine Cn.of (k0 := 2) (by decide) rfl ?_
  show Ev (d, n, (md_J7_fill_53178 q1), σ, liV Q) M_J7_fill_53178 0 [some (.ref q1), some (.int a2), none, none] [] σ
  refine e_iconst dJ7_fill_53178_0 ci_0 ?_
  refine e_istore_n dJ7_fill_53178_1 rfl rfl (by decide) ?_
  refine e_aload_n dJ7_fill_53178_2 rfl rfl ?_
  refine e_alen dJ7_fill_53178_3 ha_q1 rfl ?_
  refine e_istore_n dJ7_fill_53178_4 rfl rfl (by decide) ?_
  exact h
theorem S_X0_addIf {d n : Nat} {Q : St → Prop} {σ : St} {a1 : Int32} {a2 : Int32} (hn : FIX ≤ n) (hd : 1 ≤ d) (h : ((a1 = 0 → Q σ) ∧ (¬ a1 = 0 → Q (sI σ 2 1 (mxI (-1000000) (mnI 1000000 ((gI σ 2 1) + a2))))))) : Cn d n M_X0_addIf md_X0_addIf [.ref 2, .int a1, .int a2] σ (liV Q) := by
  refine Cn.of (k0 := 0) (by decide) rfl ?_
  show Ev (d, n, md_X0_addIf, σ, liV Q) M_X0_addIf 0 [some (.ref 2), some (.int a1), some (.int a2)] [] σ
  refine e_iload_n dX0_addIf_0 rfl rfl ?_
  refine e_if_eq (tgt := 24) dX0_addIf_1 (by decide) (fun c1 => ?_) (fun c1 => ?_)
  · replace h := h.1 c1
    exact e_vret dX0_addIf_24 rfl ⟨rfl, h⟩
  · replace h := h.2 c1
    refine e_aload_n dX0_addIf_4 rfl rfl ?_
    refine e_ldc dX0_addIf_5 ck_X0_112 ?_
    refine e_ldc dX0_addIf_7 ck_X0_113 ?_
    refine e_aload_n dX0_addIf_9 rfl rfl ?_
    refine e_getI dX0_addIf_10 fl_X0_30 (ob_2 hn) rfl ?_
    refine e_iload_n dX0_addIf_13 rfl rfl ?_
    refine e_iadd dX0_addIf_14 ?_
    refine e_mmin (st := [.int (-1000000), .ref 2]) dX0_addIf_15 ml_X0_114 (Nat.le_of_ble_eq_true rfl) (show 0 < d by omega) ?_
    refine e_mmax (st := [.ref 2]) dX0_addIf_18 ml_X0_89 (Nat.le_of_ble_eq_true rfl) (show 0 < d by omega) ?_
    refine e_putI dX0_addIf_21 fl_X0_30 (ob_2 hn) rfl (fpI_0_1 _) (md_c (m := md_X0_addIf) (by decide)) ?_
    exact e_vret dX0_addIf_24 rfl ⟨rfl, h⟩
theorem S_X0_push {d n : Nat} {Q : St → Prop} {σ : St} {a1 : Int32} (hn : FIX ≤ n) (h : (((gI σ 2 4) < 64 → vp_in (gI σ 2 4) 64 ∧ Q (sI (sI σ 17 (gI σ 2 4).toNatClampNeg a1) 2 4 ((gI (sI σ 17 (gI σ 2 4).toNatClampNeg a1) 2 4) + 1))) ∧ (¬ (gI σ 2 4) < 64 → Q σ))) : Cn d n M_X0_push md_X0_push [.ref 2, .int a1] σ (liV Q) := by
  refine Cn.of (k0 := 0) (by decide) rfl ?_
  show Ev (d, n, md_X0_push, σ, liV Q) M_X0_push 0 [some (.ref 2), some (.int a1)] [] σ
  refine e_aload_n dX0_push_0 rfl rfl ?_
  refine e_getI dX0_push_1 fl_X0_33 (ob_2 hn) rfl ?_
  refine e_bipush dX0_push_4 cb_64 ?_
  refine e_icmp_lt (tgt := 10) dX0_push_6 (by decide) (fun c1 => ?_) (fun c1 => ?_)
  · replace h := h.1 c1
    refine e_aload_n dX0_push_10 rfl rfl ?_
    refine e_getR (y := 17) dX0_push_11 fl_X0_11 (ob_2 hn) rfl rfl ?_
    refine e_aload_n dX0_push_14 rfl rfl ?_
    refine e_getI dX0_push_15 fl_X0_33 (ob_2 hn) rfl ?_
    refine e_iload_n dX0_push_18 rfl rfl ?_
    refine e_iast dX0_push_19 (ar_17 hn) h.1 (md_r (m := md_X0_push) (by decide)) ?_
    replace h := h.2
    refine e_aload_n dX0_push_20 rfl rfl ?_
    refine e_dup dX0_push_21 rfl ?_
    refine e_getI dX0_push_22 fl_X0_33 (ob_2 hn) rfl ?_
    refine e_iconst dX0_push_25 ci_1 ?_
    refine e_iadd dX0_push_26 ?_
    refine e_putI dX0_push_27 fl_X0_33 (ob_2 hn) rfl (fpI_0_4 _) (md_c (m := md_X0_push) (by decide)) ?_
    exact e_vret dX0_push_30 rfl ⟨rfl, h⟩
  · replace h := h.2 c1
    exact e_vret dX0_push_9 rfl ⟨rfl, h⟩
theorem S_X0_joinTwo {d n : Nat} {Q : St → Prop} {σ : St} {a1 : Int32} {a2 : Int32} {a3 : Int32} (hn : FIX ≤ n) (hd : 1 ≤ d) (h : ((a1.toInt = 5 → ∃ Q8 : St → Prop, Cn (d - 1) n M_X0_push md_X0_push [.ref 2, .int ((mxL (-1000000000) (mnL 1000000000 ((a3 &&& a2).toInt64))).toInt32)] σ (liV Q8) ∧ ∀ (σ10 : St), Q8 σ10 → Fr md_X0_push σ σ10 → Q σ10) ∧ (a1.toInt = 42 → ∃ Q14 : St → Prop, Cn (d - 1) n M_X0_push md_X0_push [.ref 2, .int ((mxL (-1000000000) (mnL 1000000000 (a3.toInt64 * a2.toInt64))).toInt32)] σ (liV Q14) ∧ ∀ (σ16 : St), Q14 σ16 → Fr md_X0_push σ σ16 → Q σ16) ∧ (a1.toInt = 43 → ∃ Q20 : St → Prop, Cn (d - 1) n M_X0_push md_X0_push [.ref 2, .int ((mxL (-1000000000) (mnL 1000000000 (a3.toInt64 + a2.toInt64))).toInt32)] σ (liV Q20) ∧ ∀ (σ22 : St), Q20 σ22 → Fr md_X0_push σ σ22 → Q σ22) ∧ (a1.toInt = 45 → ∃ Q26 : St → Prop, Cn (d - 1) n M_X0_push md_X0_push [.ref 2, .int ((mxL (-1000000000) (mnL 1000000000 (a3.toInt64 - a2.toInt64))).toInt32)] σ (liV Q26) ∧ ∀ (σ28 : St), Q26 σ28 → Fr md_X0_push σ σ28 → Q σ28) ∧ (a1.toInt = 47 → ((a2 ≠ 0 → (¬ a2 = 0) ∧ ∃ Q33 : St → Prop, Cn (d - 1) n M_X0_push md_X0_push [.ref 2, .int ((mxL (-1000000000) (mnL 1000000000 ((a3 / a2).toInt64))).toInt32)] σ (liV Q33) ∧ ∀ (σ35 : St), Q33 σ35 → Fr md_X0_push σ σ35 → Q σ35) ∧ (a2 = 0 → ∃ Q39 : St → Prop, Cn (d - 1) n M_X0_push md_X0_push [.ref 2, .int ((mxL (-1000000000) (mnL 1000000000 0)).toInt32)] σ (liV Q39) ∧ ∀ (σ41 : St), Q39 σ41 → Fr md_X0_push σ σ41 → Q σ41))) ∧ (a1.toInt = 60 → ((a2 ≤ a3 → ∃ Q46 : St → Prop, Cn (d - 1) n M_X0_push md_X0_push [.ref 2, .int ((mxL (-1000000000) (mnL 1000000000 0)).toInt32)] σ (liV Q46) ∧ ∀ (σ48 : St), Q46 σ48 → Fr md_X0_push σ σ48 → Q σ48) ∧ (¬ a2 ≤ a3 → ∃ Q52 : St → Prop, Cn (d - 1) n M_X0_push md_X0_push [.ref 2, .int ((mxL (-1000000000) (mnL 1000000000 1)).toInt32)] σ (liV Q52) ∧ ∀ (σ54 : St), Q52 σ54 → Fr md_X0_push σ σ54 → Q σ54))) ∧ (a1.toInt = 61 → ((a3 ≠ a2 → ∃ Q59 : St → Prop, Cn (d - 1) n M_X0_push md_X0_push [.ref 2, .int ((mxL (-1000000000) (mnL 1000000000 0)).toInt32)] σ (liV Q59) ∧ ∀ (σ61 : St), Q59 σ61 → Fr md_X0_push σ σ61 → Q σ61) ∧ (a3 = a2 → ∃ Q65 : St → Prop, Cn (d - 1) n M_X0_push md_X0_push [.ref 2, .int ((mxL (-1000000000) (mnL 1000000000 1)).toInt32)] σ (liV Q65) ∧ ∀ (σ67 : St), Q65 σ67 → Fr md_X0_push σ σ67 → Q σ67))) ∧ (a1.toInt = 62 → ((a3 ≤ a2 → ∃ Q72 : St → Prop, Cn (d - 1) n M_X0_push md_X0_push [.ref 2, .int ((mxL (-1000000000) (mnL 1000000000 0)).toInt32)] σ (liV Q72) ∧ ∀ (σ74 : St), Q72 σ74 → Fr md_X0_push σ σ74 → Q σ74) ∧ (¬ a3 ≤ a2 → ∃ Q78 : St → Prop, Cn (d - 1) n M_X0_push md_X0_push [.ref 2, .int ((mxL (-1000000000) (mnL 1000000000 1)).toInt32)] σ (liV Q78) ∧ ∀ (σ80 : St), Q78 σ80 → Fr md_X0_push σ σ80 → Q σ80))) ∧ (a1.toInt ≠ 5 ∧ a1.toInt ≠ 42 ∧ a1.toInt ≠ 43 ∧ a1.toInt ≠ 45 ∧ a1.toInt ≠ 47 ∧ a1.toInt ≠ 60 ∧ a1.toInt ≠ 61 ∧ a1.toInt ≠ 62 → ∃ Q2 : St → Prop, Cn (d - 1) n M_X0_push md_X0_push [.ref 2, .int ((mxL (-1000000000) (mnL 1000000000 ((a3 ||| a2).toInt64))).toInt32)] σ (liV Q2) ∧ ∀ (σ4 : St), Q2 σ4 → Fr md_X0_push σ σ4 → Q σ4))) : Cn d n M_X0_joinTwo md_X0_joinTwo [.ref 2, .int a1, .int a2, .int a3] σ (liV Q) := by
  refine Cn.of (k0 := 2) (by decide) rfl ?_
  show Ev (d, n, md_X0_joinTwo, σ, liV Q) M_X0_joinTwo 0 [some (.ref 2), some (.int a1), some (.int a2), some (.int a3), none, none] [] σ
  refine e_iload_n dX0_joinTwo_0 rfl rfl ?_
  by_cases c1_0 : a1.toInt = 5
  · refine e_lookup (tgt := 168) (off := 167) dX0_joinTwo_1 (by decide) (by rw [c1_0]; decide) (by decide) ?_
    replace h := h.1 c1_0
    refine e_iload_n dX0_joinTwo_168 rfl rfl ?_
    refine e_iload_n dX0_joinTwo_169 rfl rfl ?_
    refine e_iand dX0_joinTwo_170 ?_
    refine e_i2l dX0_joinTwo_171 ?_
    refine e_lstore dX0_joinTwo_172 rfl (by decide) ?_
    refine e_goto (tgt := 183) dX0_joinTwo_174 (by decide) ?_
    refine e_aload_n dX0_joinTwo_183 rfl rfl ?_
    refine e_ldc2 dX0_joinTwo_184 ck_X0_117 ?_
    refine e_ldc2 dX0_joinTwo_187 ck_X0_119 ?_
    refine e_lload dX0_joinTwo_190 rfl ?_
    refine e_mminL (st := [.long (-1000000000), .ref 2]) dX0_joinTwo_192 ml_X0_121 (Nat.le_of_ble_eq_true rfl) (show 0 < d by omega) ?_
    refine e_mmaxL (st := [.ref 2]) dX0_joinTwo_195 ml_X0_124 (Nat.le_of_ble_eq_true rfl) (show 0 < d by omega) ?_
    refine e_l2i dX0_joinTwo_198 ?_
    obtain ⟨Q8, hc9, h⟩ := h
    refine e_callV (M' := M_X0_push) (as := [.int ((mxL (-1000000000) (mnL 1000000000 ((a3 &&& a2).toInt64))).toInt32)]) (rest := []) dX0_joinTwo_199 ml_X0_46 mk_X0_push (ob_2 hn) rfl rfl rfl (Nat.le_of_ble_eq_true rfl) (show 0 < d by omega) hc9 (Md_le (b := md_X0_joinTwo) (by decide)) (fun v σ10 hq hf => ?_)
    obtain ⟨rfl, hq⟩ := hq
    replace h := h σ10 hq hf
    exact e_vret dX0_joinTwo_202 rfl ⟨rfl, h⟩
  by_cases c1_1 : a1.toInt = 42
  · refine e_lookup (tgt := 96) (off := 95) dX0_joinTwo_1 (by decide) (by rw [c1_1]; decide) (by decide) ?_
    replace h := h.2.1 c1_1
    refine e_iload_n dX0_joinTwo_96 rfl rfl ?_
    refine e_i2l dX0_joinTwo_97 ?_
    refine e_iload_n dX0_joinTwo_98 rfl rfl ?_
    refine e_i2l dX0_joinTwo_99 ?_
    refine e_lmul dX0_joinTwo_100 ?_
    refine e_lstore dX0_joinTwo_101 rfl (by decide) ?_
    refine e_goto (tgt := 183) dX0_joinTwo_103 (by decide) ?_
    refine e_aload_n dX0_joinTwo_183 rfl rfl ?_
    refine e_ldc2 dX0_joinTwo_184 ck_X0_117 ?_
    refine e_ldc2 dX0_joinTwo_187 ck_X0_119 ?_
    refine e_lload dX0_joinTwo_190 rfl ?_
    refine e_mminL (st := [.long (-1000000000), .ref 2]) dX0_joinTwo_192 ml_X0_121 (Nat.le_of_ble_eq_true rfl) (show 0 < d by omega) ?_
    refine e_mmaxL (st := [.ref 2]) dX0_joinTwo_195 ml_X0_124 (Nat.le_of_ble_eq_true rfl) (show 0 < d by omega) ?_
    refine e_l2i dX0_joinTwo_198 ?_
    obtain ⟨Q14, hc15, h⟩ := h
    refine e_callV (M' := M_X0_push) (as := [.int ((mxL (-1000000000) (mnL 1000000000 (a3.toInt64 * a2.toInt64))).toInt32)]) (rest := []) dX0_joinTwo_199 ml_X0_46 mk_X0_push (ob_2 hn) rfl rfl rfl (Nat.le_of_ble_eq_true rfl) (show 0 < d by omega) hc15 (Md_le (b := md_X0_joinTwo) (by decide)) (fun v σ16 hq hf => ?_)
    obtain ⟨rfl, hq⟩ := hq
    replace h := h σ16 hq hf
    exact e_vret dX0_joinTwo_202 rfl ⟨rfl, h⟩
  by_cases c1_2 : a1.toInt = 43
  · refine e_lookup (tgt := 76) (off := 75) dX0_joinTwo_1 (by decide) (by rw [c1_2]; decide) (by decide) ?_
    replace h := h.2.2.1 c1_2
    refine e_iload_n dX0_joinTwo_76 rfl rfl ?_
    refine e_i2l dX0_joinTwo_77 ?_
    refine e_iload_n dX0_joinTwo_78 rfl rfl ?_
    refine e_i2l dX0_joinTwo_79 ?_
    refine e_ladd dX0_joinTwo_80 ?_
    refine e_lstore dX0_joinTwo_81 rfl (by decide) ?_
    refine e_goto (tgt := 183) dX0_joinTwo_83 (by decide) ?_
    refine e_aload_n dX0_joinTwo_183 rfl rfl ?_
    refine e_ldc2 dX0_joinTwo_184 ck_X0_117 ?_
    refine e_ldc2 dX0_joinTwo_187 ck_X0_119 ?_
    refine e_lload dX0_joinTwo_190 rfl ?_
    refine e_mminL (st := [.long (-1000000000), .ref 2]) dX0_joinTwo_192 ml_X0_121 (Nat.le_of_ble_eq_true rfl) (show 0 < d by omega) ?_
    refine e_mmaxL (st := [.ref 2]) dX0_joinTwo_195 ml_X0_124 (Nat.le_of_ble_eq_true rfl) (show 0 < d by omega) ?_
    refine e_l2i dX0_joinTwo_198 ?_
    obtain ⟨Q20, hc21, h⟩ := h
    refine e_callV (M' := M_X0_push) (as := [.int ((mxL (-1000000000) (mnL 1000000000 (a3.toInt64 + a2.toInt64))).toInt32)]) (rest := []) dX0_joinTwo_199 ml_X0_46 mk_X0_push (ob_2 hn) rfl rfl rfl (Nat.le_of_ble_eq_true rfl) (show 0 < d by omega) hc21 (Md_le (b := md_X0_joinTwo) (by decide)) (fun v σ22 hq hf => ?_)
    obtain ⟨rfl, hq⟩ := hq
    replace h := h σ22 hq hf
    exact e_vret dX0_joinTwo_202 rfl ⟨rfl, h⟩
  by_cases c1_3 : a1.toInt = 45
  · refine e_lookup (tgt := 86) (off := 85) dX0_joinTwo_1 (by decide) (by rw [c1_3]; decide) (by decide) ?_
    replace h := h.2.2.2.1 c1_3
    refine e_iload_n dX0_joinTwo_86 rfl rfl ?_
    refine e_i2l dX0_joinTwo_87 ?_
    refine e_iload_n dX0_joinTwo_88 rfl rfl ?_
    refine e_i2l dX0_joinTwo_89 ?_
    refine e_lsub dX0_joinTwo_90 ?_
    refine e_lstore dX0_joinTwo_91 rfl (by decide) ?_
    refine e_goto (tgt := 183) dX0_joinTwo_93 (by decide) ?_
    refine e_aload_n dX0_joinTwo_183 rfl rfl ?_
    refine e_ldc2 dX0_joinTwo_184 ck_X0_117 ?_
    refine e_ldc2 dX0_joinTwo_187 ck_X0_119 ?_
    refine e_lload dX0_joinTwo_190 rfl ?_
    refine e_mminL (st := [.long (-1000000000), .ref 2]) dX0_joinTwo_192 ml_X0_121 (Nat.le_of_ble_eq_true rfl) (show 0 < d by omega) ?_
    refine e_mmaxL (st := [.ref 2]) dX0_joinTwo_195 ml_X0_124 (Nat.le_of_ble_eq_true rfl) (show 0 < d by omega) ?_
    refine e_l2i dX0_joinTwo_198 ?_
    obtain ⟨Q26, hc27, h⟩ := h
    refine e_callV (M' := M_X0_push) (as := [.int ((mxL (-1000000000) (mnL 1000000000 (a3.toInt64 - a2.toInt64))).toInt32)]) (rest := []) dX0_joinTwo_199 ml_X0_46 mk_X0_push (ob_2 hn) rfl rfl rfl (Nat.le_of_ble_eq_true rfl) (show 0 < d by omega) hc27 (Md_le (b := md_X0_joinTwo) (by decide)) (fun v σ28 hq hf => ?_)
    obtain ⟨rfl, hq⟩ := hq
    replace h := h σ28 hq hf
    exact e_vret dX0_joinTwo_202 rfl ⟨rfl, h⟩
  by_cases c1_4 : a1.toInt = 47
  · refine e_lookup (tgt := 106) (off := 105) dX0_joinTwo_1 (by decide) (by rw [c1_4]; decide) (by decide) ?_
    replace h := h.2.2.2.2.1 c1_4
    refine e_iload_n dX0_joinTwo_106 rfl rfl ?_
    refine e_if_ne (tgt := 114) dX0_joinTwo_107 (by decide) (fun c32 => ?_) (fun c32 => ?_)
    · replace h := h.1 c32
      refine e_iload_n dX0_joinTwo_114 rfl rfl ?_
      refine e_iload_n dX0_joinTwo_115 rfl rfl ?_
      refine e_idiv dX0_joinTwo_116 h.1 ?_
      replace h := h.2
      refine e_i2l dX0_joinTwo_117 ?_
      refine e_lstore dX0_joinTwo_118 rfl (by decide) ?_
      refine e_goto (tgt := 183) dX0_joinTwo_120 (by decide) ?_
      refine e_aload_n dX0_joinTwo_183 rfl rfl ?_
      refine e_ldc2 dX0_joinTwo_184 ck_X0_117 ?_
      refine e_ldc2 dX0_joinTwo_187 ck_X0_119 ?_
      refine e_lload dX0_joinTwo_190 rfl ?_
      refine e_mminL (st := [.long (-1000000000), .ref 2]) dX0_joinTwo_192 ml_X0_121 (Nat.le_of_ble_eq_true rfl) (show 0 < d by omega) ?_
      refine e_mmaxL (st := [.ref 2]) dX0_joinTwo_195 ml_X0_124 (Nat.le_of_ble_eq_true rfl) (show 0 < d by omega) ?_
      refine e_l2i dX0_joinTwo_198 ?_
      obtain ⟨Q33, hc34, h⟩ := h
      refine e_callV (M' := M_X0_push) (as := [.int ((mxL (-1000000000) (mnL 1000000000 ((a3 / a2).toInt64))).toInt32)]) (rest := []) dX0_joinTwo_199 ml_X0_46 mk_X0_push (ob_2 hn) rfl rfl rfl (Nat.le_of_ble_eq_true rfl) (show 0 < d by omega) hc34 (Md_le (b := md_X0_joinTwo) (by decide)) (fun v σ35 hq hf => ?_)
      obtain ⟨rfl, hq⟩ := hq
      replace h := h σ35 hq hf
      exact e_vret dX0_joinTwo_202 rfl ⟨rfl, h⟩
    · replace h := h.2 c32
      refine e_lconst dX0_joinTwo_110 (v := 0) rfl ?_
      refine e_goto (tgt := 118) dX0_joinTwo_111 (by decide) ?_
      refine e_lstore dX0_joinTwo_118 rfl (by decide) ?_
      refine e_goto (tgt := 183) dX0_joinTwo_120 (by decide) ?_
      refine e_aload_n dX0_joinTwo_183 rfl rfl ?_
      refine e_ldc2 dX0_joinTwo_184 ck_X0_117 ?_
      refine e_ldc2 dX0_joinTwo_187 ck_X0_119 ?_
      refine e_lload dX0_joinTwo_190 rfl ?_
      refine e_mminL (st := [.long (-1000000000), .ref 2]) dX0_joinTwo_192 ml_X0_121 (Nat.le_of_ble_eq_true rfl) (show 0 < d by omega) ?_
      refine e_mmaxL (st := [.ref 2]) dX0_joinTwo_195 ml_X0_124 (Nat.le_of_ble_eq_true rfl) (show 0 < d by omega) ?_
      refine e_l2i dX0_joinTwo_198 ?_
      obtain ⟨Q39, hc40, h⟩ := h
      refine e_callV (M' := M_X0_push) (as := [.int ((mxL (-1000000000) (mnL 1000000000 0)).toInt32)]) (rest := []) dX0_joinTwo_199 ml_X0_46 mk_X0_push (ob_2 hn) rfl rfl rfl (Nat.le_of_ble_eq_true rfl) (show 0 < d by omega) hc40 (Md_le (b := md_X0_joinTwo) (by decide)) (fun v σ41 hq hf => ?_)
      obtain ⟨rfl, hq⟩ := hq
      replace h := h σ41 hq hf
      exact e_vret dX0_joinTwo_202 rfl ⟨rfl, h⟩
  by_cases c1_5 : a1.toInt = 60
  · refine e_lookup (tgt := 123) (off := 122) dX0_joinTwo_1 (by decide) (by rw [c1_5]; decide) (by decide) ?_
    replace h := h.2.2.2.2.2.1 c1_5
    refine e_iload_n dX0_joinTwo_123 rfl rfl ?_
    refine e_iload_n dX0_joinTwo_124 rfl rfl ?_
    refine e_icmp_ge (tgt := 132) dX0_joinTwo_125 (by decide) (fun c45 => ?_) (fun c45 => ?_)
    · replace h := h.1 c45
      refine e_lconst dX0_joinTwo_132 (v := 0) rfl ?_
      refine e_lstore dX0_joinTwo_133 rfl (by decide) ?_
      refine e_goto (tgt := 183) dX0_joinTwo_135 (by decide) ?_
      refine e_aload_n dX0_joinTwo_183 rfl rfl ?_
      refine e_ldc2 dX0_joinTwo_184 ck_X0_117 ?_
      refine e_ldc2 dX0_joinTwo_187 ck_X0_119 ?_
      refine e_lload dX0_joinTwo_190 rfl ?_
      refine e_mminL (st := [.long (-1000000000), .ref 2]) dX0_joinTwo_192 ml_X0_121 (Nat.le_of_ble_eq_true rfl) (show 0 < d by omega) ?_
      refine e_mmaxL (st := [.ref 2]) dX0_joinTwo_195 ml_X0_124 (Nat.le_of_ble_eq_true rfl) (show 0 < d by omega) ?_
      refine e_l2i dX0_joinTwo_198 ?_
      obtain ⟨Q46, hc47, h⟩ := h
      refine e_callV (M' := M_X0_push) (as := [.int ((mxL (-1000000000) (mnL 1000000000 0)).toInt32)]) (rest := []) dX0_joinTwo_199 ml_X0_46 mk_X0_push (ob_2 hn) rfl rfl rfl (Nat.le_of_ble_eq_true rfl) (show 0 < d by omega) hc47 (Md_le (b := md_X0_joinTwo) (by decide)) (fun v σ48 hq hf => ?_)
      obtain ⟨rfl, hq⟩ := hq
      replace h := h σ48 hq hf
      exact e_vret dX0_joinTwo_202 rfl ⟨rfl, h⟩
    · replace h := h.2 c45
      refine e_lconst dX0_joinTwo_128 (v := 1) rfl ?_
      refine e_goto (tgt := 133) dX0_joinTwo_129 (by decide) ?_
      refine e_lstore dX0_joinTwo_133 rfl (by decide) ?_
      refine e_goto (tgt := 183) dX0_joinTwo_135 (by decide) ?_
      refine e_aload_n dX0_joinTwo_183 rfl rfl ?_
      refine e_ldc2 dX0_joinTwo_184 ck_X0_117 ?_
      refine e_ldc2 dX0_joinTwo_187 ck_X0_119 ?_
      refine e_lload dX0_joinTwo_190 rfl ?_
      refine e_mminL (st := [.long (-1000000000), .ref 2]) dX0_joinTwo_192 ml_X0_121 (Nat.le_of_ble_eq_true rfl) (show 0 < d by omega) ?_
      refine e_mmaxL (st := [.ref 2]) dX0_joinTwo_195 ml_X0_124 (Nat.le_of_ble_eq_true rfl) (show 0 < d by omega) ?_
      refine e_l2i dX0_joinTwo_198 ?_
      obtain ⟨Q52, hc53, h⟩ := h
      refine e_callV (M' := M_X0_push) (as := [.int ((mxL (-1000000000) (mnL 1000000000 1)).toInt32)]) (rest := []) dX0_joinTwo_199 ml_X0_46 mk_X0_push (ob_2 hn) rfl rfl rfl (Nat.le_of_ble_eq_true rfl) (show 0 < d by omega) hc53 (Md_le (b := md_X0_joinTwo) (by decide)) (fun v σ54 hq hf => ?_)
      obtain ⟨rfl, hq⟩ := hq
      replace h := h σ54 hq hf
      exact e_vret dX0_joinTwo_202 rfl ⟨rfl, h⟩
  by_cases c1_6 : a1.toInt = 61
  · refine e_lookup (tgt := 153) (off := 152) dX0_joinTwo_1 (by decide) (by rw [c1_6]; decide) (by decide) ?_
    replace h := h.2.2.2.2.2.2.1 c1_6
    refine e_iload_n dX0_joinTwo_153 rfl rfl ?_
    refine e_iload_n dX0_joinTwo_154 rfl rfl ?_
    refine e_icmp_ne (tgt := 162) dX0_joinTwo_155 (by decide) (fun c58 => ?_) (fun c58 => ?_)
    · replace h := h.1 c58
      refine e_lconst dX0_joinTwo_162 (v := 0) rfl ?_
      refine e_lstore dX0_joinTwo_163 rfl (by decide) ?_
      refine e_goto (tgt := 183) dX0_joinTwo_165 (by decide) ?_
      refine e_aload_n dX0_joinTwo_183 rfl rfl ?_
      refine e_ldc2 dX0_joinTwo_184 ck_X0_117 ?_
      refine e_ldc2 dX0_joinTwo_187 ck_X0_119 ?_
      refine e_lload dX0_joinTwo_190 rfl ?_
      refine e_mminL (st := [.long (-1000000000), .ref 2]) dX0_joinTwo_192 ml_X0_121 (Nat.le_of_ble_eq_true rfl) (show 0 < d by omega) ?_
      refine e_mmaxL (st := [.ref 2]) dX0_joinTwo_195 ml_X0_124 (Nat.le_of_ble_eq_true rfl) (show 0 < d by omega) ?_
      refine e_l2i dX0_joinTwo_198 ?_
      obtain ⟨Q59, hc60, h⟩ := h
      refine e_callV (M' := M_X0_push) (as := [.int ((mxL (-1000000000) (mnL 1000000000 0)).toInt32)]) (rest := []) dX0_joinTwo_199 ml_X0_46 mk_X0_push (ob_2 hn) rfl rfl rfl (Nat.le_of_ble_eq_true rfl) (show 0 < d by omega) hc60 (Md_le (b := md_X0_joinTwo) (by decide)) (fun v σ61 hq hf => ?_)
      obtain ⟨rfl, hq⟩ := hq
      replace h := h σ61 hq hf
      exact e_vret dX0_joinTwo_202 rfl ⟨rfl, h⟩
    · replace h := h.2 c58
      refine e_lconst dX0_joinTwo_158 (v := 1) rfl ?_
      refine e_goto (tgt := 163) dX0_joinTwo_159 (by decide) ?_
      refine e_lstore dX0_joinTwo_163 rfl (by decide) ?_
      refine e_goto (tgt := 183) dX0_joinTwo_165 (by decide) ?_
      refine e_aload_n dX0_joinTwo_183 rfl rfl ?_
      refine e_ldc2 dX0_joinTwo_184 ck_X0_117 ?_
      refine e_ldc2 dX0_joinTwo_187 ck_X0_119 ?_
      refine e_lload dX0_joinTwo_190 rfl ?_
      refine e_mminL (st := [.long (-1000000000), .ref 2]) dX0_joinTwo_192 ml_X0_121 (Nat.le_of_ble_eq_true rfl) (show 0 < d by omega) ?_
      refine e_mmaxL (st := [.ref 2]) dX0_joinTwo_195 ml_X0_124 (Nat.le_of_ble_eq_true rfl) (show 0 < d by omega) ?_
      refine e_l2i dX0_joinTwo_198 ?_
      obtain ⟨Q65, hc66, h⟩ := h
      refine e_callV (M' := M_X0_push) (as := [.int ((mxL (-1000000000) (mnL 1000000000 1)).toInt32)]) (rest := []) dX0_joinTwo_199 ml_X0_46 mk_X0_push (ob_2 hn) rfl rfl rfl (Nat.le_of_ble_eq_true rfl) (show 0 < d by omega) hc66 (Md_le (b := md_X0_joinTwo) (by decide)) (fun v σ67 hq hf => ?_)
      obtain ⟨rfl, hq⟩ := hq
      replace h := h σ67 hq hf
      exact e_vret dX0_joinTwo_202 rfl ⟨rfl, h⟩
  by_cases c1_7 : a1.toInt = 62
  · refine e_lookup (tgt := 138) (off := 137) dX0_joinTwo_1 (by decide) (by rw [c1_7]; decide) (by decide) ?_
    replace h := h.2.2.2.2.2.2.2.1 c1_7
    refine e_iload_n dX0_joinTwo_138 rfl rfl ?_
    refine e_iload_n dX0_joinTwo_139 rfl rfl ?_
    refine e_icmp_le (tgt := 147) dX0_joinTwo_140 (by decide) (fun c71 => ?_) (fun c71 => ?_)
    · replace h := h.1 c71
      refine e_lconst dX0_joinTwo_147 (v := 0) rfl ?_
      refine e_lstore dX0_joinTwo_148 rfl (by decide) ?_
      refine e_goto (tgt := 183) dX0_joinTwo_150 (by decide) ?_
      refine e_aload_n dX0_joinTwo_183 rfl rfl ?_
      refine e_ldc2 dX0_joinTwo_184 ck_X0_117 ?_
      refine e_ldc2 dX0_joinTwo_187 ck_X0_119 ?_
      refine e_lload dX0_joinTwo_190 rfl ?_
      refine e_mminL (st := [.long (-1000000000), .ref 2]) dX0_joinTwo_192 ml_X0_121 (Nat.le_of_ble_eq_true rfl) (show 0 < d by omega) ?_
      refine e_mmaxL (st := [.ref 2]) dX0_joinTwo_195 ml_X0_124 (Nat.le_of_ble_eq_true rfl) (show 0 < d by omega) ?_
      refine e_l2i dX0_joinTwo_198 ?_
      obtain ⟨Q72, hc73, h⟩ := h
      refine e_callV (M' := M_X0_push) (as := [.int ((mxL (-1000000000) (mnL 1000000000 0)).toInt32)]) (rest := []) dX0_joinTwo_199 ml_X0_46 mk_X0_push (ob_2 hn) rfl rfl rfl (Nat.le_of_ble_eq_true rfl) (show 0 < d by omega) hc73 (Md_le (b := md_X0_joinTwo) (by decide)) (fun v σ74 hq hf => ?_)
      obtain ⟨rfl, hq⟩ := hq
      replace h := h σ74 hq hf
      exact e_vret dX0_joinTwo_202 rfl ⟨rfl, h⟩
    · replace h := h.2 c71
      refine e_lconst dX0_joinTwo_143 (v := 1) rfl ?_
      refine e_goto (tgt := 148) dX0_joinTwo_144 (by decide) ?_
      refine e_lstore dX0_joinTwo_148 rfl (by decide) ?_
      refine e_goto (tgt := 183) dX0_joinTwo_150 (by decide) ?_
      refine e_aload_n dX0_joinTwo_183 rfl rfl ?_
      refine e_ldc2 dX0_joinTwo_184 ck_X0_117 ?_
      refine e_ldc2 dX0_joinTwo_187 ck_X0_119 ?_
      refine e_lload dX0_joinTwo_190 rfl ?_
      refine e_mminL (st := [.long (-1000000000), .ref 2]) dX0_joinTwo_192 ml_X0_121 (Nat.le_of_ble_eq_true rfl) (show 0 < d by omega) ?_
      refine e_mmaxL (st := [.ref 2]) dX0_joinTwo_195 ml_X0_124 (Nat.le_of_ble_eq_true rfl) (show 0 < d by omega) ?_
      refine e_l2i dX0_joinTwo_198 ?_
      obtain ⟨Q78, hc79, h⟩ := h
      refine e_callV (M' := M_X0_push) (as := [.int ((mxL (-1000000000) (mnL 1000000000 1)).toInt32)]) (rest := []) dX0_joinTwo_199 ml_X0_46 mk_X0_push (ob_2 hn) rfl rfl rfl (Nat.le_of_ble_eq_true rfl) (show 0 < d by omega) hc79 (Md_le (b := md_X0_joinTwo) (by decide)) (fun v σ80 hq hf => ?_)
      obtain ⟨rfl, hq⟩ := hq
      replace h := h σ80 hq hf
      exact e_vret dX0_joinTwo_202 rfl ⟨rfl, h⟩
  refine e_lookup (tgt := 177) (off := 176) dX0_joinTwo_1 (by decide) (by simp [Op.lookupswitch.offset, Ne.symm c1_0, Ne.symm c1_1, Ne.symm c1_2, Ne.symm c1_3, Ne.symm c1_4, Ne.symm c1_5, Ne.symm c1_6, Ne.symm c1_7]) (by decide) ?_
  replace h := h.2.2.2.2.2.2.2.2 ⟨c1_0, c1_1, c1_2, c1_3, c1_4, c1_5, c1_6, c1_7⟩
  refine e_iload_n dX0_joinTwo_177 rfl rfl ?_
  refine e_iload_n dX0_joinTwo_178 rfl rfl ?_
  refine e_ior dX0_joinTwo_179 ?_
  refine e_i2l dX0_joinTwo_180 ?_
  refine e_lstore dX0_joinTwo_181 rfl (by decide) ?_
  refine e_aload_n dX0_joinTwo_183 rfl rfl ?_
  refine e_ldc2 dX0_joinTwo_184 ck_X0_117 ?_
  refine e_ldc2 dX0_joinTwo_187 ck_X0_119 ?_
  refine e_lload dX0_joinTwo_190 rfl ?_
  refine e_mminL (st := [.long (-1000000000), .ref 2]) dX0_joinTwo_192 ml_X0_121 (Nat.le_of_ble_eq_true rfl) (show 0 < d by omega) ?_
  refine e_mmaxL (st := [.ref 2]) dX0_joinTwo_195 ml_X0_124 (Nat.le_of_ble_eq_true rfl) (show 0 < d by omega) ?_
  refine e_l2i dX0_joinTwo_198 ?_
  obtain ⟨Q2, hc3, h⟩ := h
  refine e_callV (M' := M_X0_push) (as := [.int ((mxL (-1000000000) (mnL 1000000000 ((a3 ||| a2).toInt64))).toInt32)]) (rest := []) dX0_joinTwo_199 ml_X0_46 mk_X0_push (ob_2 hn) rfl rfl rfl (Nat.le_of_ble_eq_true rfl) (show 0 < d by omega) hc3 (Md_le (b := md_X0_joinTwo) (by decide)) (fun v σ4 hq hf => ?_)
  obtain ⟨rfl, hq⟩ := hq
  replace h := h σ4 hq hf
  exact e_vret dX0_joinTwo_202 rfl ⟨rfl, h⟩
theorem S_X0_pop {d n : Nat} {Q : Int32 → St → Prop} {σ : St}  (hn : FIX ≤ n) (h : (((0 : Int32) < (gI σ 2 4) → vp_in (gI (sI σ 2 4 ((gI σ 2 4) - 1)) 2 4) 64 ∧ Q (gI (sI σ 2 4 ((gI σ 2 4) - 1)) 17 (gI (sI σ 2 4 ((gI σ 2 4) - 1)) 2 4).toNatClampNeg) (sI σ 2 4 ((gI σ 2 4) - 1))) ∧ (¬ (0 : Int32) < (gI σ 2 4) → Q 0 σ))) : Cn d n M_X0_pop md_X0_pop [.ref 2] σ (liI Q) := by
  refine Cn.of (k0 := 0) (by decide) rfl ?_
  show Ev (d, n, md_X0_pop, σ, liI Q) M_X0_pop 0 [some (.ref 2)] [] σ
  refine e_aload_n dX0_pop_0 rfl rfl ?_
  refine e_getI dX0_pop_1 fl_X0_33 (ob_2 hn) rfl ?_
  refine e_if_gt (tgt := 9) dX0_pop_4 (by decide) (fun c1 => ?_) (fun c1 => ?_)
  · replace h := h.1 c1
    refine e_aload_n dX0_pop_9 rfl rfl ?_
    refine e_dup dX0_pop_10 rfl ?_
    refine e_getI dX0_pop_11 fl_X0_33 (ob_2 hn) rfl ?_
    refine e_iconst dX0_pop_14 ci_1 ?_
    refine e_isub dX0_pop_15 ?_
    refine e_putI dX0_pop_16 fl_X0_33 (ob_2 hn) rfl (fpI_0_4 _) (md_c (m := md_X0_pop) (by decide)) ?_
    refine e_aload_n dX0_pop_19 rfl rfl ?_
    refine e_getR (y := 17) dX0_pop_20 fl_X0_11 (ob_2 hn) rfl rfl ?_
    refine e_aload_n dX0_pop_23 rfl rfl ?_
    refine e_getI dX0_pop_24 fl_X0_33 (ob_2 hn) rfl ?_
    refine e_iald dX0_pop_27 (ar_17 hn) h.1 ?_
    replace h := h.2
    exact e_iret dX0_pop_28 rfl ⟨_, rfl, h⟩
  · replace h := h.2 c1
    refine e_iconst dX0_pop_7 ci_0 ?_
    exact e_iret dX0_pop_8 rfl ⟨_, rfl, h⟩
theorem S_X0_apply {d n : Nat} {Q : St → Prop} {σ : St} {a1 : Int32} (hn : FIX ≤ n) (hd : 1 ≤ d) (h : ((a1.toInt = 1 → ∃ Q20 : Int32 → St → Prop, Cn (d - 1) n M_X0_pop md_X0_pop [.ref 2] σ (liI Q20) ∧ ∀ (v23 : Int32) (σ22 : St), Q20 v23 σ22 → Fr md_X0_pop σ σ22 → ((v23 = 0 → ∃ Q27 : Int32 → St → Prop, Cn (d - 1) n M_X0_pop md_X0_pop [.ref 2] σ22 (liI Q27) ∧ ∀ (v30 : Int32) (σ29 : St), Q27 v30 σ29 → Fr md_X0_pop σ22 σ29 → ∃ Q33 : St → Prop, Cn (d - 1) n M_X0_addIf md_X0_addIf [.ref 2, .int 0, .int v30] σ29 (liV Q33) ∧ ∀ (σ35 : St), Q33 σ35 → Fr md_X0_addIf σ29 σ35 → Q σ35) ∧ (¬ v23 = 0 → ∃ Q39 : Int32 → St → Prop, Cn (d - 1) n M_X0_pop md_X0_pop [.ref 2] σ22 (liI Q39) ∧ ∀ (v42 : Int32) (σ41 : St), Q39 v42 σ41 → Fr md_X0_pop σ22 σ41 → ∃ Q45 : St → Prop, Cn (d - 1) n M_X0_addIf md_X0_addIf [.ref 2, .int 1, .int v42] σ41 (liV Q45) ∧ ∀ (σ47 : St), Q45 σ47 → Fr md_X0_addIf σ41 σ47 → Q σ47))) ∧ (a1.toInt = 2 → ∃ Q51 : Int32 → St → Prop, Cn (d - 1) n M_X0_pop md_X0_pop [.ref 2] σ (liI Q51) ∧ ∀ (v54 : Int32) (σ53 : St), Q51 v54 σ53 → Fr md_X0_pop σ σ53 → ((v54 = 0 → Q σ53) ∧ (¬ v54 = 0 → Q (sI σ53 2 5 1)))) ∧ (a1.toInt = 3 → ∃ Q58 : Int32 → St → Prop, Cn (d - 1) n M_X0_pop md_X0_pop [.ref 2] σ (liI Q58) ∧ ∀ (v61 : Int32) (σ60 : St), Q58 v61 σ60 → Fr md_X0_pop σ σ60 → ∃ Q64 : Int32 → St → Prop, Cn (d - 1) n M_X0_pop md_X0_pop [.ref 2] σ60 (liI Q64) ∧ ∀ (v67 : Int32) (σ66 : St), Q64 v67 σ66 → Fr md_X0_pop σ60 σ66 → ∃ Q70 : St → Prop, Cn (d - 1) n M_X0_joinTwo md_X0_joinTwo [.ref 2, .int a1, .int v61, .int v67] σ66 (liV Q70) ∧ ∀ (σ72 : St), Q70 σ72 → Fr md_X0_joinTwo σ66 σ72 → Q σ72) ∧ (a1.toInt = 4 → ∃ Q76 : Int32 → St → Prop, Cn (d - 1) n M_X0_pop md_X0_pop [.ref 2] σ (liI Q76) ∧ ∀ (v79 : Int32) (σ78 : St), Q76 v79 σ78 → Fr md_X0_pop σ σ78 → ∃ Q82 : Int32 → St → Prop, Cn (d - 1) n M_X0_pop md_X0_pop [.ref 2] σ78 (liI Q82) ∧ ∀ (v85 : Int32) (σ84 : St), Q82 v85 σ84 → Fr md_X0_pop σ78 σ84 → ∃ Q88 : St → Prop, Cn (d - 1) n M_X0_joinTwo md_X0_joinTwo [.ref 2, .int a1, .int v79, .int v85] σ84 (liV Q88) ∧ ∀ (σ90 : St), Q88 σ90 → Fr md_X0_joinTwo σ84 σ90 → Q σ90) ∧ (a1.toInt = 5 → ∃ Q94 : Int32 → St → Prop, Cn (d - 1) n M_X0_pop md_X0_pop [.ref 2] σ (liI Q94) ∧ ∀ (v97 : Int32) (σ96 : St), Q94 v97 σ96 → Fr md_X0_pop σ σ96 → ∃ Q100 : Int32 → St → Prop, Cn (d - 1) n M_X0_pop md_X0_pop [.ref 2] σ96 (liI Q100) ∧ ∀ (v103 : Int32) (σ102 : St), Q100 v103 σ102 → Fr md_X0_pop σ96 σ102 → ∃ Q106 : St → Prop, Cn (d - 1) n M_X0_joinTwo md_X0_joinTwo [.ref 2, .int a1, .int v97, .int v103] σ102 (liV Q106) ∧ ∀ (σ108 : St), Q106 σ108 → Fr md_X0_joinTwo σ102 σ108 → Q σ108) ∧ (a1.toInt = 6 → ∃ Q112 : Int32 → St → Prop, Cn (d - 1) n M_X0_pop md_X0_pop [.ref 2] σ (liI Q112) ∧ ∀ (v115 : Int32) (σ114 : St), Q112 v115 σ114 → Fr md_X0_pop σ σ114 → ∃ Q118 : St → Prop, Cn (d - 1) n M_X0_push md_X0_push [.ref 2, .int (1 - v115)] σ114 (liV Q118) ∧ ∀ (σ120 : St), Q118 σ120 → Fr md_X0_push σ114 σ120 → Q σ120) ∧ (a1.toInt = 7 → ∃ Q124 : Int32 → St → Prop, Cn (d - 1) n M_X0_pop md_X0_pop [.ref 2] σ (liI Q124) ∧ ∀ (v127 : Int32) (σ126 : St), Q124 v127 σ126 → Fr md_X0_pop σ σ126 → (((fn_X11_contains (gI σ 2 6) v127) = 0 → ∃ Q131 : St → Prop, Cn (d - 1) n M_X0_push md_X0_push [.ref 2, .int 0] σ126 (liV Q131) ∧ ∀ (σ133 : St), Q131 σ133 → Fr md_X0_push σ126 σ133 → Q σ133) ∧ (¬ (fn_X11_contains (gI σ 2 6) v127) = 0 → ∃ Q137 : St → Prop, Cn (d - 1) n M_X0_push md_X0_push [.ref 2, .int 1] σ126 (liV Q137) ∧ ∀ (σ139 : St), Q137 σ139 → Fr md_X0_push σ126 σ139 → Q σ139))) ∧ (a1.toInt = 8 → ∃ Q143 : St → Prop, Cn (d - 1) n M_X0_push md_X0_push [.ref 2, .int (fn_J6_bitCount_0f7a4 (gI σ 2 6))] σ (liV Q143) ∧ ∀ (σ145 : St), Q143 σ145 → Fr md_X0_push σ σ145 → Q σ145) ∧ (a1.toInt = 9 → ∃ Q149 : St → Prop, Cn (d - 1) n M_X0_push md_X0_push [.ref 2, .int (gI σ 2 8)] σ (liV Q149) ∧ ∀ (σ151 : St), Q149 σ151 → Fr md_X0_push σ σ151 → Q σ151) ∧ (a1.toInt = 10 → ∃ Q155 : St → Prop, Cn (d - 1) n M_X0_push md_X0_push [.ref 2, .int (gI σ 2 9)] σ (liV Q155) ∧ ∀ (σ157 : St), Q155 σ157 → Fr md_X0_push σ σ157 → Q σ157) ∧ (a1.toInt = 11 → ∃ Q161 : St → Prop, Cn (d - 1) n M_X0_push md_X0_push [.ref 2, .int (gI σ 2 10)] σ (liV Q161) ∧ ∀ (σ163 : St), Q161 σ163 → Fr md_X0_push σ σ163 → Q σ163) ∧ (a1.toInt = 12 → ∃ Q167 : St → Prop, Cn (d - 1) n M_X0_push md_X0_push [.ref 2, .int (((gI σ 2 10) - (gI σ 2 9)) - (gI σ 2 8))] σ (liV Q167) ∧ ∀ (σ169 : St), Q167 σ169 → Fr md_X0_push σ σ169 → Q σ169) ∧ (a1.toInt = 13 → ∃ Q173 : St → Prop, Cn (d - 1) n M_X0_push md_X0_push [.ref 2, .int (gI σ 2 7)] σ (liV Q173) ∧ ∀ (σ175 : St), Q173 σ175 → Fr md_X0_push σ σ175 → Q σ175) ∧ (a1.toInt < 1 ∨ 13 < a1.toInt → ∃ Q2 : Int32 → St → Prop, Cn (d - 1) n M_X0_pop md_X0_pop [.ref 2] σ (liI Q2) ∧ ∀ (v5 : Int32) (σ4 : St), Q2 v5 σ4 → Fr md_X0_pop σ σ4 → ∃ Q8 : Int32 → St → Prop, Cn (d - 1) n M_X0_pop md_X0_pop [.ref 2] σ4 (liI Q8) ∧ ∀ (v11 : Int32) (σ10 : St), Q8 v11 σ10 → Fr md_X0_pop σ4 σ10 → ∃ Q14 : St → Prop, Cn (d - 1) n M_X0_joinTwo md_X0_joinTwo [.ref 2, .int a1, .int v5, .int v11] σ10 (liV Q14) ∧ ∀ (σ16 : St), Q14 σ16 → Fr md_X0_joinTwo σ10 σ16 → Q σ16))) : Cn d n M_X0_apply md_X0_apply [.ref 2, .int a1] σ (liV Q) := by
  refine Cn.of (k0 := 0) (by decide) rfl ?_
  show Ev (d, n, md_X0_apply, σ, liV Q) M_X0_apply 0 [some (.ref 2), some (.int a1)] [] σ
  refine e_iload_n dX0_apply_0 rfl rfl ?_
  by_cases c1 : a1.toInt < 1 ∨ 13 < a1.toInt
  · refine e_tableOut (tgt := 224) dX0_apply_1 c1 (by decide) ?_
    replace h := h.2.2.2.2.2.2.2.2.2.2.2.2.2 c1
    refine e_aload_n dX0_apply_224 rfl rfl ?_
    refine e_iload_n dX0_apply_225 rfl rfl ?_
    refine e_aload_n dX0_apply_226 rfl rfl ?_
    obtain ⟨Q2, hc3, h⟩ := h
    refine e_callV (M' := M_X0_pop) (as := []) (rest := [.int a1, .ref 2]) dX0_apply_227 ml_X0_94 mk_X0_pop (ob_2 hn) rfl rfl rfl (Nat.le_of_ble_eq_true rfl) (show 0 < d by omega) hc3 (Md_le (b := md_X0_apply) (by decide)) (fun v σ4 hq hf => ?_)
    obtain ⟨v5, rfl, hq⟩ := hq
    replace h := h v5 σ4 hq hf
    refine e_aload_n dX0_apply_230 rfl rfl ?_
    obtain ⟨Q8, hc9, h⟩ := h
    refine e_callV (M' := M_X0_pop) (as := []) (rest := [.int v5, .int a1, .ref 2]) dX0_apply_231 ml_X0_94 mk_X0_pop (ob_2 hn) rfl rfl rfl (Nat.le_of_ble_eq_true rfl) (show 0 < d by omega) hc9 (Md_le (b := md_X0_apply) (by decide)) (fun v σ10 hq hf => ?_)
    obtain ⟨v11, rfl, hq⟩ := hq
    replace h := h v11 σ10 hq hf
    obtain ⟨Q14, hc15, h⟩ := h
    refine e_callV (M' := M_X0_joinTwo) (as := [.int a1, .int v5, .int v11]) (rest := []) dX0_apply_234 ml_X0_108 mk_X0_joinTwo (ob_2 hn) rfl rfl rfl (Nat.le_of_ble_eq_true rfl) (show 0 < d by omega) hc15 (Md_le (b := md_X0_apply) (by decide)) (fun v σ16 hq hf => ?_)
    obtain ⟨rfl, hq⟩ := hq
    replace h := h σ16 hq hf
    exact e_vret dX0_apply_237 rfl ⟨rfl, h⟩
  · rcases (show a1.toInt = 1 ∨ a1.toInt = 2 ∨ a1.toInt = 3 ∨ a1.toInt = 4 ∨ a1.toInt = 5 ∨ a1.toInt = 6 ∨ a1.toInt = 7 ∨ a1.toInt = 8 ∨ a1.toInt = 9 ∨ a1.toInt = 10 ∨ a1.toInt = 11 ∨ a1.toInt = 12 ∨ a1.toInt = 13 by omega) with c1 | c1 | c1 | c1 | c1 | c1 | c1 | c1 | c1 | c1 | c1 | c1 | c1
    · refine e_tableIn (tgt := 68) (off := 67) dX0_apply_1 (by omega) (by omega) (by rw [c1]; rfl) (by decide) ?_
      replace h := h.1 c1
      refine e_aload_n dX0_apply_68 rfl rfl ?_
      refine e_aload_n dX0_apply_69 rfl rfl ?_
      obtain ⟨Q20, hc21, h⟩ := h
      refine e_callV (M' := M_X0_pop) (as := []) (rest := [.ref 2]) dX0_apply_70 ml_X0_94 mk_X0_pop (ob_2 hn) rfl rfl rfl (Nat.le_of_ble_eq_true rfl) (show 0 < d by omega) hc21 (Md_le (b := md_X0_apply) (by decide)) (fun v σ22 hq hf => ?_)
      obtain ⟨v23, rfl, hq⟩ := hq
      replace h := h v23 σ22 hq hf
      refine e_if_eq (tgt := 80) dX0_apply_73 (by decide) (fun c26 => ?_) (fun c26 => ?_)
      · replace h := h.1 c26
        refine e_iconst dX0_apply_80 ci_0 ?_
        refine e_aload_n dX0_apply_81 rfl rfl ?_
        obtain ⟨Q27, hc28, h⟩ := h
        refine e_callV (M' := M_X0_pop) (as := []) (rest := [.int 0, .ref 2]) dX0_apply_82 ml_X0_94 mk_X0_pop (ob_2 hn) rfl rfl rfl (Nat.le_of_ble_eq_true rfl) (show 0 < d by omega) hc28 (Md_le (b := md_X0_apply) (by decide)) (fun v σ29 hq hf => ?_)
        obtain ⟨v30, rfl, hq⟩ := hq
        replace h := h v30 σ29 hq hf
        obtain ⟨Q33, hc34, h⟩ := h
        refine e_callV (M' := M_X0_addIf) (as := [.int 0, .int v30]) (rest := []) dX0_apply_85 ml_X0_98 mk_X0_addIf (ob_2 hn) rfl rfl rfl (Nat.le_of_ble_eq_true rfl) (show 0 < d by omega) hc34 (Md_le (b := md_X0_apply) (by decide)) (fun v σ35 hq hf => ?_)
        obtain ⟨rfl, hq⟩ := hq
        replace h := h σ35 hq hf
        refine e_goto (tgt := 237) dX0_apply_88 (by decide) ?_
        exact e_vret dX0_apply_237 rfl ⟨rfl, h⟩
      · replace h := h.2 c26
        refine e_iconst dX0_apply_76 ci_1 ?_
        refine e_goto (tgt := 81) dX0_apply_77 (by decide) ?_
        refine e_aload_n dX0_apply_81 rfl rfl ?_
        obtain ⟨Q39, hc40, h⟩ := h
        refine e_callV (M' := M_X0_pop) (as := []) (rest := [.int 1, .ref 2]) dX0_apply_82 ml_X0_94 mk_X0_pop (ob_2 hn) rfl rfl rfl (Nat.le_of_ble_eq_true rfl) (show 0 < d by omega) hc40 (Md_le (b := md_X0_apply) (by decide)) (fun v σ41 hq hf => ?_)
        obtain ⟨v42, rfl, hq⟩ := hq
        replace h := h v42 σ41 hq hf
        obtain ⟨Q45, hc46, h⟩ := h
        refine e_callV (M' := M_X0_addIf) (as := [.int 1, .int v42]) (rest := []) dX0_apply_85 ml_X0_98 mk_X0_addIf (ob_2 hn) rfl rfl rfl (Nat.le_of_ble_eq_true rfl) (show 0 < d by omega) hc46 (Md_le (b := md_X0_apply) (by decide)) (fun v σ47 hq hf => ?_)
        obtain ⟨rfl, hq⟩ := hq
        replace h := h σ47 hq hf
        refine e_goto (tgt := 237) dX0_apply_88 (by decide) ?_
        exact e_vret dX0_apply_237 rfl ⟨rfl, h⟩
    · refine e_tableIn (tgt := 91) (off := 90) dX0_apply_1 (by omega) (by omega) (by rw [c1]; rfl) (by decide) ?_
      replace h := h.2.1 c1
      refine e_aload_n dX0_apply_91 rfl rfl ?_
      obtain ⟨Q51, hc52, h⟩ := h
      refine e_callV (M' := M_X0_pop) (as := []) (rest := []) dX0_apply_92 ml_X0_94 mk_X0_pop (ob_2 hn) rfl rfl rfl (Nat.le_of_ble_eq_true rfl) (show 0 < d by omega) hc52 (Md_le (b := md_X0_apply) (by decide)) (fun v σ53 hq hf => ?_)
      obtain ⟨v54, rfl, hq⟩ := hq
      replace h := h v54 σ53 hq hf
      refine e_if_eq (tgt := 237) dX0_apply_95 (by decide) (fun c57 => ?_) (fun c57 => ?_)
      · replace h := h.1 c57
        exact e_vret dX0_apply_237 rfl ⟨rfl, h⟩
      · replace h := h.2 c57
        refine e_aload_n dX0_apply_98 rfl rfl ?_
        refine e_iconst dX0_apply_99 ci_1 ?_
        refine e_putI dX0_apply_100 fl_X0_36 (ob_2 hn) rfl (fpZ_0_5 (Or.inr rfl)) (md_c (m := md_X0_apply) (by decide)) ?_
        refine e_goto (tgt := 237) dX0_apply_103 (by decide) ?_
        exact e_vret dX0_apply_237 rfl ⟨rfl, h⟩
    · refine e_tableIn (tgt := 224) (off := 223) dX0_apply_1 (by omega) (by omega) (by rw [c1]; rfl) (by decide) ?_
      replace h := h.2.2.1 c1
      refine e_aload_n dX0_apply_224 rfl rfl ?_
      refine e_iload_n dX0_apply_225 rfl rfl ?_
      refine e_aload_n dX0_apply_226 rfl rfl ?_
      obtain ⟨Q58, hc59, h⟩ := h
      refine e_callV (M' := M_X0_pop) (as := []) (rest := [.int a1, .ref 2]) dX0_apply_227 ml_X0_94 mk_X0_pop (ob_2 hn) rfl rfl rfl (Nat.le_of_ble_eq_true rfl) (show 0 < d by omega) hc59 (Md_le (b := md_X0_apply) (by decide)) (fun v σ60 hq hf => ?_)
      obtain ⟨v61, rfl, hq⟩ := hq
      replace h := h v61 σ60 hq hf
      refine e_aload_n dX0_apply_230 rfl rfl ?_
      obtain ⟨Q64, hc65, h⟩ := h
      refine e_callV (M' := M_X0_pop) (as := []) (rest := [.int v61, .int a1, .ref 2]) dX0_apply_231 ml_X0_94 mk_X0_pop (ob_2 hn) rfl rfl rfl (Nat.le_of_ble_eq_true rfl) (show 0 < d by omega) hc65 (Md_le (b := md_X0_apply) (by decide)) (fun v σ66 hq hf => ?_)
      obtain ⟨v67, rfl, hq⟩ := hq
      replace h := h v67 σ66 hq hf
      obtain ⟨Q70, hc71, h⟩ := h
      refine e_callV (M' := M_X0_joinTwo) (as := [.int a1, .int v61, .int v67]) (rest := []) dX0_apply_234 ml_X0_108 mk_X0_joinTwo (ob_2 hn) rfl rfl rfl (Nat.le_of_ble_eq_true rfl) (show 0 < d by omega) hc71 (Md_le (b := md_X0_apply) (by decide)) (fun v σ72 hq hf => ?_)
      obtain ⟨rfl, hq⟩ := hq
      replace h := h σ72 hq hf
      exact e_vret dX0_apply_237 rfl ⟨rfl, h⟩
    · refine e_tableIn (tgt := 224) (off := 223) dX0_apply_1 (by omega) (by omega) (by rw [c1]; rfl) (by decide) ?_
      replace h := h.2.2.2.1 c1
      refine e_aload_n dX0_apply_224 rfl rfl ?_
      refine e_iload_n dX0_apply_225 rfl rfl ?_
      refine e_aload_n dX0_apply_226 rfl rfl ?_
      obtain ⟨Q76, hc77, h⟩ := h
      refine e_callV (M' := M_X0_pop) (as := []) (rest := [.int a1, .ref 2]) dX0_apply_227 ml_X0_94 mk_X0_pop (ob_2 hn) rfl rfl rfl (Nat.le_of_ble_eq_true rfl) (show 0 < d by omega) hc77 (Md_le (b := md_X0_apply) (by decide)) (fun v σ78 hq hf => ?_)
      obtain ⟨v79, rfl, hq⟩ := hq
      replace h := h v79 σ78 hq hf
      refine e_aload_n dX0_apply_230 rfl rfl ?_
      obtain ⟨Q82, hc83, h⟩ := h
      refine e_callV (M' := M_X0_pop) (as := []) (rest := [.int v79, .int a1, .ref 2]) dX0_apply_231 ml_X0_94 mk_X0_pop (ob_2 hn) rfl rfl rfl (Nat.le_of_ble_eq_true rfl) (show 0 < d by omega) hc83 (Md_le (b := md_X0_apply) (by decide)) (fun v σ84 hq hf => ?_)
      obtain ⟨v85, rfl, hq⟩ := hq
      replace h := h v85 σ84 hq hf
      obtain ⟨Q88, hc89, h⟩ := h
      refine e_callV (M' := M_X0_joinTwo) (as := [.int a1, .int v79, .int v85]) (rest := []) dX0_apply_234 ml_X0_108 mk_X0_joinTwo (ob_2 hn) rfl rfl rfl (Nat.le_of_ble_eq_true rfl) (show 0 < d by omega) hc89 (Md_le (b := md_X0_apply) (by decide)) (fun v σ90 hq hf => ?_)
      obtain ⟨rfl, hq⟩ := hq
      replace h := h σ90 hq hf
      exact e_vret dX0_apply_237 rfl ⟨rfl, h⟩
    · refine e_tableIn (tgt := 224) (off := 223) dX0_apply_1 (by omega) (by omega) (by rw [c1]; rfl) (by decide) ?_
      replace h := h.2.2.2.2.1 c1
      refine e_aload_n dX0_apply_224 rfl rfl ?_
      refine e_iload_n dX0_apply_225 rfl rfl ?_
      refine e_aload_n dX0_apply_226 rfl rfl ?_
      obtain ⟨Q94, hc95, h⟩ := h
      refine e_callV (M' := M_X0_pop) (as := []) (rest := [.int a1, .ref 2]) dX0_apply_227 ml_X0_94 mk_X0_pop (ob_2 hn) rfl rfl rfl (Nat.le_of_ble_eq_true rfl) (show 0 < d by omega) hc95 (Md_le (b := md_X0_apply) (by decide)) (fun v σ96 hq hf => ?_)
      obtain ⟨v97, rfl, hq⟩ := hq
      replace h := h v97 σ96 hq hf
      refine e_aload_n dX0_apply_230 rfl rfl ?_
      obtain ⟨Q100, hc101, h⟩ := h
      refine e_callV (M' := M_X0_pop) (as := []) (rest := [.int v97, .int a1, .ref 2]) dX0_apply_231 ml_X0_94 mk_X0_pop (ob_2 hn) rfl rfl rfl (Nat.le_of_ble_eq_true rfl) (show 0 < d by omega) hc101 (Md_le (b := md_X0_apply) (by decide)) (fun v σ102 hq hf => ?_)
      obtain ⟨v103, rfl, hq⟩ := hq
      replace h := h v103 σ102 hq hf
      obtain ⟨Q106, hc107, h⟩ := h
      refine e_callV (M' := M_X0_joinTwo) (as := [.int a1, .int v97, .int v103]) (rest := []) dX0_apply_234 ml_X0_108 mk_X0_joinTwo (ob_2 hn) rfl rfl rfl (Nat.le_of_ble_eq_true rfl) (show 0 < d by omega) hc107 (Md_le (b := md_X0_apply) (by decide)) (fun v σ108 hq hf => ?_)
      obtain ⟨rfl, hq⟩ := hq
      replace h := h σ108 hq hf
      exact e_vret dX0_apply_237 rfl ⟨rfl, h⟩
    · refine e_tableIn (tgt := 132) (off := 131) dX0_apply_1 (by omega) (by omega) (by rw [c1]; rfl) (by decide) ?_
      replace h := h.2.2.2.2.2.1 c1
      refine e_aload_n dX0_apply_132 rfl rfl ?_
      refine e_iconst dX0_apply_133 ci_1 ?_
      refine e_aload_n dX0_apply_134 rfl rfl ?_
      obtain ⟨Q112, hc113, h⟩ := h
      refine e_callV (M' := M_X0_pop) (as := []) (rest := [.int 1, .ref 2]) dX0_apply_135 ml_X0_94 mk_X0_pop (ob_2 hn) rfl rfl rfl (Nat.le_of_ble_eq_true rfl) (show 0 < d by omega) hc113 (Md_le (b := md_X0_apply) (by decide)) (fun v σ114 hq hf => ?_)
      obtain ⟨v115, rfl, hq⟩ := hq
      replace h := h v115 σ114 hq hf
      refine e_isub dX0_apply_138 ?_
      obtain ⟨Q118, hc119, h⟩ := h
      refine e_callV (M' := M_X0_push) (as := [.int (1 - v115)]) (rest := []) dX0_apply_139 ml_X0_46 mk_X0_push (ob_2 hn) rfl rfl rfl (Nat.le_of_ble_eq_true rfl) (show 0 < d by omega) hc119 (Md_le (b := md_X0_apply) (by decide)) (fun v σ120 hq hf => ?_)
      obtain ⟨rfl, hq⟩ := hq
      replace h := h σ120 hq hf
      refine e_goto (tgt := 237) dX0_apply_142 (by decide) ?_
      exact e_vret dX0_apply_237 rfl ⟨rfl, h⟩
    · refine e_tableIn (tgt := 106) (off := 105) dX0_apply_1 (by omega) (by omega) (by rw [c1]; rfl) (by decide) ?_
      replace h := h.2.2.2.2.2.2.1 c1
      refine e_aload_n dX0_apply_106 rfl rfl ?_
      refine e_aload_n dX0_apply_107 rfl rfl ?_
      refine e_getI dX0_apply_108 fl_X0_64 (ob_2 hn) rfl ?_
      refine e_aload_n dX0_apply_111 rfl rfl ?_
      obtain ⟨Q124, hc125, h⟩ := h
      refine e_callV (M' := M_X0_pop) (as := []) (rest := [.int (gI σ 2 6), .ref 2]) dX0_apply_112 ml_X0_94 mk_X0_pop (ob_2 hn) rfl rfl rfl (Nat.le_of_ble_eq_true rfl) (show 0 < d by omega) hc125 (Md_le (b := md_X0_apply) (by decide)) (fun v σ126 hq hf => ?_)
      obtain ⟨v127, rfl, hq⟩ := hq
      replace h := h v127 σ126 hq hf
      refine e_callN (M' := M_X11_contains) (as := [.int (gI σ 2 6), .int v127]) (rest := [.ref 2]) dX0_apply_115 nl_X0_79 mk_X11_contains rfl (Nat.le_of_ble_eq_true rfl) (show 0 < d by omega) (sp_X11_contains) Md_nil (fun v σv hq hf => ?_)
      obtain ⟨v, rfl, rfl, rfl⟩ := hq
      refine e_if_eq (tgt := 125) dX0_apply_118 (by decide) (fun c130 => ?_) (fun c130 => ?_)
      · replace h := h.1 c130
        refine e_iconst dX0_apply_125 ci_0 ?_
        obtain ⟨Q131, hc132, h⟩ := h
        refine e_callV (M' := M_X0_push) (as := [.int 0]) (rest := []) dX0_apply_126 ml_X0_46 mk_X0_push (ob_2 hn) rfl rfl rfl (Nat.le_of_ble_eq_true rfl) (show 0 < d by omega) hc132 (Md_le (b := md_X0_apply) (by decide)) (fun v σ133 hq hf => ?_)
        obtain ⟨rfl, hq⟩ := hq
        replace h := h σ133 hq hf
        refine e_goto (tgt := 237) dX0_apply_129 (by decide) ?_
        exact e_vret dX0_apply_237 rfl ⟨rfl, h⟩
      · replace h := h.2 c130
        refine e_iconst dX0_apply_121 ci_1 ?_
        refine e_goto (tgt := 126) dX0_apply_122 (by decide) ?_
        obtain ⟨Q137, hc138, h⟩ := h
        refine e_callV (M' := M_X0_push) (as := [.int 1]) (rest := []) dX0_apply_126 ml_X0_46 mk_X0_push (ob_2 hn) rfl rfl rfl (Nat.le_of_ble_eq_true rfl) (show 0 < d by omega) hc138 (Md_le (b := md_X0_apply) (by decide)) (fun v σ139 hq hf => ?_)
        obtain ⟨rfl, hq⟩ := hq
        replace h := h σ139 hq hf
        refine e_goto (tgt := 237) dX0_apply_129 (by decide) ?_
        exact e_vret dX0_apply_237 rfl ⟨rfl, h⟩
    · refine e_tableIn (tgt := 145) (off := 144) dX0_apply_1 (by omega) (by omega) (by rw [c1]; rfl) (by decide) ?_
      replace h := h.2.2.2.2.2.2.2.1 c1
      refine e_aload_n dX0_apply_145 rfl rfl ?_
      refine e_aload_n dX0_apply_146 rfl rfl ?_
      refine e_getI dX0_apply_147 fl_X0_64 (ob_2 hn) rfl ?_
      refine e_callS (M' := M_J6_bitCount_0f7a4) (as := [.int (gI σ 2 6)]) (rest := [.ref 2]) dX0_apply_150 ml_X0_102 mk_J6_bitCount_0f7a4 rfl (Nat.le_of_ble_eq_true rfl) (show 0 < d by omega) (sp_J6_bitCount_0f7a4) Md_nil (fun v σv hq hf => ?_)
      obtain ⟨v, rfl, rfl, rfl⟩ := hq
      obtain ⟨Q143, hc144, h⟩ := h
      refine e_callV (M' := M_X0_push) (as := [.int (fn_J6_bitCount_0f7a4 (gI σ 2 6))]) (rest := []) dX0_apply_153 ml_X0_46 mk_X0_push (ob_2 hn) rfl rfl rfl (Nat.le_of_ble_eq_true rfl) (show 0 < d by omega) hc144 (Md_le (b := md_X0_apply) (by decide)) (fun v σ145 hq hf => ?_)
      obtain ⟨rfl, hq⟩ := hq
      replace h := h σ145 hq hf
      refine e_goto (tgt := 237) dX0_apply_156 (by decide) ?_
      exact e_vret dX0_apply_237 rfl ⟨rfl, h⟩
    · refine e_tableIn (tgt := 159) (off := 158) dX0_apply_1 (by omega) (by omega) (by rw [c1]; rfl) (by decide) ?_
      replace h := h.2.2.2.2.2.2.2.2.1 c1
      refine e_aload_n dX0_apply_159 rfl rfl ?_
      refine e_aload_n dX0_apply_160 rfl rfl ?_
      refine e_getI dX0_apply_161 fl_X0_67 (ob_2 hn) rfl ?_
      obtain ⟨Q149, hc150, h⟩ := h
      refine e_callV (M' := M_X0_push) (as := [.int (gI σ 2 8)]) (rest := []) dX0_apply_164 ml_X0_46 mk_X0_push (ob_2 hn) rfl rfl rfl (Nat.le_of_ble_eq_true rfl) (show 0 < d by omega) hc150 (Md_le (b := md_X0_apply) (by decide)) (fun v σ151 hq hf => ?_)
      obtain ⟨rfl, hq⟩ := hq
      replace h := h σ151 hq hf
      refine e_goto (tgt := 237) dX0_apply_167 (by decide) ?_
      exact e_vret dX0_apply_237 rfl ⟨rfl, h⟩
    · refine e_tableIn (tgt := 170) (off := 169) dX0_apply_1 (by omega) (by omega) (by rw [c1]; rfl) (by decide) ?_
      replace h := h.2.2.2.2.2.2.2.2.2.1 c1
      refine e_aload_n dX0_apply_170 rfl rfl ?_
      refine e_aload_n dX0_apply_171 rfl rfl ?_
      refine e_getI dX0_apply_172 fl_X0_70 (ob_2 hn) rfl ?_
      obtain ⟨Q155, hc156, h⟩ := h
      refine e_callV (M' := M_X0_push) (as := [.int (gI σ 2 9)]) (rest := []) dX0_apply_175 ml_X0_46 mk_X0_push (ob_2 hn) rfl rfl rfl (Nat.le_of_ble_eq_true rfl) (show 0 < d by omega) hc156 (Md_le (b := md_X0_apply) (by decide)) (fun v σ157 hq hf => ?_)
      obtain ⟨rfl, hq⟩ := hq
      replace h := h σ157 hq hf
      refine e_goto (tgt := 237) dX0_apply_178 (by decide) ?_
      exact e_vret dX0_apply_237 rfl ⟨rfl, h⟩
    · refine e_tableIn (tgt := 181) (off := 180) dX0_apply_1 (by omega) (by omega) (by rw [c1]; rfl) (by decide) ?_
      replace h := h.2.2.2.2.2.2.2.2.2.2.1 c1
      refine e_aload_n dX0_apply_181 rfl rfl ?_
      refine e_aload_n dX0_apply_182 rfl rfl ?_
      refine e_getI dX0_apply_183 fl_X0_73 (ob_2 hn) rfl ?_
      obtain ⟨Q161, hc162, h⟩ := h
      refine e_callV (M' := M_X0_push) (as := [.int (gI σ 2 10)]) (rest := []) dX0_apply_186 ml_X0_46 mk_X0_push (ob_2 hn) rfl rfl rfl (Nat.le_of_ble_eq_true rfl) (show 0 < d by omega) hc162 (Md_le (b := md_X0_apply) (by decide)) (fun v σ163 hq hf => ?_)
      obtain ⟨rfl, hq⟩ := hq
      replace h := h σ163 hq hf
      refine e_goto (tgt := 237) dX0_apply_189 (by decide) ?_
      exact e_vret dX0_apply_237 rfl ⟨rfl, h⟩
    · refine e_tableIn (tgt := 192) (off := 191) dX0_apply_1 (by omega) (by omega) (by rw [c1]; rfl) (by decide) ?_
      replace h := h.2.2.2.2.2.2.2.2.2.2.2.1 c1
      refine e_aload_n dX0_apply_192 rfl rfl ?_
      refine e_aload_n dX0_apply_193 rfl rfl ?_
      refine e_getI dX0_apply_194 fl_X0_73 (ob_2 hn) rfl ?_
      refine e_aload_n dX0_apply_197 rfl rfl ?_
      refine e_getI dX0_apply_198 fl_X0_70 (ob_2 hn) rfl ?_
      refine e_isub dX0_apply_201 ?_
      refine e_aload_n dX0_apply_202 rfl rfl ?_
      refine e_getI dX0_apply_203 fl_X0_67 (ob_2 hn) rfl ?_
      refine e_isub dX0_apply_206 ?_
      obtain ⟨Q167, hc168, h⟩ := h
      refine e_callV (M' := M_X0_push) (as := [.int (((gI σ 2 10) - (gI σ 2 9)) - (gI σ 2 8))]) (rest := []) dX0_apply_207 ml_X0_46 mk_X0_push (ob_2 hn) rfl rfl rfl (Nat.le_of_ble_eq_true rfl) (show 0 < d by omega) hc168 (Md_le (b := md_X0_apply) (by decide)) (fun v σ169 hq hf => ?_)
      obtain ⟨rfl, hq⟩ := hq
      replace h := h σ169 hq hf
      refine e_goto (tgt := 237) dX0_apply_210 (by decide) ?_
      exact e_vret dX0_apply_237 rfl ⟨rfl, h⟩
    · refine e_tableIn (tgt := 213) (off := 212) dX0_apply_1 (by omega) (by omega) (by rw [c1]; rfl) (by decide) ?_
      replace h := h.2.2.2.2.2.2.2.2.2.2.2.2.1 c1
      refine e_aload_n dX0_apply_213 rfl rfl ?_
      refine e_aload_n dX0_apply_214 rfl rfl ?_
      refine e_getI dX0_apply_215 fl_X0_29 (ob_2 hn) rfl ?_
      obtain ⟨Q173, hc174, h⟩ := h
      refine e_callV (M' := M_X0_push) (as := [.int (gI σ 2 7)]) (rest := []) dX0_apply_218 ml_X0_46 mk_X0_push (ob_2 hn) rfl rfl rfl (Nat.le_of_ble_eq_true rfl) (show 0 < d by omega) hc174 (Md_le (b := md_X0_apply) (by decide)) (fun v σ175 hq hf => ?_)
      obtain ⟨rfl, hq⟩ := hq
      replace h := h σ175 hq hf
      refine e_goto (tgt := 237) dX0_apply_221 (by decide) ?_
      exact e_vret dX0_apply_237 rfl ⟨rfl, h⟩
abbrev K_X0_lookAt_22 (d n : Nat) (σ0 : St) (Q : St → Prop) (σ : St) (x1 : Int32) (x2 : Int32) : Prop := Ev (d, n, md_X0_lookAt, σ0, liV Q) M_X0_lookAt 22 [some (.ref 2), some (.int x1), some (.int x2)] [] σ
theorem B_X0_lookAt_22 {d n : Nat} {σ0 : St} {Q : St → Prop}  {σ : St} {x1 : Int32} {x2 : Int32} (hn : FIX ≤ n) (hd : 1 ≤ d) (h : (((gI σ 1 0) ≤ x2 → Q σ) ∧ (¬ (gI σ 1 0) ≤ x2 → (((fn_X11_contains x1 x2) = 0 → K_X0_lookAt_22 d n σ0 Q σ x1 (x2 + 1)) ∧ (¬ (fn_X11_contains x1 x2) = 0 → (((gI σ 2 8) = 0 → vp_in x2 10 ∧ vp_in x2 10 ∧ vp_in x2 10 ∧ vp_in x2 10 ∧ K_X0_lookAt_22 d n σ0 Q (sI (sI (sI σ 2 9 (gI σ 13 x2.toNatClampNeg)) 2 10 (mxI (gI (sI σ 2 9 (gI σ 13 x2.toNatClampNeg)) 2 10) (gI (sI σ 2 9 (gI σ 13 x2.toNatClampNeg)) 14 x2.toNatClampNeg))) 2 8 ((gI (sI (sI σ 2 9 (gI σ 13 x2.toNatClampNeg)) 2 10 (mxI (gI (sI σ 2 9 (gI σ 13 x2.toNatClampNeg)) 2 10) (gI (sI σ 2 9 (gI σ 13 x2.toNatClampNeg)) 14 x2.toNatClampNeg))) 2 8) + ((gI (sI (sI σ 2 9 (gI σ 13 x2.toNatClampNeg)) 2 10 (mxI (gI (sI σ 2 9 (gI σ 13 x2.toNatClampNeg)) 2 10) (gI (sI σ 2 9 (gI σ 13 x2.toNatClampNeg)) 14 x2.toNatClampNeg))) 14 x2.toNatClampNeg) - (gI (sI (sI σ 2 9 (gI σ 13 x2.toNatClampNeg)) 2 10 (mxI (gI (sI σ 2 9 (gI σ 13 x2.toNatClampNeg)) 2 10) (gI (sI σ 2 9 (gI σ 13 x2.toNatClampNeg)) 14 x2.toNatClampNeg))) 13 x2.toNatClampNeg)))) x1 (x2 + 1)) ∧ (¬ (gI σ 2 8) = 0 → vp_in x2 10 ∧ (((gI σ 2 9) ≤ (gI σ 13 x2.toNatClampNeg) → vp_in x2 10 ∧ vp_in x2 10 ∧ vp_in x2 10 ∧ K_X0_lookAt_22 d n σ0 Q (sI (sI σ 2 10 (mxI (gI σ 2 10) (gI σ 14 x2.toNatClampNeg))) 2 8 ((gI (sI σ 2 10 (mxI (gI σ 2 10) (gI σ 14 x2.toNatClampNeg))) 2 8) + ((gI (sI σ 2 10 (mxI (gI σ 2 10) (gI σ 14 x2.toNatClampNeg))) 14 x2.toNatClampNeg) - (gI (sI σ 2 10 (mxI (gI σ 2 10) (gI σ 14 x2.toNatClampNeg))) 13 x2.toNatClampNeg)))) x1 (x2 + 1)) ∧ (¬ (gI σ 2 9) ≤ (gI σ 13 x2.toNatClampNeg) → vp_in x2 10 ∧ vp_in x2 10 ∧ vp_in x2 10 ∧ vp_in x2 10 ∧ K_X0_lookAt_22 d n σ0 Q (sI (sI (sI σ 2 9 (gI σ 13 x2.toNatClampNeg)) 2 10 (mxI (gI (sI σ 2 9 (gI σ 13 x2.toNatClampNeg)) 2 10) (gI (sI σ 2 9 (gI σ 13 x2.toNatClampNeg)) 14 x2.toNatClampNeg))) 2 8 ((gI (sI (sI σ 2 9 (gI σ 13 x2.toNatClampNeg)) 2 10 (mxI (gI (sI σ 2 9 (gI σ 13 x2.toNatClampNeg)) 2 10) (gI (sI σ 2 9 (gI σ 13 x2.toNatClampNeg)) 14 x2.toNatClampNeg))) 2 8) + ((gI (sI (sI σ 2 9 (gI σ 13 x2.toNatClampNeg)) 2 10 (mxI (gI (sI σ 2 9 (gI σ 13 x2.toNatClampNeg)) 2 10) (gI (sI σ 2 9 (gI σ 13 x2.toNatClampNeg)) 14 x2.toNatClampNeg))) 14 x2.toNatClampNeg) - (gI (sI (sI σ 2 9 (gI σ 13 x2.toNatClampNeg)) 2 10 (mxI (gI (sI σ 2 9 (gI σ 13 x2.toNatClampNeg)) 2 10) (gI (sI σ 2 9 (gI σ 13 x2.toNatClampNeg)) 14 x2.toNatClampNeg))) 13 x2.toNatClampNeg)))) x1 (x2 + 1)))))))))) : K_X0_lookAt_22 d n σ0 Q σ x1 x2 := by
  refine e_iload_n dX0_lookAt_22 rfl rfl ?_
  refine e_aload_n dX0_lookAt_23 rfl rfl ?_
  refine e_getR (y := 1) dX0_lookAt_24 fl_X0_15 (ob_2 hn) rfl rfl ?_
  refine e_getI dX0_lookAt_27 fl_X0_76 (ob_1 hn) rfl ?_
  refine e_icmp_ge (tgt := 131) dX0_lookAt_30 (by decide) (fun c1 => ?_) (fun c1 => ?_)
  · replace h := h.1 c1
    exact e_vret dX0_lookAt_131 rfl ⟨rfl, h⟩
  · replace h := h.2 c1
    refine e_iload_n dX0_lookAt_33 rfl rfl ?_
    refine e_iload_n dX0_lookAt_34 rfl rfl ?_
    refine e_callN (M' := M_X11_contains) (as := [.int x1, .int x2]) (rest := []) dX0_lookAt_35 nl_X0_79 mk_X11_contains rfl (Nat.le_of_ble_eq_true rfl) (show 0 < d by omega) (sp_X11_contains) Md_nil (fun v σv hq hf => ?_)
    obtain ⟨v, rfl, rfl, rfl⟩ := hq
    refine e_if_eq (tgt := 125) dX0_lookAt_38 (by decide) (fun c2 => ?_) (fun c2 => ?_)
    · replace h := h.1 c2
      refine e_iinc dX0_lookAt_125 rfl (ii_1 _) rfl (by decide) ?_
      refine e_goto (tgt := 22) dX0_lookAt_128 (by decide) ?_
      exact h
    · replace h := h.2 c2
      refine e_aload_n dX0_lookAt_41 rfl rfl ?_
      refine e_getI dX0_lookAt_42 fl_X0_67 (ob_2 hn) rfl ?_
      refine e_if_eq (tgt := 64) dX0_lookAt_45 (by decide) (fun c3 => ?_) (fun c3 => ?_)
      · replace h := h.1 c3
        refine e_aload_n dX0_lookAt_64 rfl rfl ?_
        refine e_aload_n dX0_lookAt_65 rfl rfl ?_
        refine e_getR (y := 1) dX0_lookAt_66 fl_X0_15 (ob_2 hn) rfl rfl ?_
        refine e_getR (y := 13) dX0_lookAt_69 fl_X0_83 (ob_1 hn) rfl rfl ?_
        refine e_iload_n dX0_lookAt_72 rfl rfl ?_
        refine e_iald dX0_lookAt_73 (ar_13 hn) h.1 ?_
        replace h := h.2
        refine e_putI dX0_lookAt_74 fl_X0_70 (ob_2 hn) rfl (fpI_0_9 _) (md_c (m := md_X0_lookAt) (by decide)) ?_
        refine e_aload_n dX0_lookAt_77 rfl rfl ?_
        refine e_aload_n dX0_lookAt_78 rfl rfl ?_
        refine e_getI dX0_lookAt_79 fl_X0_73 (ob_2 hn) rfl ?_
        refine e_aload_n dX0_lookAt_82 rfl rfl ?_
        refine e_getR (y := 1) dX0_lookAt_83 fl_X0_15 (ob_2 hn) rfl rfl ?_
        refine e_getR (y := 14) dX0_lookAt_86 fl_X0_86 (ob_1 hn) rfl rfl ?_
        refine e_iload_n dX0_lookAt_89 rfl rfl ?_
        refine e_iald dX0_lookAt_90 (ar_14 hn) h.1 ?_
        replace h := h.2
        refine e_mmax (st := [.ref 2]) dX0_lookAt_91 ml_X0_89 (Nat.le_of_ble_eq_true rfl) (show 0 < d by omega) ?_
        refine e_putI dX0_lookAt_94 fl_X0_73 (ob_2 hn) rfl (fpI_0_10 _) (md_c (m := md_X0_lookAt) (by decide)) ?_
        refine e_aload_n dX0_lookAt_97 rfl rfl ?_
        refine e_dup dX0_lookAt_98 rfl ?_
        refine e_getI dX0_lookAt_99 fl_X0_67 (ob_2 hn) rfl ?_
        refine e_aload_n dX0_lookAt_102 rfl rfl ?_
        refine e_getR (y := 1) dX0_lookAt_103 fl_X0_15 (ob_2 hn) rfl rfl ?_
        refine e_getR (y := 14) dX0_lookAt_106 fl_X0_86 (ob_1 hn) rfl rfl ?_
        refine e_iload_n dX0_lookAt_109 rfl rfl ?_
        refine e_iald dX0_lookAt_110 (ar_14 hn) h.1 ?_
        replace h := h.2
        refine e_aload_n dX0_lookAt_111 rfl rfl ?_
        refine e_getR (y := 1) dX0_lookAt_112 fl_X0_15 (ob_2 hn) rfl rfl ?_
        refine e_getR (y := 13) dX0_lookAt_115 fl_X0_83 (ob_1 hn) rfl rfl ?_
        refine e_iload_n dX0_lookAt_118 rfl rfl ?_
        refine e_iald dX0_lookAt_119 (ar_13 hn) h.1 ?_
        replace h := h.2
        refine e_isub dX0_lookAt_120 ?_
        refine e_iadd dX0_lookAt_121 ?_
        refine e_putI dX0_lookAt_122 fl_X0_67 (ob_2 hn) rfl (fpI_0_8 _) (md_c (m := md_X0_lookAt) (by decide)) ?_
        refine e_iinc dX0_lookAt_125 rfl (ii_1 _) rfl (by decide) ?_
        refine e_goto (tgt := 22) dX0_lookAt_128 (by decide) ?_
        exact h
      · replace h := h.2 c3
        refine e_aload_n dX0_lookAt_48 rfl rfl ?_
        refine e_getR (y := 1) dX0_lookAt_49 fl_X0_15 (ob_2 hn) rfl rfl ?_
        refine e_getR (y := 13) dX0_lookAt_52 fl_X0_83 (ob_1 hn) rfl rfl ?_
        refine e_iload_n dX0_lookAt_55 rfl rfl ?_
        refine e_iald dX0_lookAt_56 (ar_13 hn) h.1 ?_
        replace h := h.2
        refine e_aload_n dX0_lookAt_57 rfl rfl ?_
        refine e_getI dX0_lookAt_58 fl_X0_70 (ob_2 hn) rfl ?_
        refine e_icmp_ge (tgt := 77) dX0_lookAt_61 (by decide) (fun c4 => ?_) (fun c4 => ?_)
        · replace h := h.1 c4
          refine e_aload_n dX0_lookAt_77 rfl rfl ?_
          refine e_aload_n dX0_lookAt_78 rfl rfl ?_
          refine e_getI dX0_lookAt_79 fl_X0_73 (ob_2 hn) rfl ?_
          refine e_aload_n dX0_lookAt_82 rfl rfl ?_
          refine e_getR (y := 1) dX0_lookAt_83 fl_X0_15 (ob_2 hn) rfl rfl ?_
          refine e_getR (y := 14) dX0_lookAt_86 fl_X0_86 (ob_1 hn) rfl rfl ?_
          refine e_iload_n dX0_lookAt_89 rfl rfl ?_
          refine e_iald dX0_lookAt_90 (ar_14 hn) h.1 ?_
          replace h := h.2
          refine e_mmax (st := [.ref 2]) dX0_lookAt_91 ml_X0_89 (Nat.le_of_ble_eq_true rfl) (show 0 < d by omega) ?_
          refine e_putI dX0_lookAt_94 fl_X0_73 (ob_2 hn) rfl (fpI_0_10 _) (md_c (m := md_X0_lookAt) (by decide)) ?_
          refine e_aload_n dX0_lookAt_97 rfl rfl ?_
          refine e_dup dX0_lookAt_98 rfl ?_
          refine e_getI dX0_lookAt_99 fl_X0_67 (ob_2 hn) rfl ?_
          refine e_aload_n dX0_lookAt_102 rfl rfl ?_
          refine e_getR (y := 1) dX0_lookAt_103 fl_X0_15 (ob_2 hn) rfl rfl ?_
          refine e_getR (y := 14) dX0_lookAt_106 fl_X0_86 (ob_1 hn) rfl rfl ?_
          refine e_iload_n dX0_lookAt_109 rfl rfl ?_
          refine e_iald dX0_lookAt_110 (ar_14 hn) h.1 ?_
          replace h := h.2
          refine e_aload_n dX0_lookAt_111 rfl rfl ?_
          refine e_getR (y := 1) dX0_lookAt_112 fl_X0_15 (ob_2 hn) rfl rfl ?_
          refine e_getR (y := 13) dX0_lookAt_115 fl_X0_83 (ob_1 hn) rfl rfl ?_
          refine e_iload_n dX0_lookAt_118 rfl rfl ?_
          refine e_iald dX0_lookAt_119 (ar_13 hn) h.1 ?_
          replace h := h.2
          refine e_isub dX0_lookAt_120 ?_
          refine e_iadd dX0_lookAt_121 ?_
          refine e_putI dX0_lookAt_122 fl_X0_67 (ob_2 hn) rfl (fpI_0_8 _) (md_c (m := md_X0_lookAt) (by decide)) ?_
          refine e_iinc dX0_lookAt_125 rfl (ii_1 _) rfl (by decide) ?_
          refine e_goto (tgt := 22) dX0_lookAt_128 (by decide) ?_
          exact h
        · replace h := h.2 c4
          refine e_aload_n dX0_lookAt_64 rfl rfl ?_
          refine e_aload_n dX0_lookAt_65 rfl rfl ?_
          refine e_getR (y := 1) dX0_lookAt_66 fl_X0_15 (ob_2 hn) rfl rfl ?_
          refine e_getR (y := 13) dX0_lookAt_69 fl_X0_83 (ob_1 hn) rfl rfl ?_
          refine e_iload_n dX0_lookAt_72 rfl rfl ?_
          refine e_iald dX0_lookAt_73 (ar_13 hn) h.1 ?_
          replace h := h.2
          refine e_putI dX0_lookAt_74 fl_X0_70 (ob_2 hn) rfl (fpI_0_9 _) (md_c (m := md_X0_lookAt) (by decide)) ?_
          refine e_aload_n dX0_lookAt_77 rfl rfl ?_
          refine e_aload_n dX0_lookAt_78 rfl rfl ?_
          refine e_getI dX0_lookAt_79 fl_X0_73 (ob_2 hn) rfl ?_
          refine e_aload_n dX0_lookAt_82 rfl rfl ?_
          refine e_getR (y := 1) dX0_lookAt_83 fl_X0_15 (ob_2 hn) rfl rfl ?_
          refine e_getR (y := 14) dX0_lookAt_86 fl_X0_86 (ob_1 hn) rfl rfl ?_
          refine e_iload_n dX0_lookAt_89 rfl rfl ?_
          refine e_iald dX0_lookAt_90 (ar_14 hn) h.1 ?_
          replace h := h.2
          refine e_mmax (st := [.ref 2]) dX0_lookAt_91 ml_X0_89 (Nat.le_of_ble_eq_true rfl) (show 0 < d by omega) ?_
          refine e_putI dX0_lookAt_94 fl_X0_73 (ob_2 hn) rfl (fpI_0_10 _) (md_c (m := md_X0_lookAt) (by decide)) ?_
          refine e_aload_n dX0_lookAt_97 rfl rfl ?_
          refine e_dup dX0_lookAt_98 rfl ?_
          refine e_getI dX0_lookAt_99 fl_X0_67 (ob_2 hn) rfl ?_
          refine e_aload_n dX0_lookAt_102 rfl rfl ?_
          refine e_getR (y := 1) dX0_lookAt_103 fl_X0_15 (ob_2 hn) rfl rfl ?_
          refine e_getR (y := 14) dX0_lookAt_106 fl_X0_86 (ob_1 hn) rfl rfl ?_
          refine e_iload_n dX0_lookAt_109 rfl rfl ?_
          refine e_iald dX0_lookAt_110 (ar_14 hn) h.1 ?_
          replace h := h.2
          refine e_aload_n dX0_lookAt_111 rfl rfl ?_
          refine e_getR (y := 1) dX0_lookAt_112 fl_X0_15 (ob_2 hn) rfl rfl ?_
          refine e_getR (y := 13) dX0_lookAt_115 fl_X0_83 (ob_1 hn) rfl rfl ?_
          refine e_iload_n dX0_lookAt_118 rfl rfl ?_
          refine e_iald dX0_lookAt_119 (ar_13 hn) h.1 ?_
          replace h := h.2
          refine e_isub dX0_lookAt_120 ?_
          refine e_iadd dX0_lookAt_121 ?_
          refine e_putI dX0_lookAt_122 fl_X0_67 (ob_2 hn) rfl (fpI_0_8 _) (md_c (m := md_X0_lookAt) (by decide)) ?_
          refine e_iinc dX0_lookAt_125 rfl (ii_1 _) rfl (by decide) ?_
          refine e_goto (tgt := 22) dX0_lookAt_128 (by decide) ?_
          exact h
theorem S_X0_lookAt {d n : Nat} {Q : St → Prop} {σ : St} {a1 : Int32} (hn : FIX ≤ n) (hd : 1 ≤ d) (h : K_X0_lookAt_22 d n σ Q (sI (sI (sI (sI σ 2 6 a1) 2 8 0) 2 9 0) 2 10 0) a1 0) : Cn d n M_X0_lookAt md_X0_lookAt [.ref 2, .int a1] σ (liV Q) := by
  refine Cn.of (k0 := 1) (by decide) rfl ?_
  show Ev (d, n, md_X0_lookAt, σ, liV Q) M_X0_lookAt 0 [some (.ref 2), some (.int a1), none] [] σ
  refine e_aload_n dX0_lookAt_0 rfl rfl ?_
  refine e_iload_n dX0_lookAt_1 rfl rfl ?_
  refine e_putI dX0_lookAt_2 fl_X0_64 (ob_2 hn) rfl (fpI_0_6 _) (md_c (m := md_X0_lookAt) (by decide)) ?_
  refine e_aload_n dX0_lookAt_5 rfl rfl ?_
  refine e_iconst dX0_lookAt_6 ci_0 ?_
  refine e_putI dX0_lookAt_7 fl_X0_67 (ob_2 hn) rfl (fpI_0_8 _) (md_c (m := md_X0_lookAt) (by decide)) ?_
  refine e_aload_n dX0_lookAt_10 rfl rfl ?_
  refine e_iconst dX0_lookAt_11 ci_0 ?_
  refine e_putI dX0_lookAt_12 fl_X0_70 (ob_2 hn) rfl (fpI_0_9 _) (md_c (m := md_X0_lookAt) (by decide)) ?_
  refine e_aload_n dX0_lookAt_15 rfl rfl ?_
  refine e_iconst dX0_lookAt_16 ci_0 ?_
  refine e_putI dX0_lookAt_17 fl_X0_73 (ob_2 hn) rfl (fpI_0_10 _) (md_c (m := md_X0_lookAt) (by decide)) ?_
  refine e_iconst dX0_lookAt_20 ci_0 ?_
  refine e_istore_n dX0_lookAt_21 rfl rfl (by decide) ?_
  exact h
abbrev K_X6_barOf_29 (d n : Nat) (σ0 : St) (Q : Int32 → St → Prop) (σ : St) (x1 : Int32) (x2 : Int32) (x3 : Int32) (x4 : Int32) : Prop := Ev (d, n, md_X6_barOf, σ0, liI Q) M_X6_barOf 29 [some (.ref 1), some (.int x1), some (.int x2), some (.int x3), some (.int x4)] [] σ
theorem B_X6_barOf_29 {d n : Nat} {σ0 : St} {Q : Int32 → St → Prop}  {σ : St} {x1 : Int32} {x2 : Int32} {x3 : Int32} {x4 : Int32} (hn : FIX ≤ n) (hd : 1 ≤ d) (h : (((gI σ 1 0) ≤ x4 → ((x3 = 0 → Q 0 σ) ∧ (¬ x3 = 0 → Q 4 σ))) ∧ (¬ (gI σ 1 0) ≤ x4 → (((fn_X11_contains x1 x4) = 0 → K_X6_barOf_29 d n σ0 Q σ x1 x2 x3 (x4 + 1)) ∧ (¬ (fn_X11_contains x1 x4) = 0 → vp_in x4 10 ∧ ((((gI σ 15 x4.toNatClampNeg) &&& x1) = 0 → vp_in x4 10 ∧ ((((gI σ 16 x4.toNatClampNeg) &&& ((x1 ||| x2) ^^^ (-1))) = 0 → K_X6_barOf_29 d n σ0 Q σ x1 x2 x3 (x4 + 1)) ∧ (¬ ((gI σ 16 x4.toNatClampNeg) &&& ((x1 ||| x2) ^^^ (-1))) = 0 → K_X6_barOf_29 d n σ0 Q σ x1 x2 1 (x4 + 1)))) ∧ (¬ ((gI σ 15 x4.toNatClampNeg) &&& x1) = 0 → Q 3 σ))))))) : K_X6_barOf_29 d n σ0 Q σ x1 x2 x3 x4 := by
  refine e_iload dX6_barOf_29 rfl ?_
  refine e_aload_n dX6_barOf_31 rfl rfl ?_
  refine e_getI dX6_barOf_32 fl_X6_31 (ob_1 hn) rfl ?_
  refine e_icmp_ge (tgt := 85) dX6_barOf_35 (by decide) (fun c1 => ?_) (fun c1 => ?_)
  · replace h := h.1 c1
    refine e_iload_n dX6_barOf_85 rfl rfl ?_
    refine e_if_eq (tgt := 93) dX6_barOf_86 (by decide) (fun c2 => ?_) (fun c2 => ?_)
    · replace h := h.1 c2
      refine e_iconst dX6_barOf_93 ci_0 ?_
      exact e_iret dX6_barOf_94 rfl ⟨_, rfl, h⟩
    · replace h := h.2 c2
      refine e_iconst dX6_barOf_89 ci_4 ?_
      refine e_goto (tgt := 94) dX6_barOf_90 (by decide) ?_
      exact e_iret dX6_barOf_94 rfl ⟨_, rfl, h⟩
  · replace h := h.2 c1
    refine e_iload_n dX6_barOf_38 rfl rfl ?_
    refine e_iload dX6_barOf_39 rfl ?_
    refine e_callN (M' := M_X11_contains) (as := [.int x1, .int x4]) (rest := []) dX6_barOf_41 nl_X6_41 mk_X11_contains rfl (Nat.le_of_ble_eq_true rfl) (show 0 < d by omega) (sp_X11_contains) Md_nil (fun v σv hq hf => ?_)
    obtain ⟨v, rfl, rfl, rfl⟩ := hq
    refine e_if_eq (tgt := 79) dX6_barOf_44 (by decide) (fun c3 => ?_) (fun c3 => ?_)
    · replace h := h.1 c3
      refine e_iinc dX6_barOf_79 rfl (ii_1 _) rfl (by decide) ?_
      refine e_goto (tgt := 29) dX6_barOf_82 (by decide) ?_
      exact h
    · replace h := h.2 c3
      refine e_aload_n dX6_barOf_47 rfl rfl ?_
      refine e_getR (y := 15) dX6_barOf_48 fl_X6_25 (ob_1 hn) rfl rfl ?_
      refine e_iload dX6_barOf_51 rfl ?_
      refine e_iald dX6_barOf_53 (ar_15 hn) h.1 ?_
      replace h := h.2
      refine e_iload_n dX6_barOf_54 rfl rfl ?_
      refine e_iand dX6_barOf_55 ?_
      refine e_if_eq (tgt := 61) dX6_barOf_56 (by decide) (fun c4 => ?_) (fun c4 => ?_)
      · replace h := h.1 c4
        refine e_aload_n dX6_barOf_61 rfl rfl ?_
        refine e_getR (y := 16) dX6_barOf_62 fl_X6_28 (ob_1 hn) rfl rfl ?_
        refine e_iload dX6_barOf_65 rfl ?_
        refine e_iald dX6_barOf_67 (ar_16 hn) h.1 ?_
        replace h := h.2
        refine e_iload_n dX6_barOf_68 rfl rfl ?_
        refine e_iload_n dX6_barOf_69 rfl rfl ?_
        refine e_ior dX6_barOf_70 ?_
        refine e_iconst dX6_barOf_71 ci_m1 ?_
        refine e_ixor dX6_barOf_72 ?_
        refine e_iand dX6_barOf_73 ?_
        refine e_if_eq (tgt := 79) dX6_barOf_74 (by decide) (fun c5 => ?_) (fun c5 => ?_)
        · replace h := h.1 c5
          refine e_iinc dX6_barOf_79 rfl (ii_1 _) rfl (by decide) ?_
          refine e_goto (tgt := 29) dX6_barOf_82 (by decide) ?_
          exact h
        · replace h := h.2 c5
          refine e_iconst dX6_barOf_77 ci_1 ?_
          refine e_istore_n dX6_barOf_78 rfl rfl (by decide) ?_
          refine e_iinc dX6_barOf_79 rfl (ii_1 _) rfl (by decide) ?_
          refine e_goto (tgt := 29) dX6_barOf_82 (by decide) ?_
          exact h
      · replace h := h.2 c4
        refine e_iconst dX6_barOf_59 ci_3 ?_
        exact e_iret dX6_barOf_60 rfl ⟨_, rfl, h⟩
theorem S_X6_barOf {d n : Nat} {Q : Int32 → St → Prop} {σ : St} {a1 : Int32} {a2 : Int32} (hn : FIX ≤ n) (hd : 1 ≤ d) (h : (((a1 >>> ((gI σ 1 0) &&& 31)) = 0 → (((fn_J6_bitCount_0f7a4 a1) ≤ (gI σ 1 1) → K_X6_barOf_29 d n σ Q σ a1 a2 0 0) ∧ (¬ (fn_J6_bitCount_0f7a4 a1) ≤ (gI σ 1 1) → Q 2 σ))) ∧ (¬ (a1 >>> ((gI σ 1 0) &&& 31)) = 0 → Q 1 σ))) : Cn d n M_X6_barOf md_X6_barOf [.ref 1, .int a1, .int a2] σ (liI Q) := by
  refine Cn.of (k0 := 2) (by decide) rfl ?_
  show Ev (d, n, md_X6_barOf, σ, liI Q) M_X6_barOf 0 [some (.ref 1), some (.int a1), some (.int a2), none, none] [] σ
  refine e_iload_n dX6_barOf_0 rfl rfl ?_
  refine e_aload_n dX6_barOf_1 rfl rfl ?_
  refine e_getI dX6_barOf_2 fl_X6_31 (ob_1 hn) rfl ?_
  refine e_ishr dX6_barOf_5 ?_
  refine e_if_eq (tgt := 11) dX6_barOf_6 (by decide) (fun c1 => ?_) (fun c1 => ?_)
  · replace h := h.1 c1
    refine e_iload_n dX6_barOf_11 rfl rfl ?_
    refine e_callS (M' := M_J6_bitCount_0f7a4) (as := [.int a1]) (rest := []) dX6_barOf_12 ml_X6_45 mk_J6_bitCount_0f7a4 rfl (Nat.le_of_ble_eq_true rfl) (show 0 < d by omega) (sp_J6_bitCount_0f7a4) Md_nil (fun v σv hq hf => ?_)
    obtain ⟨v, rfl, rfl, rfl⟩ := hq
    refine e_aload_n dX6_barOf_15 rfl rfl ?_
    refine e_getI dX6_barOf_16 fl_X6_9 (ob_1 hn) rfl ?_
    refine e_icmp_le (tgt := 24) dX6_barOf_19 (by decide) (fun c2 => ?_) (fun c2 => ?_)
    · replace h := h.1 c2
      refine e_iconst dX6_barOf_24 ci_0 ?_
      refine e_istore_n dX6_barOf_25 rfl rfl (by decide) ?_
      refine e_iconst dX6_barOf_26 ci_0 ?_
      refine e_istore dX6_barOf_27 rfl (by decide) ?_
      exact h
    · replace h := h.2 c2
      refine e_iconst dX6_barOf_22 ci_2 ?_
      exact e_iret dX6_barOf_23 rfl ⟨_, rfl, h⟩
  · replace h := h.2 c1
    refine e_iconst dX6_barOf_9 ci_1 ?_
    exact e_iret dX6_barOf_10 rfl ⟨_, rfl, h⟩
abbrev K_X0_ask_30 (d n : Nat) (σ0 : St) (Q : St → Prop) (σ : St) (x1 : Nat) (x2 : Int32) (x3 : Int32) : Prop := Ev (d, n, md_X0_ask, σ0, liV Q) M_X0_ask 30 [some (.ref 2), some (.ref x1), some (.int x2), some (.int x3), none] [] σ
theorem B_X0_ask_30 {d n : Nat} {σ0 : St} {Q : St → Prop}  {σ : St} {x1 : Nat} {x2 : Int32} {x3 : Int32} (hn : FIX ≤ n) (hd : 1 ≤ d) (hp_x1 : IsP n x1) (h : (((gI σ x1 4) ≤ x3 → ∃ Q2 : Int32 → St → Prop, Cn (d - 1) n M_X6_barOf md_X6_barOf [.ref 1, .int x2, .int (gI σ x1 1)] σ (liI Q2) ∧ ∀ (v5 : Int32) (σ4 : St), Q2 v5 σ4 → Fr md_X6_barOf σ σ4 → (((gI (sI σ4 2 2 v5) 2 2) ≠ 0 → Q (sI σ4 2 2 v5)) ∧ ((gI (sI σ4 2 2 v5) 2 2) = 0 → (((gI (sI σ4 2 2 v5) 2 5) = 0 → Q (sI σ4 2 2 v5)) ∧ (¬ (gI (sI σ4 2 2 v5) 2 5) = 0 → Q (sI (sI σ4 2 2 v5) 2 2 5)))))) ∧ (¬ (gI σ x1 4) ≤ x3 → vp_in x3 400 ∧ (((gI σ (x1 + 1) x3.toNatClampNeg) < 0 → ∃ Q11 : St → Prop, Cn (d - 1) n M_X0_apply md_X0_apply [.ref 2, .int (-(gI σ (x1 + 1) x3.toNatClampNeg))] σ (liV Q11) ∧ ∀ (σ13 : St), Q11 σ13 → Fr md_X0_apply σ σ13 → K_X0_ask_30 d n σ0 Q σ13 x1 x2 (x3 + 1)) ∧ (¬ (gI σ (x1 + 1) x3.toNatClampNeg) < 0 → ∃ Q17 : St → Prop, Cn (d - 1) n M_X0_push md_X0_push [.ref 2, .int (gI σ (x1 + 1) x3.toNatClampNeg)] σ (liV Q17) ∧ ∀ (σ19 : St), Q17 σ19 → Fr md_X0_push σ σ19 → K_X0_ask_30 d n σ0 Q σ19 x1 x2 (x3 + 1)))))) : K_X0_ask_30 d n σ0 Q σ x1 x2 x3 := by
  refine e_iload_n dX0_ask_30 rfl rfl ?_
  refine e_aload_n dX0_ask_31 rfl rfl ?_
  refine e_getI dX0_ask_32 fl_X0_40 (Ob.p hp_x1) rfl ?_
  refine e_icmp_ge (tgt := 73) dX0_ask_35 (by decide) (fun c1 => ?_) (fun c1 => ?_)
  · replace h := h.1 c1
    refine e_aload_n dX0_ask_73 rfl rfl ?_
    refine e_aload_n dX0_ask_74 rfl rfl ?_
    refine e_getR (y := 1) dX0_ask_75 fl_X0_15 (ob_2 hn) rfl rfl ?_
    refine e_iload_n dX0_ask_78 rfl rfl ?_
    refine e_aload_n dX0_ask_79 rfl rfl ?_
    refine e_getI dX0_ask_80 fl_X0_52 (Ob.p hp_x1) rfl ?_
    obtain ⟨Q2, hc3, h⟩ := h
    refine e_callV (M' := M_X6_barOf) (as := [.int x2, .int (gI σ x1 1)]) (rest := [.ref 2]) dX0_ask_83 ml_X0_55 mk_X6_barOf (ob_1 hn) rfl rfl rfl (Nat.le_of_ble_eq_true rfl) (show 0 < d by omega) hc3 (Md_le (b := md_X0_ask) (by decide)) (fun v σ4 hq hf => ?_)
    obtain ⟨v5, rfl, hq⟩ := hq
    replace h := h v5 σ4 hq hf
    refine e_putI dX0_ask_86 fl_X0_61 (ob_2 hn) rfl (fpI_0_2 _) (md_c (m := md_X0_ask) (by decide)) ?_
    refine e_aload_n dX0_ask_89 rfl rfl ?_
    refine e_getI dX0_ask_90 fl_X0_61 (ob_2 hn) rfl ?_
    refine e_if_ne (tgt := 108) dX0_ask_93 (by decide) (fun c8 => ?_) (fun c8 => ?_)
    · replace h := h.1 c8
      exact e_vret dX0_ask_108 rfl ⟨rfl, h⟩
    · replace h := h.2 c8
      refine e_aload_n dX0_ask_96 rfl rfl ?_
      refine e_getI dX0_ask_97 fl_X0_36 (ob_2 hn) rfl ?_
      refine e_if_eq (tgt := 108) dX0_ask_100 (by decide) (fun c9 => ?_) (fun c9 => ?_)
      · replace h := h.1 c9
        exact e_vret dX0_ask_108 rfl ⟨rfl, h⟩
      · replace h := h.2 c9
        refine e_aload_n dX0_ask_103 rfl rfl ?_
        refine e_iconst dX0_ask_104 ci_5 ?_
        refine e_putI dX0_ask_105 fl_X0_61 (ob_2 hn) rfl (fpI_0_2 _) (md_c (m := md_X0_ask) (by decide)) ?_
        exact e_vret dX0_ask_108 rfl ⟨rfl, h⟩
  · replace h := h.2 c1
    refine e_aload_n dX0_ask_38 rfl rfl ?_
    refine e_getR (y := x1 + 1) dX0_ask_39 fl_X0_43 (Ob.p hp_x1) rfl (rf_p hp_x1 (by decide)) ?_
    refine e_iload_n dX0_ask_42 rfl rfl ?_
    refine e_iald dX0_ask_43 (Ar.p1 hp_x1) h.1 ?_
    replace h := h.2
    refine e_istore dX0_ask_44 rfl (by decide) ?_
    refine e_iload dX0_ask_46 rfl ?_
    refine e_if_lt (tgt := 60) dX0_ask_48 (by decide) (fun c10 => ?_) (fun c10 => ?_)
    · replace h := h.1 c10
      refine e_aload_n dX0_ask_60 rfl rfl ?_
      refine e_iload dX0_ask_61 rfl ?_
      refine e_ineg dX0_ask_63 ?_
      obtain ⟨Q11, hc12, h⟩ := h
      refine e_callV (M' := M_X0_apply) (as := [.int (-(gI σ (x1 + 1) x3.toNatClampNeg))]) (rest := []) dX0_ask_64 ml_X0_49 mk_X0_apply (ob_2 hn) rfl rfl rfl (Nat.le_of_ble_eq_true rfl) (show 0 < d by omega) hc12 (Md_le (b := md_X0_ask) (by decide)) (fun v σ13 hq hf => ?_)
      obtain ⟨rfl, hq⟩ := hq
      replace h := h σ13 hq hf
      refine e_iinc dX0_ask_67 rfl (ii_1 _) rfl (by decide) ?_
      refine e_goto (tgt := 30) dX0_ask_70 (by decide) ?_
      refine e_kill [true, true, true, true, false] ?_
      exact h
    · replace h := h.2 c10
      refine e_aload_n dX0_ask_51 rfl rfl ?_
      refine e_iload dX0_ask_52 rfl ?_
      obtain ⟨Q17, hc18, h⟩ := h
      refine e_callV (M' := M_X0_push) (as := [.int (gI σ (x1 + 1) x3.toNatClampNeg)]) (rest := []) dX0_ask_54 ml_X0_46 mk_X0_push (ob_2 hn) rfl rfl rfl (Nat.le_of_ble_eq_true rfl) (show 0 < d by omega) hc18 (Md_le (b := md_X0_ask) (by decide)) (fun v σ19 hq hf => ?_)
      obtain ⟨rfl, hq⟩ := hq
      replace h := h σ19 hq hf
      refine e_goto (tgt := 67) dX0_ask_57 (by decide) ?_
      refine e_iinc dX0_ask_67 rfl (ii_1 _) rfl (by decide) ?_
      refine e_goto (tgt := 30) dX0_ask_70 (by decide) ?_
      refine e_kill [true, true, true, true, false] ?_
      exact h
theorem S_X0_ask {d n : Nat} {Q : St → Prop} {σ : St} {p1 : Nat} {a2 : Int32} (hn : FIX ≤ n) (hd : 1 ≤ d) (hp_p1 : IsP n p1) (h : ∃ Q1 : St → Prop, Cn (d - 1) n M_X0_lookAt md_X0_lookAt [.ref 2, .int a2] σ (liV Q1) ∧ ∀ (σ3 : St), Q1 σ3 → Fr md_X0_lookAt σ σ3 → K_X0_ask_30 d n σ Q (sI (sI (sI (sI σ3 2 7 (gI σ3 p1 0)) 2 1 0) 2 4 0) 2 5 0) p1 a2 0) : Cn d n M_X0_ask md_X0_ask [.ref 2, .ref p1, .int a2] σ (liV Q) := by
  refine Cn.of (k0 := 2) (by decide) rfl ?_
  show Ev (d, n, md_X0_ask, σ, liV Q) M_X0_ask 0 [some (.ref 2), some (.ref p1), some (.int a2), none, none] [] σ
  refine e_aload_n dX0_ask_0 rfl rfl ?_
  refine e_iload_n dX0_ask_1 rfl rfl ?_
  obtain ⟨Q1, hc2, h⟩ := h
  refine e_callV (M' := M_X0_lookAt) (as := [.int a2]) (rest := []) dX0_ask_2 ml_X0_19 mk_X0_lookAt (ob_2 hn) rfl rfl rfl (Nat.le_of_ble_eq_true rfl) (show 0 < d by omega) hc2 (Md_le (b := md_X0_ask) (by decide)) (fun v σ3 hq hf => ?_)
  obtain ⟨rfl, hq⟩ := hq
  replace h := h σ3 hq hf
  refine e_aload_n dX0_ask_5 rfl rfl ?_
  refine e_aload_n dX0_ask_6 rfl rfl ?_
  refine e_getI dX0_ask_7 fl_X0_23 (Ob.p hp_p1) rfl ?_
  refine e_putI dX0_ask_10 fl_X0_29 (ob_2 hn) rfl (fpI_0_7 _) (md_c (m := md_X0_ask) (by decide)) ?_
  refine e_aload_n dX0_ask_13 rfl rfl ?_
  refine e_iconst dX0_ask_14 ci_0 ?_
  refine e_putI dX0_ask_15 fl_X0_30 (ob_2 hn) rfl (fpI_0_1 _) (md_c (m := md_X0_ask) (by decide)) ?_
  refine e_aload_n dX0_ask_18 rfl rfl ?_
  refine e_iconst dX0_ask_19 ci_0 ?_
  refine e_putI dX0_ask_20 fl_X0_33 (ob_2 hn) rfl (fpI_0_4 _) (md_c (m := md_X0_ask) (by decide)) ?_
  refine e_aload_n dX0_ask_23 rfl rfl ?_
  refine e_iconst dX0_ask_24 ci_0 ?_
  refine e_putI dX0_ask_25 fl_X0_36 (ob_2 hn) rfl (fpZ_0_5 (Or.inl rfl)) (md_c (m := md_X0_ask) (by decide)) ?_
  refine e_iconst dX0_ask_28 ci_0 ?_
  refine e_istore_n dX0_ask_29 rfl rfl (by decide) ?_
  exact h
abbrev K_X1_forgetAll_2 (d n : Nat) (σ0 : St) (Q : St → Prop) (σ : St) (x1 : Int32) : Prop := Ev (d, n, md_X1_forgetAll, σ0, liV Q) M_X1_forgetAll 2 [some (.ref 3), some (.int x1)] [] σ
theorem B_X1_forgetAll_2 {d n : Nat} {σ0 : St} {Q : St → Prop}  {σ : St} {x1 : Int32} (hn : FIX ≤ n) (h : (((gI σ 3 2) ≤ x1 → Q σ) ∧ (¬ (gI σ 3 2) ≤ x1 → vp_in x1 8 ∧ ∃ pp2, gR σ x1.toNatClampNeg = some pp2 ∧ IsP n pp2 ∧ K_X1_forgetAll_2 d n σ0 Q (sI σ pp2 5 0) (x1 + 1)))) : K_X1_forgetAll_2 d n σ0 Q σ x1 := by
  refine e_iload_n dX1_forgetAll_2 rfl rfl ?_
  refine e_aload_n dX1_forgetAll_3 rfl rfl ?_
  refine e_getI dX1_forgetAll_4 fl_X1_21 (ob_3 hn) rfl ?_
  refine e_icmp_ge (tgt := 26) dX1_forgetAll_7 (by decide) (fun c1 => ?_) (fun c1 => ?_)
  · replace h := h.1 c1
    exact e_vret dX1_forgetAll_26 rfl ⟨rfl, h⟩
  · replace h := h.2 c1
    refine e_aload_n dX1_forgetAll_10 rfl rfl ?_
    refine e_getR (y := 18) dX1_forgetAll_11 fl_X1_11 (ob_3 hn) rfl rfl ?_
    refine e_iload_n dX1_forgetAll_14 rfl rfl ?_
    obtain ⟨hi, pp2, hg, hp_pp2, h⟩ := h
    refine e_aldP dX1_forgetAll_15 hn hi hg ?_
    refine e_iconst dX1_forgetAll_16 ci_0 ?_
    refine e_putI dX1_forgetAll_17 fl_X1_28 (Ob.p hp_pp2) rfl (fpZ_5_5 (Or.inl rfl)) (md_ac (m := md_X1_forgetAll) hp_pp2 (by decide)) ?_
    refine e_iinc dX1_forgetAll_20 rfl (ii_1 _) rfl (by decide) ?_
    refine e_goto (tgt := 2) dX1_forgetAll_23 (by decide) ?_
    exact h
theorem S_X1_forgetAll {d n : Nat} {Q : St → Prop} {σ : St}  (hn : FIX ≤ n) (h : K_X1_forgetAll_2 d n σ Q σ 0) : Cn d n M_X1_forgetAll md_X1_forgetAll [.ref 3] σ (liV Q) := by
  refine Cn.of (k0 := 1) (by decide) rfl ?_
  show Ev (d, n, md_X1_forgetAll, σ, liV Q) M_X1_forgetAll 0 [some (.ref 3), none] [] σ
  refine e_iconst dX1_forgetAll_0 ci_0 ?_
  refine e_istore_n dX1_forgetAll_1 rfl rfl (by decide) ?_
  exact h
abbrev K_X5_freshen_25 (d n : Nat) (σ0 : St) (Q : St → Prop) (p : Nat) (σ : St) (x2 : Int32) (x3 : Int32) : Prop := Ev (d, n, (md_X5_freshen p), σ0, liV Q) M_X5_freshen 25 [some (.ref p), some (.ref 2), some (.int x2), some (.int x3)] [] σ
theorem B_X5_freshen_25 {d n : Nat} {σ0 : St} {Q : St → Prop} {p : Nat} {σ : St} {x2 : Int32} {x3 : Int32} (hn : FIX ≤ n) (hd : 1 ≤ d) (hp_p : IsP n p) (h : ((x2 ≤ x3 → ∃ Q2 : St → Prop, Cn (d - 1) n M_X5_sortRanked (md_X5_sortRanked p) [.ref p] σ (liV Q2) ∧ ∀ (σ4 : St), Q2 σ4 → Fr (md_X5_sortRanked p) σ σ4 → Q (sI σ4 p 5 1)) ∧ (¬ x2 ≤ x3 → (((1024 : Int32) ≤ x3 → ∃ Q9 : St → Prop, Cn (d - 1) n M_X5_sortRanked (md_X5_sortRanked p) [.ref p] σ (liV Q9) ∧ ∀ (σ11 : St), Q9 σ11 → Fr (md_X5_sortRanked p) σ σ11 → Q (sI σ11 p 5 1)) ∧ (¬ (1024 : Int32) ≤ x3 → ∃ Q15 : St → Prop, Cn (d - 1) n M_X0_ask md_X0_ask [.ref 2, .ref p, .int x3] σ (liV Q15) ∧ ∀ (σ17 : St), Q15 σ17 → Fr md_X0_ask σ σ17 → vp_in x3 1024 ∧ (((gI (sI σ17 (p + 2) x3.toNatClampNeg (gI σ17 2 1)) 2 2) ≠ 0 → vp_in x3 1024 ∧ (((gI (sI (sI σ17 (p + 2) x3.toNatClampNeg (gI σ17 2 1)) (p + 3) x3.toNatClampNeg (vp_nar .boolean 0)) 2 2) ≠ 0 → K_X5_freshen_25 d n σ0 Q p (sI (sI σ17 (p + 2) x3.toNatClampNeg (gI σ17 2 1)) (p + 3) x3.toNatClampNeg (vp_nar .boolean 0)) x2 (x3 + 1)) ∧ ((gI (sI (sI σ17 (p + 2) x3.toNatClampNeg (gI σ17 2 1)) (p + 3) x3.toNatClampNeg (vp_nar .boolean 0)) 2 2) = 0 → vp_in (gI (sI (sI σ17 (p + 2) x3.toNatClampNeg (gI σ17 2 1)) (p + 3) x3.toNatClampNeg (vp_nar .boolean 0)) p 8) 1024 ∧ K_X5_freshen_25 d n σ0 Q p (sI (sI (sI (sI σ17 (p + 2) x3.toNatClampNeg (gI σ17 2 1)) (p + 3) x3.toNatClampNeg (vp_nar .boolean 0)) (p + 4) (gI (sI (sI σ17 (p + 2) x3.toNatClampNeg (gI σ17 2 1)) (p + 3) x3.toNatClampNeg (vp_nar .boolean 0)) p 8).toNatClampNeg (((1000000 - (gI (sI (sI σ17 (p + 2) x3.toNatClampNeg (gI σ17 2 1)) (p + 3) x3.toNatClampNeg (vp_nar .boolean 0)) 2 1)) * 1024) + x3)) p 8 ((gI (sI (sI (sI σ17 (p + 2) x3.toNatClampNeg (gI σ17 2 1)) (p + 3) x3.toNatClampNeg (vp_nar .boolean 0)) (p + 4) (gI (sI (sI σ17 (p + 2) x3.toNatClampNeg (gI σ17 2 1)) (p + 3) x3.toNatClampNeg (vp_nar .boolean 0)) p 8).toNatClampNeg (((1000000 - (gI (sI (sI σ17 (p + 2) x3.toNatClampNeg (gI σ17 2 1)) (p + 3) x3.toNatClampNeg (vp_nar .boolean 0)) 2 1)) * 1024) + x3)) p 8) + 1)) x2 (x3 + 1)))) ∧ ((gI (sI σ17 (p + 2) x3.toNatClampNeg (gI σ17 2 1)) 2 2) = 0 → vp_in x3 1024 ∧ (((gI (sI (sI σ17 (p + 2) x3.toNatClampNeg (gI σ17 2 1)) (p + 3) x3.toNatClampNeg (vp_nar .boolean 1)) 2 2) ≠ 0 → K_X5_freshen_25 d n σ0 Q p (sI (sI σ17 (p + 2) x3.toNatClampNeg (gI σ17 2 1)) (p + 3) x3.toNatClampNeg (vp_nar .boolean 1)) x2 (x3 + 1)) ∧ ((gI (sI (sI σ17 (p + 2) x3.toNatClampNeg (gI σ17 2 1)) (p + 3) x3.toNatClampNeg (vp_nar .boolean 1)) 2 2) = 0 → vp_in (gI (sI (sI σ17 (p + 2) x3.toNatClampNeg (gI σ17 2 1)) (p + 3) x3.toNatClampNeg (vp_nar .boolean 1)) p 8) 1024 ∧ K_X5_freshen_25 d n σ0 Q p (sI (sI (sI (sI σ17 (p + 2) x3.toNatClampNeg (gI σ17 2 1)) (p + 3) x3.toNatClampNeg (vp_nar .boolean 1)) (p + 4) (gI (sI (sI σ17 (p + 2) x3.toNatClampNeg (gI σ17 2 1)) (p + 3) x3.toNatClampNeg (vp_nar .boolean 1)) p 8).toNatClampNeg (((1000000 - (gI (sI (sI σ17 (p + 2) x3.toNatClampNeg (gI σ17 2 1)) (p + 3) x3.toNatClampNeg (vp_nar .boolean 1)) 2 1)) * 1024) + x3)) p 8 ((gI (sI (sI (sI σ17 (p + 2) x3.toNatClampNeg (gI σ17 2 1)) (p + 3) x3.toNatClampNeg (vp_nar .boolean 1)) (p + 4) (gI (sI (sI σ17 (p + 2) x3.toNatClampNeg (gI σ17 2 1)) (p + 3) x3.toNatClampNeg (vp_nar .boolean 1)) p 8).toNatClampNeg (((1000000 - (gI (sI (sI σ17 (p + 2) x3.toNatClampNeg (gI σ17 2 1)) (p + 3) x3.toNatClampNeg (vp_nar .boolean 1)) 2 1)) * 1024) + x3)) p 8) + 1)) x2 (x3 + 1)))))))))) : K_X5_freshen_25 d n σ0 Q p σ x2 x3 := by
  refine e_iload_n dX5_freshen_25 rfl rfl ?_
  refine e_iload_n dX5_freshen_26 rfl rfl ?_
  refine e_icmp_ge (tgt := 116) dX5_freshen_27 (by decide) (fun c1 => ?_) (fun c1 => ?_)
  · replace h := h.1 c1
    refine e_aload_n dX5_freshen_116 rfl rfl ?_
    obtain ⟨Q2, hc3, h⟩ := h
    refine e_callV (M' := M_X5_sortRanked) (as := []) (rest := []) dX5_freshen_117 ml_X5_76 mk_X5_sortRanked (Ob.p hp_p) rfl rfl rfl (Nat.le_of_ble_eq_true rfl) (show 0 < d by omega) hc3 (Md_same (by decide)) (fun v σ4 hq hf => ?_)
    obtain ⟨rfl, hq⟩ := hq
    replace h := h σ4 hq hf
    refine e_aload_n dX5_freshen_120 rfl rfl ?_
    refine e_iconst dX5_freshen_121 ci_1 ?_
    refine e_putI dX5_freshen_122 fl_X5_47 (Ob.p hp_p) rfl (fpZ_5_5 (Or.inr rfl)) (show inMd (md_X5_freshen p) _ _ from Or.inr (Or.inl (by simp [md_X5_freshen, mdP]))) ?_
    exact e_vret dX5_freshen_125 rfl ⟨rfl, h⟩
  · replace h := h.2 c1
    refine e_iload_n dX5_freshen_30 rfl rfl ?_
    refine e_sipush dX5_freshen_31 cs_1024 ?_
    refine e_icmp_ge (tgt := 116) dX5_freshen_34 (by decide) (fun c8 => ?_) (fun c8 => ?_)
    · replace h := h.1 c8
      refine e_aload_n dX5_freshen_116 rfl rfl ?_
      obtain ⟨Q9, hc10, h⟩ := h
      refine e_callV (M' := M_X5_sortRanked) (as := []) (rest := []) dX5_freshen_117 ml_X5_76 mk_X5_sortRanked (Ob.p hp_p) rfl rfl rfl (Nat.le_of_ble_eq_true rfl) (show 0 < d by omega) hc10 (Md_same (by decide)) (fun v σ11 hq hf => ?_)
      obtain ⟨rfl, hq⟩ := hq
      replace h := h σ11 hq hf
      refine e_aload_n dX5_freshen_120 rfl rfl ?_
      refine e_iconst dX5_freshen_121 ci_1 ?_
      refine e_putI dX5_freshen_122 fl_X5_47 (Ob.p hp_p) rfl (fpZ_5_5 (Or.inr rfl)) (show inMd (md_X5_freshen p) _ _ from Or.inr (Or.inl (by simp [md_X5_freshen, mdP]))) ?_
      exact e_vret dX5_freshen_125 rfl ⟨rfl, h⟩
    · replace h := h.2 c8
      refine e_aload_n dX5_freshen_37 rfl rfl ?_
      refine e_aload_n dX5_freshen_38 rfl rfl ?_
      refine e_iload_n dX5_freshen_39 rfl rfl ?_
      obtain ⟨Q15, hc16, h⟩ := h
      refine e_callV (M' := M_X0_ask) (as := [.ref p, .int x3]) (rest := []) dX5_freshen_40 ml_X5_65 mk_X0_ask (ob_2 hn) rfl rfl rfl (Nat.le_of_ble_eq_true rfl) (show 0 < d by omega) hc16 (Md_fix (by decide)) (fun v σ17 hq hf => ?_)
      obtain ⟨rfl, hq⟩ := hq
      replace h := h σ17 hq hf
      refine e_aload_n dX5_freshen_43 rfl rfl ?_
      refine e_getR (y := p + 2) dX5_freshen_44 fl_X5_15 (Ob.p hp_p) rfl (rf_p hp_p (by decide)) ?_
      refine e_iload_n dX5_freshen_47 rfl rfl ?_
      refine e_aload_n dX5_freshen_48 rfl rfl ?_
      refine e_getI dX5_freshen_49 fl_X5_69 (ob_2 hn) rfl ?_
      refine e_iast dX5_freshen_52 (Ar.p2 hp_p) h.1 (show inMd (md_X5_freshen p) _ _ from Or.inl (by simp [md_X5_freshen, mdP])) ?_
      replace h := h.2
      refine e_aload_n dX5_freshen_53 rfl rfl ?_
      refine e_getR (y := p + 3) dX5_freshen_54 fl_X5_18 (Ob.p hp_p) rfl (rf_p hp_p (by decide)) ?_
      refine e_iload_n dX5_freshen_57 rfl rfl ?_
      refine e_aload_n dX5_freshen_58 rfl rfl ?_
      refine e_getI dX5_freshen_59 fl_X5_72 (ob_2 hn) rfl ?_
      refine e_if_ne (tgt := 69) dX5_freshen_62 (by decide) (fun c21 => ?_) (fun c21 => ?_)
      · replace h := h.1 c21
        refine e_iconst dX5_freshen_69 ci_0 ?_
        refine e_zast dX5_freshen_70 (Ar.p3 hp_p) h.1 (show inMd (md_X5_freshen p) _ _ from Or.inl (by simp [md_X5_freshen, mdP])) ?_
        replace h := h.2
        refine e_aload_n dX5_freshen_71 rfl rfl ?_
        refine e_getI dX5_freshen_72 fl_X5_72 (ob_2 hn) rfl ?_
        refine e_if_ne (tgt := 110) dX5_freshen_75 (by decide) (fun c22 => ?_) (fun c22 => ?_)
        · replace h := h.1 c22
          refine e_iinc dX5_freshen_110 rfl (ii_1 _) rfl (by decide) ?_
          refine e_goto (tgt := 25) dX5_freshen_113 (by decide) ?_
          exact h
        · replace h := h.2 c22
          refine e_aload_n dX5_freshen_78 rfl rfl ?_
          refine e_getR (y := p + 4) dX5_freshen_79 fl_X5_22 (Ob.p hp_p) rfl (rf_p hp_p (by decide)) ?_
          refine e_aload_n dX5_freshen_82 rfl rfl ?_
          refine e_getI dX5_freshen_83 fl_X5_51 (Ob.p hp_p) rfl ?_
          refine e_ldc dX5_freshen_86 ck_X5_75 ?_
          refine e_aload_n dX5_freshen_88 rfl rfl ?_
          refine e_getI dX5_freshen_89 fl_X5_69 (ob_2 hn) rfl ?_
          refine e_isub dX5_freshen_92 ?_
          refine e_sipush dX5_freshen_93 cs_1024 ?_
          refine e_imul dX5_freshen_96 ?_
          refine e_iload_n dX5_freshen_97 rfl rfl ?_
          refine e_iadd dX5_freshen_98 ?_
          refine e_iast dX5_freshen_99 (Ar.p4 hp_p) h.1 (show inMd (md_X5_freshen p) _ _ from Or.inl (by simp [md_X5_freshen, mdP])) ?_
          replace h := h.2
          refine e_aload_n dX5_freshen_100 rfl rfl ?_
          refine e_dup dX5_freshen_101 rfl ?_
          refine e_getI dX5_freshen_102 fl_X5_51 (Ob.p hp_p) rfl ?_
          refine e_iconst dX5_freshen_105 ci_1 ?_
          refine e_iadd dX5_freshen_106 ?_
          refine e_putI dX5_freshen_107 fl_X5_51 (Ob.p hp_p) rfl (fpI_5_8 _) (show inMd (md_X5_freshen p) _ _ from Or.inr (Or.inl (by simp [md_X5_freshen, mdP]))) ?_
          refine e_iinc dX5_freshen_110 rfl (ii_1 _) rfl (by decide) ?_
          refine e_goto (tgt := 25) dX5_freshen_113 (by decide) ?_
          exact h
      · replace h := h.2 c21
        refine e_iconst dX5_freshen_65 ci_1 ?_
        refine e_goto (tgt := 70) dX5_freshen_66 (by decide) ?_
        refine e_zast dX5_freshen_70 (Ar.p3 hp_p) h.1 (show inMd (md_X5_freshen p) _ _ from Or.inl (by simp [md_X5_freshen, mdP])) ?_
        replace h := h.2
        refine e_aload_n dX5_freshen_71 rfl rfl ?_
        refine e_getI dX5_freshen_72 fl_X5_72 (ob_2 hn) rfl ?_
        refine e_if_ne (tgt := 110) dX5_freshen_75 (by decide) (fun c23 => ?_) (fun c23 => ?_)
        · replace h := h.1 c23
          refine e_iinc dX5_freshen_110 rfl (ii_1 _) rfl (by decide) ?_
          refine e_goto (tgt := 25) dX5_freshen_113 (by decide) ?_
          exact h
        · replace h := h.2 c23
          refine e_aload_n dX5_freshen_78 rfl rfl ?_
          refine e_getR (y := p + 4) dX5_freshen_79 fl_X5_22 (Ob.p hp_p) rfl (rf_p hp_p (by decide)) ?_
          refine e_aload_n dX5_freshen_82 rfl rfl ?_
          refine e_getI dX5_freshen_83 fl_X5_51 (Ob.p hp_p) rfl ?_
          refine e_ldc dX5_freshen_86 ck_X5_75 ?_
          refine e_aload_n dX5_freshen_88 rfl rfl ?_
          refine e_getI dX5_freshen_89 fl_X5_69 (ob_2 hn) rfl ?_
          refine e_isub dX5_freshen_92 ?_
          refine e_sipush dX5_freshen_93 cs_1024 ?_
          refine e_imul dX5_freshen_96 ?_
          refine e_iload_n dX5_freshen_97 rfl rfl ?_
          refine e_iadd dX5_freshen_98 ?_
          refine e_iast dX5_freshen_99 (Ar.p4 hp_p) h.1 (show inMd (md_X5_freshen p) _ _ from Or.inl (by simp [md_X5_freshen, mdP])) ?_
          replace h := h.2
          refine e_aload_n dX5_freshen_100 rfl rfl ?_
          refine e_dup dX5_freshen_101 rfl ?_
          refine e_getI dX5_freshen_102 fl_X5_51 (Ob.p hp_p) rfl ?_
          refine e_iconst dX5_freshen_105 ci_1 ?_
          refine e_iadd dX5_freshen_106 ?_
          refine e_putI dX5_freshen_107 fl_X5_51 (Ob.p hp_p) rfl (fpI_5_8 _) (show inMd (md_X5_freshen p) _ _ from Or.inr (Or.inl (by simp [md_X5_freshen, mdP]))) ?_
          refine e_iinc dX5_freshen_110 rfl (ii_1 _) rfl (by decide) ?_
          refine e_goto (tgt := 25) dX5_freshen_113 (by decide) ?_
          exact h
theorem S_X5_freshen {d n : Nat} {Q : St → Prop} {σ : St} {p : Nat} (hn : FIX ≤ n) (hd : 1 ≤ d) (hp_p : IsP n p) (h : (((gI σ p 5) = 0 → K_X5_freshen_25 d n σ Q p (sI σ p 8 0) ((1 : Int32) <<< ((gI (sI σ p 8 0) 1 0) &&& 31)) 0) ∧ (¬ (gI σ p 5) = 0 → Q σ))) : Cn d n M_X5_freshen (md_X5_freshen p) [.ref p, .ref 2] σ (liV Q) := by
  refine Cn.of (k0 := 2) (by decide) rfl ?_
  show Ev (d, n, (md_X5_freshen p), σ, liV Q) M_X5_freshen 0 [some (.ref p), some (.ref 2), none, none] [] σ
  refine e_aload_n dX5_freshen_0 rfl rfl ?_
  refine e_getI dX5_freshen_1 fl_X5_47 (Ob.p hp_p) rfl ?_
  refine e_if_eq (tgt := 8) dX5_freshen_4 (by decide) (fun c1 => ?_) (fun c1 => ?_)
  · replace h := h.1 c1
    refine e_aload_n dX5_freshen_8 rfl rfl ?_
    refine e_iconst dX5_freshen_9 ci_0 ?_
    refine e_putI dX5_freshen_10 fl_X5_51 (Ob.p hp_p) rfl (fpI_5_8 _) (show inMd (md_X5_freshen p) _ _ from Or.inr (Or.inl (by simp [md_X5_freshen, mdP]))) ?_
    refine e_iconst dX5_freshen_13 ci_1 ?_
    refine e_aload_n dX5_freshen_14 rfl rfl ?_
    refine e_getR (y := 1) dX5_freshen_15 fl_X5_54 (ob_2 hn) rfl rfl ?_
    refine e_getI dX5_freshen_18 fl_X5_60 (ob_1 hn) rfl ?_
    refine e_ishl dX5_freshen_21 ?_
    refine e_istore_n dX5_freshen_22 rfl rfl (by decide) ?_
    refine e_iconst dX5_freshen_23 ci_0 ?_
    refine e_istore_n dX5_freshen_24 rfl rfl (by decide) ?_
    exact h
  · replace h := h.2 c1
    exact e_vret dX5_freshen_7 rfl ⟨rfl, h⟩
theorem S_X1_freshened {d n : Nat} {Q : Nat → St → Prop} {σ : St} {a1 : Int32} (hn : FIX ≤ n) (hd : 1 ≤ d) (h : vp_in a1 8 ∧ ∃ pp1, gR σ a1.toNatClampNeg = some pp1 ∧ IsP n pp1 ∧ ∃ Q2 : St → Prop, Cn (d - 1) n M_X5_freshen (md_X5_freshen pp1) [.ref pp1, .ref 2] σ (liV Q2) ∧ ∀ (σ4 : St), Q2 σ4 → Fr (md_X5_freshen pp1) σ σ4 → vp_in a1 8 ∧ ∃ pp8, gR σ4 a1.toNatClampNeg = some pp8 ∧ IsP n pp8 ∧ Q pp8 σ4) : Cn d n M_X1_freshened md_X1_freshened [.ref 3, .int a1] σ (liR Q) := by
  refine Cn.of (k0 := 0) (by decide) rfl ?_
  show Ev (d, n, md_X1_freshened, σ, liR Q) M_X1_freshened 0 [some (.ref 3), some (.int a1)] [] σ
  refine e_aload_n dX1_freshened_0 rfl rfl ?_
  refine e_getR (y := 18) dX1_freshened_1 fl_X1_11 (ob_3 hn) rfl rfl ?_
  refine e_iload_n dX1_freshened_4 rfl rfl ?_
  obtain ⟨hi, pp1, hg, hp_pp1, h⟩ := h
  refine e_aldP dX1_freshened_5 hn hi hg ?_
  refine e_aload_n dX1_freshened_6 rfl rfl ?_
  refine e_getR (y := 2) dX1_freshened_7 fl_X1_17 (ob_3 hn) rfl rfl ?_
  obtain ⟨Q2, hc3, h⟩ := h
  refine e_callV (M' := M_X5_freshen) (as := [.ref 2]) (rest := []) dX1_freshened_10 ml_X1_32 mk_X5_freshen (Ob.p hp_pp1) rfl rfl rfl (Nat.le_of_ble_eq_true rfl) (show 0 < d by omega) hc3 (Md_any (m := md_X1_freshened) hp_pp1 (by decide)) (fun v σ4 hq hf => ?_)
  obtain ⟨rfl, hq⟩ := hq
  replace h := h σ4 hq hf
  refine e_aload_n dX1_freshened_13 rfl rfl ?_
  refine e_getR (y := 18) dX1_freshened_14 fl_X1_11 (ob_3 hn) rfl rfl ?_
  refine e_iload_n dX1_freshened_17 rfl rfl ?_
  obtain ⟨hi, pp8, hg, hp_pp8, h⟩ := h
  refine e_aldP dX1_freshened_18 hn hi hg ?_
  exact e_aret dX1_freshened_19 rfl ⟨_, rfl, h⟩
abbrev K_X1_freshenAll_2 (d n : Nat) (σ0 : St) (Q : St → Prop) (σ : St) (x1 : Int32) : Prop := Ev (d, n, md_X1_freshenAll, σ0, liV Q) M_X1_freshenAll 2 [some (.ref 3), some (.int x1)] [] σ
theorem B_X1_freshenAll_2 {d n : Nat} {σ0 : St} {Q : St → Prop}  {σ : St} {x1 : Int32} (hn : FIX ≤ n) (hd : 1 ≤ d) (h : (((gI σ 3 2) ≤ x1 → Q σ) ∧ (¬ (gI σ 3 2) ≤ x1 → vp_in x1 8 ∧ ∃ pp2, gR σ x1.toNatClampNeg = some pp2 ∧ IsP n pp2 ∧ ∃ Q3 : St → Prop, Cn (d - 1) n M_X5_freshen (md_X5_freshen pp2) [.ref pp2, .ref 2] σ (liV Q3) ∧ ∀ (σ5 : St), Q3 σ5 → Fr (md_X5_freshen pp2) σ σ5 → K_X1_freshenAll_2 d n σ0 Q σ5 (x1 + 1)))) : K_X1_freshenAll_2 d n σ0 Q σ x1 := by
  refine e_iload_n dX1_freshenAll_2 rfl rfl ?_
  refine e_aload_n dX1_freshenAll_3 rfl rfl ?_
  refine e_getI dX1_freshenAll_4 fl_X1_21 (ob_3 hn) rfl ?_
  refine e_icmp_ge (tgt := 29) dX1_freshenAll_7 (by decide) (fun c1 => ?_) (fun c1 => ?_)
  · replace h := h.1 c1
    exact e_vret dX1_freshenAll_29 rfl ⟨rfl, h⟩
  · replace h := h.2 c1
    refine e_aload_n dX1_freshenAll_10 rfl rfl ?_
    refine e_getR (y := 18) dX1_freshenAll_11 fl_X1_11 (ob_3 hn) rfl rfl ?_
    refine e_iload_n dX1_freshenAll_14 rfl rfl ?_
    obtain ⟨hi, pp2, hg, hp_pp2, h⟩ := h
    refine e_aldP dX1_freshenAll_15 hn hi hg ?_
    refine e_aload_n dX1_freshenAll_16 rfl rfl ?_
    refine e_getR (y := 2) dX1_freshenAll_17 fl_X1_17 (ob_3 hn) rfl rfl ?_
    obtain ⟨Q3, hc4, h⟩ := h
    refine e_callV (M' := M_X5_freshen) (as := [.ref 2]) (rest := []) dX1_freshenAll_20 ml_X1_32 mk_X5_freshen (Ob.p hp_pp2) rfl rfl rfl (Nat.le_of_ble_eq_true rfl) (show 0 < d by omega) hc4 (Md_any (m := md_X1_freshenAll) hp_pp2 (by decide)) (fun v σ5 hq hf => ?_)
    obtain ⟨rfl, hq⟩ := hq
    replace h := h σ5 hq hf
    refine e_iinc dX1_freshenAll_23 rfl (ii_1 _) rfl (by decide) ?_
    refine e_goto (tgt := 2) dX1_freshenAll_26 (by decide) ?_
    exact h
theorem S_X1_freshenAll {d n : Nat} {Q : St → Prop} {σ : St}  (hn : FIX ≤ n) (hd : 1 ≤ d) (h : K_X1_freshenAll_2 d n σ Q σ 0) : Cn d n M_X1_freshenAll md_X1_freshenAll [.ref 3] σ (liV Q) := by
  refine Cn.of (k0 := 1) (by decide) rfl ?_
  show Ev (d, n, md_X1_freshenAll, σ, liV Q) M_X1_freshenAll 0 [some (.ref 3), none] [] σ
  refine e_iconst dX1_freshenAll_0 ci_0 ?_
  refine e_istore_n dX1_freshenAll_1 rfl rfl (by decide) ?_
  exact h
abbrev K_X1_allMoney_4 (d n : Nat) (σ0 : St) (Q : Int32 → St → Prop) (σ : St) (x1 : Int32) (x2 : Int32) : Prop := Ev (d, n, md_X1_allMoney, σ0, liI Q) M_X1_allMoney 4 [some (.ref 3), some (.int x1), some (.int x2)] [] σ
theorem B_X1_allMoney_4 {d n : Nat} {σ0 : St} {Q : Int32 → St → Prop}  {σ : St} {x1 : Int32} {x2 : Int32} (hn : FIX ≤ n) (h : (((gI σ 3 2) ≤ x2 → Q x1 σ) ∧ (¬ (gI σ 3 2) ≤ x2 → vp_in x2 8 ∧ ∃ pp2, gR σ x2.toNatClampNeg = some pp2 ∧ IsP n pp2 ∧ K_X1_allMoney_4 d n σ0 Q σ (x1 + (gI σ pp2 0)) (x2 + 1)))) : K_X1_allMoney_4 d n σ0 Q σ x1 x2 := by
  refine e_iload_n dX1_allMoney_4 rfl rfl ?_
  refine e_aload_n dX1_allMoney_5 rfl rfl ?_
  refine e_getI dX1_allMoney_6 fl_X1_21 (ob_3 hn) rfl ?_
  refine e_icmp_ge (tgt := 30) dX1_allMoney_9 (by decide) (fun c1 => ?_) (fun c1 => ?_)
  · replace h := h.1 c1
    refine e_iload_n dX1_allMoney_30 rfl rfl ?_
    exact e_iret dX1_allMoney_31 rfl ⟨_, rfl, h⟩
  · replace h := h.2 c1
    refine e_iload_n dX1_allMoney_12 rfl rfl ?_
    refine e_aload_n dX1_allMoney_13 rfl rfl ?_
    refine e_getR (y := 18) dX1_allMoney_14 fl_X1_11 (ob_3 hn) rfl rfl ?_
    refine e_iload_n dX1_allMoney_17 rfl rfl ?_
    obtain ⟨hi, pp2, hg, hp_pp2, h⟩ := h
    refine e_aldP dX1_allMoney_18 hn hi hg ?_
    refine e_getI dX1_allMoney_19 fl_X1_36 (Ob.p hp_pp2) rfl ?_
    refine e_iadd dX1_allMoney_22 ?_
    refine e_istore_n dX1_allMoney_23 rfl rfl (by decide) ?_
    refine e_iinc dX1_allMoney_24 rfl (ii_1 _) rfl (by decide) ?_
    refine e_goto (tgt := 4) dX1_allMoney_27 (by decide) ?_
    exact h
theorem S_X1_allMoney {d n : Nat} {Q : Int32 → St → Prop} {σ : St}  (hn : FIX ≤ n) (h : K_X1_allMoney_4 d n σ Q σ 0 0) : Cn d n M_X1_allMoney md_X1_allMoney [.ref 3] σ (liI Q) := by
  refine Cn.of (k0 := 2) (by decide) rfl ?_
  show Ev (d, n, md_X1_allMoney, σ, liI Q) M_X1_allMoney 0 [some (.ref 3), none, none] [] σ
  refine e_iconst dX1_allMoney_0 ci_0 ?_
  refine e_istore_n dX1_allMoney_1 rfl rfl (by decide) ?_
  refine e_iconst dX1_allMoney_2 ci_0 ?_
  refine e_istore_n dX1_allMoney_3 rfl rfl (by decide) ?_
  exact h
abbrev K_X2_spareOf_12 (d n : Nat) (σ0 : St) (Q : Int32 → St → Prop) (σ : St) (x1 : Int32) (x2 : Int32) (x3 : Int32) : Prop := Ev (d, n, md_X2_spareOf, σ0, liI Q) M_X2_spareOf 12 [some (.ref 10), some (.int x1), some (.int x2), some (.int x3)] [] σ
theorem B_X2_spareOf_12 {d n : Nat} {σ0 : St} {Q : Int32 → St → Prop}  {σ : St} {x1 : Int32} {x2 : Int32} {x3 : Int32} (hn : FIX ≤ n) (hd : 1 ≤ d) (h : (((gI σ 3 2) ≤ x3 → Q x2 σ) ∧ (¬ (gI σ 3 2) ≤ x3 → vp_in x3 8 ∧ (((fn_X11_contains (gI σ 40 x3.toNatClampNeg) x1) = 0 → K_X2_spareOf_12 d n σ0 Q σ x1 x2 (x3 + 1)) ∧ (¬ (fn_X11_contains (gI σ 40 x3.toNatClampNeg) x1) = 0 → K_X2_spareOf_12 d n σ0 Q σ x1 (x2 + (-1)) (x3 + 1)))))) : K_X2_spareOf_12 d n σ0 Q σ x1 x2 x3 := by
  refine e_iload_n dX2_spareOf_12 rfl rfl ?_
  refine e_aload_n dX2_spareOf_13 rfl rfl ?_
  refine e_getR (y := 3) dX2_spareOf_14 fl_X2_19 (ob_10 hn) rfl rfl ?_
  refine e_getI dX2_spareOf_17 fl_X2_27 (ob_3 hn) rfl ?_
  refine e_icmp_ge (tgt := 45) dX2_spareOf_20 (by decide) (fun c1 => ?_) (fun c1 => ?_)
  · replace h := h.1 c1
    refine e_iload_n dX2_spareOf_45 rfl rfl ?_
    exact e_iret dX2_spareOf_46 rfl ⟨_, rfl, h⟩
  · replace h := h.2 c1
    refine e_aload_n dX2_spareOf_23 rfl rfl ?_
    refine e_getR (y := 40) dX2_spareOf_24 fl_X2_9 (ob_10 hn) rfl rfl ?_
    refine e_iload_n dX2_spareOf_27 rfl rfl ?_
    refine e_iald dX2_spareOf_28 (ar_40 hn) h.1 ?_
    replace h := h.2
    refine e_iload_n dX2_spareOf_29 rfl rfl ?_
    refine e_callN (M' := M_X11_contains) (as := [.int (gI σ 40 x3.toNatClampNeg), .int x1]) (rest := []) dX2_spareOf_30 nl_X2_46 mk_X11_contains rfl (Nat.le_of_ble_eq_true rfl) (show 0 < d by omega) (sp_X11_contains) Md_nil (fun v σv hq hf => ?_)
    obtain ⟨v, rfl, rfl, rfl⟩ := hq
    refine e_if_eq (tgt := 39) dX2_spareOf_33 (by decide) (fun c2 => ?_) (fun c2 => ?_)
    · replace h := h.1 c2
      refine e_iinc dX2_spareOf_39 rfl (ii_1 _) rfl (by decide) ?_
      refine e_goto (tgt := 12) dX2_spareOf_42 (by decide) ?_
      exact h
    · replace h := h.2 c2
      refine e_iinc dX2_spareOf_36 rfl (ii_m1 _) rfl (by decide) ?_
      refine e_iinc dX2_spareOf_39 rfl (ii_1 _) rfl (by decide) ?_
      refine e_goto (tgt := 12) dX2_spareOf_42 (by decide) ?_
      exact h
theorem S_X2_spareOf {d n : Nat} {Q : Int32 → St → Prop} {σ : St} {a1 : Int32} (hn : FIX ≤ n) (hd : 1 ≤ d) (h : vp_in a1 10 ∧ K_X2_spareOf_12 d n σ Q σ a1 (gI σ 12 a1.toNatClampNeg) 0) : Cn d n M_X2_spareOf md_X2_spareOf [.ref 10, .int a1] σ (liI Q) := by
  refine Cn.of (k0 := 2) (by decide) rfl ?_
  show Ev (d, n, md_X2_spareOf, σ, liI Q) M_X2_spareOf 0 [some (.ref 10), some (.int a1), none, none] [] σ
  refine e_aload_n dX2_spareOf_0 rfl rfl ?_
  refine e_getR (y := 1) dX2_spareOf_1 fl_X2_15 (ob_10 hn) rfl rfl ?_
  refine e_getR (y := 12) dX2_spareOf_4 fl_X2_80 (ob_1 hn) rfl rfl ?_
  refine e_iload_n dX2_spareOf_7 rfl rfl ?_
  refine e_iald dX2_spareOf_8 (ar_12 hn) h.1 ?_
  replace h := h.2
  refine e_istore_n dX2_spareOf_9 rfl rfl (by decide) ?_
  refine e_iconst dX2_spareOf_10 ci_0 ?_
  refine e_istore_n dX2_spareOf_11 rfl rfl (by decide) ?_
  exact h
abbrev K_X2_openLessons_4 (d n : Nat) (σ0 : St) (Q : Int32 → St → Prop) (σ : St) (x1 : Int32) (x2 : Int32) : Prop := Ev (d, n, md_X2_openLessons, σ0, liI Q) M_X2_openLessons 4 [some (.ref 10), some (.int x1), some (.int x2)] [] σ
theorem B_X2_openLessons_4 {d n : Nat} {σ0 : St} {Q : Int32 → St → Prop}  {σ : St} {x1 : Int32} {x2 : Int32} (hn : FIX ≤ n) (hd : 1 ≤ d) (h : (((gI σ 1 0) ≤ x2 → Q x1 σ) ∧ (¬ (gI σ 1 0) ≤ x2 → ∃ Q2 : Int32 → St → Prop, Cn (d - 1) n M_X2_spareOf md_X2_spareOf [.ref 10, .int x2] σ (liI Q2) ∧ ∀ (v5 : Int32) (σ4 : St), Q2 v5 σ4 → Fr md_X2_spareOf σ σ4 → ((v5 ≤ 0 → K_X2_openLessons_4 d n σ0 Q σ4 x1 (x2 + 1)) ∧ (¬ v5 ≤ 0 → K_X2_openLessons_4 d n σ0 Q σ4 (x1 ||| ((1 : Int32) <<< (x2 &&& 31))) (x2 + 1)))))) : K_X2_openLessons_4 d n σ0 Q σ x1 x2 := by
  refine e_iload_n dX2_openLessons_4 rfl rfl ?_
  refine e_aload_n dX2_openLessons_5 rfl rfl ?_
  refine e_getR (y := 1) dX2_openLessons_6 fl_X2_15 (ob_10 hn) rfl rfl ?_
  refine e_getI dX2_openLessons_9 fl_X2_74 (ob_1 hn) rfl ?_
  refine e_icmp_ge (tgt := 35) dX2_openLessons_12 (by decide) (fun c1 => ?_) (fun c1 => ?_)
  · replace h := h.1 c1
    refine e_iload_n dX2_openLessons_35 rfl rfl ?_
    exact e_iret dX2_openLessons_36 rfl ⟨_, rfl, h⟩
  · replace h := h.2 c1
    refine e_aload_n dX2_openLessons_15 rfl rfl ?_
    refine e_iload_n dX2_openLessons_16 rfl rfl ?_
    obtain ⟨Q2, hc3, h⟩ := h
    refine e_callV (M' := M_X2_spareOf) (as := [.int x2]) (rest := []) dX2_openLessons_17 ml_X2_77 mk_X2_spareOf (ob_10 hn) rfl rfl rfl (Nat.le_of_ble_eq_true rfl) (show 0 < d by omega) hc3 (Md_le (b := md_X2_openLessons) (by decide)) (fun v σ4 hq hf => ?_)
    obtain ⟨v5, rfl, hq⟩ := hq
    replace h := h v5 σ4 hq hf
    refine e_if_le (tgt := 29) dX2_openLessons_20 (by decide) (fun c8 => ?_) (fun c8 => ?_)
    · replace h := h.1 c8
      refine e_iinc dX2_openLessons_29 rfl (ii_1 _) rfl (by decide) ?_
      refine e_goto (tgt := 4) dX2_openLessons_32 (by decide) ?_
      exact h
    · replace h := h.2 c8
      refine e_iload_n dX2_openLessons_23 rfl rfl ?_
      refine e_iconst dX2_openLessons_24 ci_1 ?_
      refine e_iload_n dX2_openLessons_25 rfl rfl ?_
      refine e_ishl dX2_openLessons_26 ?_
      refine e_ior dX2_openLessons_27 ?_
      refine e_istore_n dX2_openLessons_28 rfl rfl (by decide) ?_
      refine e_iinc dX2_openLessons_29 rfl (ii_1 _) rfl (by decide) ?_
      refine e_goto (tgt := 4) dX2_openLessons_32 (by decide) ?_
      exact h
theorem S_X2_openLessons {d n : Nat} {Q : Int32 → St → Prop} {σ : St}  (hn : FIX ≤ n) (hd : 1 ≤ d) (h : K_X2_openLessons_4 d n σ Q σ 0 0) : Cn d n M_X2_openLessons md_X2_openLessons [.ref 10] σ (liI Q) := by
  refine Cn.of (k0 := 2) (by decide) rfl ?_
  show Ev (d, n, md_X2_openLessons, σ, liI Q) M_X2_openLessons 0 [some (.ref 10), none, none] [] σ
  refine e_iconst dX2_openLessons_0 ci_0 ?_
  refine e_istore_n dX2_openLessons_1 rfl rfl (by decide) ?_
  refine e_iconst dX2_openLessons_2 ci_0 ?_
  refine e_istore_n dX2_openLessons_3 rfl rfl (by decide) ?_
  exact h
abbrev K_X5_rankWithin_2 (d n : Nat) (σ0 : St) (Q : Int32 → St → Prop) (σ : St) (x0 : Nat) (x1 : Int32) (x2 : Int32) : Prop := Ev (d, n, md_X5_rankWithin, σ0, liI Q) M_X5_rankWithin 2 [some (.ref x0), some (.int x1), some (.int x2)] [] σ
theorem B_X5_rankWithin_2 {d n : Nat} {σ0 : St} {Q : Int32 → St → Prop}  {σ : St} {x0 : Nat} {x1 : Int32} {x2 : Int32} (hp_x0 : IsP n x0) (h : (((gI σ x0 8) ≤ x2 → Q (-1) σ) ∧ (¬ (gI σ x0 8) ≤ x2 → vp_in x2 1024 ∧ (((((gI σ (x0 + 4) x2.toNatClampNeg) &&& 1023) &&& (x1 ^^^ (-1))) ≠ 0 → K_X5_rankWithin_2 d n σ0 Q σ x0 x1 (x2 + 1)) ∧ ((((gI σ (x0 + 4) x2.toNatClampNeg) &&& 1023) &&& (x1 ^^^ (-1))) = 0 → Q x2 σ))))) : K_X5_rankWithin_2 d n σ0 Q σ x0 x1 x2 := by
  refine e_iload_n dX5_rankWithin_2 rfl rfl ?_
  refine e_aload_n dX5_rankWithin_3 rfl rfl ?_
  refine e_getI dX5_rankWithin_4 fl_X5_51 (Ob.p hp_x0) rfl ?_
  refine e_icmp_ge (tgt := 35) dX5_rankWithin_7 (by decide) (fun c1 => ?_) (fun c1 => ?_)
  · replace h := h.1 c1
    refine e_iconst dX5_rankWithin_35 ci_m1 ?_
    exact e_iret dX5_rankWithin_36 rfl ⟨_, rfl, h⟩
  · replace h := h.2 c1
    refine e_aload_n dX5_rankWithin_10 rfl rfl ?_
    refine e_getR (y := x0 + 4) dX5_rankWithin_11 fl_X5_22 (Ob.p hp_x0) rfl (rf_p hp_x0 (by decide)) ?_
    refine e_iload_n dX5_rankWithin_14 rfl rfl ?_
    refine e_iald dX5_rankWithin_15 (Ar.p4 hp_x0) h.1 ?_
    replace h := h.2
    refine e_sipush dX5_rankWithin_16 cs_1023 ?_
    refine e_iand dX5_rankWithin_19 ?_
    refine e_iload_n dX5_rankWithin_20 rfl rfl ?_
    refine e_iconst dX5_rankWithin_21 ci_m1 ?_
    refine e_ixor dX5_rankWithin_22 ?_
    refine e_iand dX5_rankWithin_23 ?_
    refine e_if_ne (tgt := 29) dX5_rankWithin_24 (by decide) (fun c2 => ?_) (fun c2 => ?_)
    · replace h := h.1 c2
      refine e_iinc dX5_rankWithin_29 rfl (ii_1 _) rfl (by decide) ?_
      refine e_goto (tgt := 2) dX5_rankWithin_32 (by decide) ?_
      exact h
    · replace h := h.2 c2
      refine e_iload_n dX5_rankWithin_27 rfl rfl ?_
      exact e_iret dX5_rankWithin_28 rfl ⟨_, rfl, h⟩
theorem S_X5_rankWithin {d n : Nat} {Q : Int32 → St → Prop} {σ : St} {p : Nat} {a1 : Int32} (hp_p : IsP n p) (h : K_X5_rankWithin_2 d n σ Q σ p a1 0) : Cn d n M_X5_rankWithin md_X5_rankWithin [.ref p, .int a1] σ (liI Q) := by
  refine Cn.of (k0 := 1) (by decide) rfl ?_
  show Ev (d, n, md_X5_rankWithin, σ, liI Q) M_X5_rankWithin 0 [some (.ref p), some (.int a1), none] [] σ
  refine e_iconst dX5_rankWithin_0 ci_0 ?_
  refine e_istore_n dX5_rankWithin_1 rfl rfl (by decide) ?_
  exact h
abbrev K_X2_works_2 (d n : Nat) (σ0 : St) (Q : Int32 → St → Prop) (σ : St) (x1 : Int32) (x2 : Int32) (x3 : Int32) : Prop := Ev (d, n, md_X2_works, σ0, liI Q) M_X2_works 2 [some (.ref 10), some (.int x1), some (.int x2), some (.int x3), none] [] σ
abbrev K_X2_works_54 (d n : Nat) (σ0 : St) (Q : Int32 → St → Prop) (σ : St) (x1 : Int32) (x2 : Int32) (x3 : Int32) : Prop := Ev (d, n, md_X2_works, σ0, liI Q) M_X2_works 54 [some (.ref 10), some (.int x1), some (.int x2), some (.int x3), none] [] σ
abbrev K_X2_works_142 (d n : Nat) (σ0 : St) (Q : Int32 → St → Prop) (σ : St) (x3 : Int32) : Prop := Ev (d, n, md_X2_works, σ0, liI Q) M_X2_works 142 [some (.ref 10), none, none, some (.int x3), none] [] σ
theorem B_X2_works_2 {d n : Nat} {σ0 : St} {Q : Int32 → St → Prop}  {σ : St} {x1 : Int32} {x2 : Int32} {x3 : Int32} (hn : FIX ≤ n) (hd : 1 ≤ d) (h : (((gI σ 3 2) ≤ x3 → K_X2_works_54 d n σ0 Q σ x1 x2 0) ∧ (¬ (gI σ 3 2) ≤ x3 → (((fn_X11_contains x1 x3) = 0 → vp_in x3 8 ∧ vp_in x3 8 ∧ K_X2_works_2 d n σ0 Q (sI σ 40 x3.toNatClampNeg ((gI σ 34 x3.toNatClampNeg) &&& (((1 : Int32) <<< (x2 &&& 31)) ^^^ (-1)))) x1 x2 (x3 + 1)) ∧ (¬ (fn_X11_contains x1 x3) = 0 → vp_in x3 8 ∧ K_X2_works_2 d n σ0 Q (sI σ 40 x3.toNatClampNeg 0) x1 x2 (x3 + 1)))))) : K_X2_works_2 d n σ0 Q σ x1 x2 x3 := by
  refine e_iload_n dX2_works_2 rfl rfl ?_
  refine e_aload_n dX2_works_3 rfl rfl ?_
  refine e_getR (y := 3) dX2_works_4 fl_X2_19 (ob_10 hn) rfl rfl ?_
  refine e_getI dX2_works_7 fl_X2_27 (ob_3 hn) rfl ?_
  refine e_icmp_ge (tgt := 52) dX2_works_10 (by decide) (fun c1 => ?_) (fun c1 => ?_)
  · replace h := h.1 c1
    refine e_iconst dX2_works_52 ci_0 ?_
    refine e_istore_n dX2_works_53 rfl rfl (by decide) ?_
    exact h
  · replace h := h.2 c1
    refine e_aload_n dX2_works_13 rfl rfl ?_
    refine e_getR (y := 40) dX2_works_14 fl_X2_9 (ob_10 hn) rfl rfl ?_
    refine e_iload_n dX2_works_17 rfl rfl ?_
    refine e_iload_n dX2_works_18 rfl rfl ?_
    refine e_iload_n dX2_works_19 rfl rfl ?_
    refine e_callN (M' := M_X11_contains) (as := [.int x1, .int x3]) (rest := [.int x3, .ref 40]) dX2_works_20 nl_X2_46 mk_X11_contains rfl (Nat.le_of_ble_eq_true rfl) (show 0 < d by omega) (sp_X11_contains) Md_nil (fun v σv hq hf => ?_)
    obtain ⟨v, rfl, rfl, rfl⟩ := hq
    refine e_if_eq (tgt := 30) dX2_works_23 (by decide) (fun c2 => ?_) (fun c2 => ?_)
    · replace h := h.1 c2
      refine e_aload_n dX2_works_30 rfl rfl ?_
      refine e_getR (y := 8) dX2_works_31 fl_X2_23 (ob_10 hn) rfl rfl ?_
      refine e_getR (y := 34) dX2_works_34 fl_X2_49 (ob_8 hn) rfl rfl ?_
      refine e_iload_n dX2_works_37 rfl rfl ?_
      refine e_iald dX2_works_38 (ar_34 hn) h.1 ?_
      replace h := h.2
      refine e_iconst dX2_works_39 ci_1 ?_
      refine e_iload_n dX2_works_40 rfl rfl ?_
      refine e_ishl dX2_works_41 ?_
      refine e_iconst dX2_works_42 ci_m1 ?_
      refine e_ixor dX2_works_43 ?_
      refine e_iand dX2_works_44 ?_
      refine e_iast dX2_works_45 (ar_40 hn) h.1 (md_r (m := md_X2_works) (by decide)) ?_
      replace h := h.2
      refine e_iinc dX2_works_46 rfl (ii_1 _) rfl (by decide) ?_
      refine e_goto (tgt := 2) dX2_works_49 (by decide) ?_
      exact h
    · replace h := h.2 c2
      refine e_iconst dX2_works_26 ci_0 ?_
      refine e_goto (tgt := 45) dX2_works_27 (by decide) ?_
      refine e_iast dX2_works_45 (ar_40 hn) h.1 (md_r (m := md_X2_works) (by decide)) ?_
      replace h := h.2
      refine e_iinc dX2_works_46 rfl (ii_1 _) rfl (by decide) ?_
      refine e_goto (tgt := 2) dX2_works_49 (by decide) ?_
      exact h
theorem B_X2_works_54 {d n : Nat} {σ0 : St} {Q : Int32 → St → Prop}  {σ : St} {x1 : Int32} {x2 : Int32} {x3 : Int32} (hn : FIX ≤ n) (hd : 1 ≤ d) (h : (((gI σ 3 2) ≤ x3 → K_X2_works_142 d n σ0 Q σ 0) ∧ (¬ (gI σ 3 2) ≤ x3 → (((fn_X11_contains x1 x3) = 0 → vp_in x3 8 ∧ ∃ pp3, gR σ x3.toNatClampNeg = some pp3 ∧ IsP n pp3 ∧ vp_in x3 8 ∧ vp_in (gI σ 40 x3.toNatClampNeg) 1024 ∧ (((gI σ (pp3 + 3) (gI σ 40 x3.toNatClampNeg).toNatClampNeg) ≠ 0 → K_X2_works_54 d n σ0 Q σ x1 x2 (x3 + 1)) ∧ ((gI σ (pp3 + 3) (gI σ 40 x3.toNatClampNeg).toNatClampNeg) = 0 → Q 0 σ))) ∧ (¬ (fn_X11_contains x1 x3) = 0 → vp_in x3 8 ∧ ∃ pp5, gR σ x3.toNatClampNeg = some pp5 ∧ IsP n pp5 ∧ ∃ Q6 : Int32 → St → Prop, Cn (d - 1) n M_X2_openLessons md_X2_openLessons [.ref 10] σ (liI Q6) ∧ ∀ (v9 : Int32) (σ8 : St), Q6 v9 σ8 → Fr md_X2_openLessons σ σ8 → ∃ Q12 : Int32 → St → Prop, Cn (d - 1) n M_X5_rankWithin md_X5_rankWithin [.ref pp5, .int (v9 &&& (((1 : Int32) <<< (x2 &&& 31)) ^^^ (-1)))] σ8 (liI Q12) ∧ ∀ (v15 : Int32) (σ14 : St), Q12 v15 σ14 → Fr md_X5_rankWithin σ8 σ14 → pre_X5_bundleAt σ14 pp5 v15 ∧ vp_in x3 8 ∧ vp_in x3 8 ∧ ∃ pp18, gR (sI σ14 40 x3.toNatClampNeg (fn_X5_bundleAt σ14 pp5 v15)) x3.toNatClampNeg = some pp18 ∧ IsP n pp18 ∧ vp_in x3 8 ∧ vp_in (gI (sI σ14 40 x3.toNatClampNeg (fn_X5_bundleAt σ14 pp5 v15)) 40 x3.toNatClampNeg) 1024 ∧ (((gI (sI σ14 40 x3.toNatClampNeg (fn_X5_bundleAt σ14 pp5 v15)) (pp18 + 3) (gI (sI σ14 40 x3.toNatClampNeg (fn_X5_bundleAt σ14 pp5 v15)) 40 x3.toNatClampNeg).toNatClampNeg) ≠ 0 → K_X2_works_54 d n σ0 Q (sI σ14 40 x3.toNatClampNeg (fn_X5_bundleAt σ14 pp5 v15)) x1 x2 (x3 + 1)) ∧ ((gI (sI σ14 40 x3.toNatClampNeg (fn_X5_bundleAt σ14 pp5 v15)) (pp18 + 3) (gI (sI σ14 40 x3.toNatClampNeg (fn_X5_bundleAt σ14 pp5 v15)) 40 x3.toNatClampNeg).toNatClampNeg) = 0 → Q 0 (sI σ14 40 x3.toNatClampNeg (fn_X5_bundleAt σ14 pp5 v15))))))))) : K_X2_works_54 d n σ0 Q σ x1 x2 x3 := by
  refine e_iload_n dX2_works_54 rfl rfl ?_
  refine e_aload_n dX2_works_55 rfl rfl ?_
  refine e_getR (y := 3) dX2_works_56 fl_X2_19 (ob_10 hn) rfl rfl ?_
  refine e_getI dX2_works_59 fl_X2_27 (ob_3 hn) rfl ?_
  refine e_icmp_ge (tgt := 140) dX2_works_62 (by decide) (fun c1 => ?_) (fun c1 => ?_)
  · replace h := h.1 c1
    refine e_iconst dX2_works_140 ci_0 ?_
    refine e_istore_n dX2_works_141 rfl rfl (by decide) ?_
    refine e_kill [true, false, false, true, false] ?_
    exact h
  · replace h := h.2 c1
    refine e_iload_n dX2_works_65 rfl rfl ?_
    refine e_iload_n dX2_works_66 rfl rfl ?_
    refine e_callN (M' := M_X11_contains) (as := [.int x1, .int x3]) (rest := []) dX2_works_67 nl_X2_46 mk_X11_contains rfl (Nat.le_of_ble_eq_true rfl) (show 0 < d by omega) (sp_X11_contains) Md_nil (fun v σv hq hf => ?_)
    obtain ⟨v, rfl, rfl, rfl⟩ := hq
    refine e_if_eq (tgt := 110) dX2_works_70 (by decide) (fun c2 => ?_) (fun c2 => ?_)
    · replace h := h.1 c2
      refine e_aload_n dX2_works_110 rfl rfl ?_
      refine e_getR (y := 3) dX2_works_111 fl_X2_19 (ob_10 hn) rfl rfl ?_
      refine e_getR (y := 18) dX2_works_114 fl_X2_54 (ob_3 hn) rfl rfl ?_
      refine e_iload_n dX2_works_117 rfl rfl ?_
      obtain ⟨hi, pp3, hg, hp_pp3, h⟩ := h
      refine e_aldP dX2_works_118 hn hi hg ?_
      refine e_getR (y := pp3 + 3) dX2_works_119 fl_X2_70 (Ob.p hp_pp3) rfl (rf_p hp_pp3 (by decide)) ?_
      refine e_aload_n dX2_works_122 rfl rfl ?_
      refine e_getR (y := 40) dX2_works_123 fl_X2_9 (ob_10 hn) rfl rfl ?_
      refine e_iload_n dX2_works_126 rfl rfl ?_
      refine e_iald dX2_works_127 (ar_40 hn) h.1 ?_
      replace h := h.2
      refine e_zald dX2_works_128 (Ar.p3 hp_pp3) h.1 ?_
      replace h := h.2
      refine e_if_ne (tgt := 134) dX2_works_129 (by decide) (fun c4 => ?_) (fun c4 => ?_)
      · replace h := h.1 c4
        refine e_iinc dX2_works_134 rfl (ii_1 _) rfl (by decide) ?_
        refine e_goto (tgt := 54) dX2_works_137 (by decide) ?_
        exact h
      · replace h := h.2 c4
        refine e_iconst dX2_works_132 ci_0 ?_
        exact e_zret dX2_works_133 rfl (nar_z (Or.inl rfl)) ⟨_, rfl, h⟩
    · replace h := h.2 c2
      refine e_aload_n dX2_works_73 rfl rfl ?_
      refine e_getR (y := 3) dX2_works_74 fl_X2_19 (ob_10 hn) rfl rfl ?_
      refine e_getR (y := 18) dX2_works_77 fl_X2_54 (ob_3 hn) rfl rfl ?_
      refine e_iload_n dX2_works_80 rfl rfl ?_
      obtain ⟨hi, pp5, hg, hp_pp5, h⟩ := h
      refine e_aldP dX2_works_81 hn hi hg ?_
      refine e_astore dX2_works_82 rfl (by decide) ?_
      refine e_aload_n dX2_works_84 rfl rfl ?_
      refine e_getR (y := 40) dX2_works_85 fl_X2_9 (ob_10 hn) rfl rfl ?_
      refine e_iload_n dX2_works_88 rfl rfl ?_
      refine e_aload dX2_works_89 rfl ?_
      refine e_aload dX2_works_91 rfl ?_
      refine e_aload_n dX2_works_93 rfl rfl ?_
      obtain ⟨Q6, hc7, h⟩ := h
      refine e_callV (M' := M_X2_openLessons) (as := []) (rest := [.ref pp5, .ref pp5, .int x3, .ref 40]) dX2_works_94 ml_X2_58 mk_X2_openLessons (ob_10 hn) rfl rfl rfl (Nat.le_of_ble_eq_true rfl) (show 0 < d by omega) hc7 (Md_le (b := md_X2_works) (by decide)) (fun v σ8 hq hf => ?_)
      obtain ⟨v9, rfl, hq⟩ := hq
      replace h := h v9 σ8 hq hf
      refine e_iconst dX2_works_97 ci_1 ?_
      refine e_iload_n dX2_works_98 rfl rfl ?_
      refine e_ishl dX2_works_99 ?_
      refine e_iconst dX2_works_100 ci_m1 ?_
      refine e_ixor dX2_works_101 ?_
      refine e_iand dX2_works_102 ?_
      obtain ⟨Q12, hc13, h⟩ := h
      refine e_callV (M' := M_X5_rankWithin) (as := [.int (v9 &&& (((1 : Int32) <<< (x2 &&& 31)) ^^^ (-1)))]) (rest := [.ref pp5, .int x3, .ref 40]) dX2_works_103 ml_X2_62 mk_X5_rankWithin (Ob.p hp_pp5) rfl rfl rfl (Nat.le_of_ble_eq_true rfl) (show 0 < d by omega) hc13 (Md_le (b := md_X2_works) (by decide)) (fun v σ14 hq hf => ?_)
      obtain ⟨v15, rfl, hq⟩ := hq
      replace h := h v15 σ14 hq hf
      refine e_callV (M' := M_X5_bundleAt) (as := [.int v15]) (rest := [.int x3, .ref 40]) dX2_works_106 ml_X2_67 mk_X5_bundleAt (Ob.p hp_pp5) rfl rfl rfl (Nat.le_of_ble_eq_true rfl) (show 0 < d by omega) (sp_X5_bundleAt hp_pp5 h.1) Md_nil (fun v σv hq hf => ?_)
      obtain ⟨v, rfl, rfl, rfl⟩ := hq
      replace h := h.2
      refine e_iast dX2_works_109 (ar_40 hn) h.1 (md_r (m := md_X2_works) (by decide)) ?_
      replace h := h.2
      refine e_aload_n dX2_works_110 rfl rfl ?_
      refine e_getR (y := 3) dX2_works_111 fl_X2_19 (ob_10 hn) rfl rfl ?_
      refine e_getR (y := 18) dX2_works_114 fl_X2_54 (ob_3 hn) rfl rfl ?_
      refine e_iload_n dX2_works_117 rfl rfl ?_
      obtain ⟨hi, pp18, hg, hp_pp18, h⟩ := h
      refine e_aldP dX2_works_118 hn hi hg ?_
      refine e_getR (y := pp18 + 3) dX2_works_119 fl_X2_70 (Ob.p hp_pp18) rfl (rf_p hp_pp18 (by decide)) ?_
      refine e_aload_n dX2_works_122 rfl rfl ?_
      refine e_getR (y := 40) dX2_works_123 fl_X2_9 (ob_10 hn) rfl rfl ?_
      refine e_iload_n dX2_works_126 rfl rfl ?_
      refine e_iald dX2_works_127 (ar_40 hn) h.1 ?_
      replace h := h.2
      refine e_zald dX2_works_128 (Ar.p3 hp_pp18) h.1 ?_
      replace h := h.2
      refine e_if_ne (tgt := 134) dX2_works_129 (by decide) (fun c19 => ?_) (fun c19 => ?_)
      · replace h := h.1 c19
        refine e_iinc dX2_works_134 rfl (ii_1 _) rfl (by decide) ?_
        refine e_goto (tgt := 54) dX2_works_137 (by decide) ?_
        refine e_kill [true, true, true, true, false] ?_
        exact h
      · replace h := h.2 c19
        refine e_iconst dX2_works_132 ci_0 ?_
        exact e_zret dX2_works_133 rfl (nar_z (Or.inl rfl)) ⟨_, rfl, h⟩
theorem B_X2_works_142 {d n : Nat} {σ0 : St} {Q : Int32 → St → Prop}  {σ : St} {x3 : Int32} (hn : FIX ≤ n) (hd : 1 ≤ d) (h : (((gI σ 1 0) ≤ x3 → Q 1 σ) ∧ (¬ (gI σ 1 0) ≤ x3 → ∃ Q2 : Int32 → St → Prop, Cn (d - 1) n M_X2_spareOf md_X2_spareOf [.ref 10, .int x3] σ (liI Q2) ∧ ∀ (v5 : Int32) (σ4 : St), Q2 v5 σ4 → Fr md_X2_spareOf σ σ4 → (((0 : Int32) ≤ v5 → K_X2_works_142 d n σ0 Q σ4 (x3 + 1)) ∧ (¬ (0 : Int32) ≤ v5 → Q 0 σ4))))) : K_X2_works_142 d n σ0 Q σ x3 := by
  refine e_iload_n dX2_works_142 rfl rfl ?_
  refine e_aload_n dX2_works_143 rfl rfl ?_
  refine e_getR (y := 1) dX2_works_144 fl_X2_15 (ob_10 hn) rfl rfl ?_
  refine e_getI dX2_works_147 fl_X2_74 (ob_1 hn) rfl ?_
  refine e_icmp_ge (tgt := 169) dX2_works_150 (by decide) (fun c1 => ?_) (fun c1 => ?_)
  · replace h := h.1 c1
    refine e_iconst dX2_works_169 ci_1 ?_
    exact e_zret dX2_works_170 rfl (nar_z (Or.inr rfl)) ⟨_, rfl, h⟩
  · replace h := h.2 c1
    refine e_aload_n dX2_works_153 rfl rfl ?_
    refine e_iload_n dX2_works_154 rfl rfl ?_
    obtain ⟨Q2, hc3, h⟩ := h
    refine e_callV (M' := M_X2_spareOf) (as := [.int x3]) (rest := []) dX2_works_155 ml_X2_77 mk_X2_spareOf (ob_10 hn) rfl rfl rfl (Nat.le_of_ble_eq_true rfl) (show 0 < d by omega) hc3 (Md_le (b := md_X2_works) (by decide)) (fun v σ4 hq hf => ?_)
    obtain ⟨v5, rfl, hq⟩ := hq
    replace h := h v5 σ4 hq hf
    refine e_if_ge (tgt := 163) dX2_works_158 (by decide) (fun c8 => ?_) (fun c8 => ?_)
    · replace h := h.1 c8
      refine e_iinc dX2_works_163 rfl (ii_1 _) rfl (by decide) ?_
      refine e_goto (tgt := 142) dX2_works_166 (by decide) ?_
      exact h
    · replace h := h.2 c8
      refine e_iconst dX2_works_161 ci_0 ?_
      exact e_zret dX2_works_162 rfl (nar_z (Or.inl rfl)) ⟨_, rfl, h⟩
theorem S_X2_works {d n : Nat} {Q : Int32 → St → Prop} {σ : St} {a1 : Int32} {a2 : Int32} (hn : FIX ≤ n) (hd : 1 ≤ d) (h : K_X2_works_2 d n σ Q σ a1 a2 0) : Cn d n M_X2_works md_X2_works [.ref 10, .int a1, .int a2] σ (liI Q) := by
  refine Cn.of (k0 := 2) (by decide) rfl ?_
  show Ev (d, n, md_X2_works, σ, liI Q) M_X2_works 0 [some (.ref 10), some (.int a1), some (.int a2), none, none] [] σ
  refine e_iconst dX2_works_0 ci_0 ?_
  refine e_istore_n dX2_works_1 rfl rfl (by decide) ?_
  exact h
abbrev K_X2_find_2 (d n : Nat) (σ0 : St) (Q : Int32 → St → Prop) (σ : St) (x1 : Int32) (x2 : Int32) : Prop := Ev (d, n, md_X2_find, σ0, liI Q) M_X2_find 2 [some (.ref 10), some (.int x1), some (.int x2), none] [] σ
abbrev K_X2_find_15 (d n : Nat) (σ0 : St) (Q : Int32 → St → Prop) (σ : St) (x1 : Int32) (x2 : Int32) (x3 : Int32) : Prop := Ev (d, n, md_X2_find, σ0, liI Q) M_X2_find 15 [some (.ref 10), some (.int x1), some (.int x2), some (.int x3)] [] σ
theorem B_X2_find_2 {d n : Nat} {σ0 : St} {Q : Int32 → St → Prop}  {σ : St} {x1 : Int32} {x2 : Int32} (hn : FIX ≤ n) (hd : 1 ≤ d) (h : (((gI σ 3 2) < x2 → Q 0 σ) ∧ (¬ (gI σ 3 2) < x2 → K_X2_find_15 d n σ0 Q σ x1 x2 0))) : K_X2_find_2 d n σ0 Q σ x1 x2 := by
  refine e_iload_n dX2_find_2 rfl rfl ?_
  refine e_aload_n dX2_find_3 rfl rfl ?_
  refine e_getR (y := 3) dX2_find_4 fl_X2_19 (ob_10 hn) rfl rfl ?_
  refine e_getI dX2_find_7 fl_X2_27 (ob_3 hn) rfl ?_
  refine e_icmp_gt (tgt := 64) dX2_find_10 (by decide) (fun c1 => ?_) (fun c1 => ?_)
  · replace h := h.1 c1
    refine e_iconst dX2_find_64 ci_0 ?_
    exact e_zret dX2_find_65 rfl (nar_z (Or.inl rfl)) ⟨_, rfl, h⟩
  · replace h := h.2 c1
    refine e_iconst dX2_find_13 ci_0 ?_
    refine e_istore_n dX2_find_14 rfl rfl (by decide) ?_
    exact h
theorem B_X2_find_15 {d n : Nat} {σ0 : St} {Q : Int32 → St → Prop}  {σ : St} {x1 : Int32} {x2 : Int32} {x3 : Int32} (hn : FIX ≤ n) (hd : 1 ≤ d) (h : ((((1 : Int32) <<< ((gI σ 3 2) &&& 31)) ≤ x3 → K_X2_find_2 d n σ0 Q σ x1 (x2 + 1)) ∧ (¬ ((1 : Int32) <<< ((gI σ 3 2) &&& 31)) ≤ x3 → (((fn_J6_bitCount_0f7a4 x3) ≠ x2 → K_X2_find_15 d n σ0 Q σ x1 x2 (x3 + 1)) ∧ ((fn_J6_bitCount_0f7a4 x3) = x2 → ∃ Q3 : Int32 → St → Prop, Cn (d - 1) n M_X2_works md_X2_works [.ref 10, .int x3, .int x1] σ (liI Q3) ∧ ∀ (v6 : Int32) (σ5 : St), Q3 v6 σ5 → Fr md_X2_works σ σ5 → ((v6 = 0 → K_X2_find_15 d n σ0 Q σ5 x1 x2 (x3 + 1)) ∧ (¬ v6 = 0 → Q 1 (sI σ5 10 3 x3)))))))) : K_X2_find_15 d n σ0 Q σ x1 x2 x3 := by
  refine e_iload_n dX2_find_15 rfl rfl ?_
  refine e_iconst dX2_find_16 ci_1 ?_
  refine e_aload_n dX2_find_17 rfl rfl ?_
  refine e_getR (y := 3) dX2_find_18 fl_X2_19 (ob_10 hn) rfl rfl ?_
  refine e_getI dX2_find_21 fl_X2_27 (ob_3 hn) rfl ?_
  refine e_ishl dX2_find_24 ?_
  refine e_icmp_ge (tgt := 58) dX2_find_25 (by decide) (fun c1 => ?_) (fun c1 => ?_)
  · replace h := h.1 c1
    refine e_iinc dX2_find_58 rfl (ii_1 _) rfl (by decide) ?_
    refine e_goto (tgt := 2) dX2_find_61 (by decide) ?_
    refine e_kill [true, true, true, false] ?_
    exact h
  · replace h := h.2 c1
    refine e_iload_n dX2_find_28 rfl rfl ?_
    refine e_callS (M' := M_J6_bitCount_0f7a4) (as := [.int x3]) (rest := []) dX2_find_29 ml_X2_33 mk_J6_bitCount_0f7a4 rfl (Nat.le_of_ble_eq_true rfl) (show 0 < d by omega) (sp_J6_bitCount_0f7a4) Md_nil (fun v σv hq hf => ?_)
    obtain ⟨v, rfl, rfl, rfl⟩ := hq
    refine e_iload_n dX2_find_32 rfl rfl ?_
    refine e_icmp_ne (tgt := 52) dX2_find_33 (by decide) (fun c2 => ?_) (fun c2 => ?_)
    · replace h := h.1 c2
      refine e_iinc dX2_find_52 rfl (ii_1 _) rfl (by decide) ?_
      refine e_goto (tgt := 15) dX2_find_55 (by decide) ?_
      exact h
    · replace h := h.2 c2
      refine e_aload_n dX2_find_36 rfl rfl ?_
      refine e_iload_n dX2_find_37 rfl rfl ?_
      refine e_iload_n dX2_find_38 rfl rfl ?_
      obtain ⟨Q3, hc4, h⟩ := h
      refine e_callV (M' := M_X2_works) (as := [.int x3, .int x1]) (rest := []) dX2_find_39 ml_X2_39 mk_X2_works (ob_10 hn) rfl rfl rfl (Nat.le_of_ble_eq_true rfl) (show 0 < d by omega) hc4 (Md_le (b := md_X2_find) (by decide)) (fun v σ5 hq hf => ?_)
      obtain ⟨v6, rfl, hq⟩ := hq
      replace h := h v6 σ5 hq hf
      refine e_if_eq (tgt := 52) dX2_find_42 (by decide) (fun c9 => ?_) (fun c9 => ?_)
      · replace h := h.1 c9
        refine e_iinc dX2_find_52 rfl (ii_1 _) rfl (by decide) ?_
        refine e_goto (tgt := 15) dX2_find_55 (by decide) ?_
        exact h
      · replace h := h.2 c9
        refine e_aload_n dX2_find_45 rfl rfl ?_
        refine e_iload_n dX2_find_46 rfl rfl ?_
        refine e_putI dX2_find_47 fl_X2_43 (ob_10 hn) rfl (fpI_2_3 _) (md_c (m := md_X2_find) (by decide)) ?_
        refine e_iconst dX2_find_50 ci_1 ?_
        exact e_zret dX2_find_51 rfl (nar_z (Or.inr rfl)) ⟨_, rfl, h⟩
theorem S_X2_find {d n : Nat} {Q : Int32 → St → Prop} {σ : St} {a1 : Int32} (hn : FIX ≤ n) (hd : 1 ≤ d) (h : K_X2_find_2 d n σ Q σ a1 0) : Cn d n M_X2_find md_X2_find [.ref 10, .int a1] σ (liI Q) := by
  refine Cn.of (k0 := 2) (by decide) rfl ?_
  show Ev (d, n, md_X2_find, σ, liI Q) M_X2_find 0 [some (.ref 10), some (.int a1), none, none] [] σ
  refine e_iconst dX2_find_0 ci_0 ?_
  refine e_istore_n dX2_find_1 rfl rfl (by decide) ?_
  exact h
abbrev K_X3_envyOf_53 (d n : Nat) (σ0 : St) (Q : Int32 → St → Prop) (σ : St) (x3 : Nat) (x4 : Int32) (x5 : Int32) (x6 : Int32) : Prop := Ev (d, n, md_X3_envyOf, σ0, liI Q) M_X3_envyOf 53 [some (.ref 9), none, none, some (.ref x3), some (.int x4), some (.int x5), some (.int x6)] [] σ
theorem B_X3_envyOf_53 {d n : Nat} {σ0 : St} {Q : Int32 → St → Prop}  {σ : St} {x3 : Nat} {x4 : Int32} {x5 : Int32} {x6 : Int32} (hn : FIX ≤ n) (hd : 1 ≤ d) (hp_x3 : IsP n x3) (h : (((gI σ 1 0) ≤ x6 → Q 2 σ) ∧ (¬ (gI σ 1 0) ≤ x6 → (((fn_X11_contains x5 x6) = 0 → K_X3_envyOf_53 d n σ0 Q σ x3 x4 x5 (x6 + 1)) ∧ (¬ (fn_X11_contains x5 x6) = 0 → pre_X3_isBetter σ x3 (x5 &&& (((1 : Int32) <<< (x6 &&& 31)) ^^^ (-1))) x4 ∧ (((fn_X3_isBetter σ x3 (x5 &&& (((1 : Int32) <<< (x6 &&& 31)) ^^^ (-1))) x4) ≠ 0 → K_X3_envyOf_53 d n σ0 Q σ x3 x4 x5 (x6 + 1)) ∧ ((fn_X3_isBetter σ x3 (x5 &&& (((1 : Int32) <<< (x6 &&& 31)) ^^^ (-1))) x4) = 0 → Q 1 σ))))))) : K_X3_envyOf_53 d n σ0 Q σ x3 x4 x5 x6 := by
  refine e_iload dX3_envyOf_53 rfl ?_
  refine e_aload_n dX3_envyOf_55 rfl rfl ?_
  refine e_getR (y := 1) dX3_envyOf_56 fl_X3_15 (ob_9 hn) rfl rfl ?_
  refine e_getI dX3_envyOf_59 fl_X3_47 (ob_1 hn) rfl ?_
  refine e_icmp_ge (tgt := 101) dX3_envyOf_62 (by decide) (fun c1 => ?_) (fun c1 => ?_)
  · replace h := h.1 c1
    refine e_iconst dX3_envyOf_101 ci_2 ?_
    exact e_iret dX3_envyOf_102 rfl ⟨_, rfl, h⟩
  · replace h := h.2 c1
    refine e_iload dX3_envyOf_65 rfl ?_
    refine e_iload dX3_envyOf_67 rfl ?_
    refine e_callN (M' := M_X11_contains) (as := [.int x5, .int x6]) (rest := []) dX3_envyOf_69 nl_X3_53 mk_X11_contains rfl (Nat.le_of_ble_eq_true rfl) (show 0 < d by omega) (sp_X11_contains) Md_nil (fun v σv hq hf => ?_)
    obtain ⟨v, rfl, rfl, rfl⟩ := hq
    refine e_if_eq (tgt := 95) dX3_envyOf_72 (by decide) (fun c2 => ?_) (fun c2 => ?_)
    · replace h := h.1 c2
      refine e_iinc dX3_envyOf_95 rfl (ii_1 _) rfl (by decide) ?_
      refine e_goto (tgt := 53) dX3_envyOf_98 (by decide) ?_
      exact h
    · replace h := h.2 c2
      refine e_aload_n dX3_envyOf_75 rfl rfl ?_
      refine e_iload dX3_envyOf_76 rfl ?_
      refine e_iconst dX3_envyOf_78 ci_1 ?_
      refine e_iload dX3_envyOf_79 rfl ?_
      refine e_ishl dX3_envyOf_81 ?_
      refine e_iconst dX3_envyOf_82 ci_m1 ?_
      refine e_ixor dX3_envyOf_83 ?_
      refine e_iand dX3_envyOf_84 ?_
      refine e_iload dX3_envyOf_85 rfl ?_
      refine e_callS (M' := M_X3_isBetter) (as := [.ref x3, .int (x5 &&& (((1 : Int32) <<< (x6 &&& 31)) ^^^ (-1))), .int x4]) (rest := []) dX3_envyOf_87 ml_X3_43 mk_X3_isBetter rfl (Nat.le_of_ble_eq_true rfl) (show 0 < d by omega) (sp_X3_isBetter hp_x3 h.1) Md_nil (fun v σv hq hf => ?_)
      obtain ⟨v, rfl, rfl, rfl⟩ := hq
      replace h := h.2
      refine e_if_ne (tgt := 95) dX3_envyOf_90 (by decide) (fun c3 => ?_) (fun c3 => ?_)
      · replace h := h.1 c3
        refine e_iinc dX3_envyOf_95 rfl (ii_1 _) rfl (by decide) ?_
        refine e_goto (tgt := 53) dX3_envyOf_98 (by decide) ?_
        exact h
      · replace h := h.2 c3
        refine e_iconst dX3_envyOf_93 ci_1 ?_
        exact e_iret dX3_envyOf_94 rfl ⟨_, rfl, h⟩
theorem S_X3_envyOf {d n : Nat} {Q : Int32 → St → Prop} {σ : St} {a1 : Int32} {a2 : Int32} (hn : FIX ≤ n) (hd : 1 ≤ d) (h : vp_in a1 8 ∧ ∃ pp1, gR σ a1.toNatClampNeg = some pp1 ∧ IsP n pp1 ∧ vp_in a1 8 ∧ vp_in (gI σ 34 a1.toNatClampNeg) 1024 ∧ vp_in a2 8 ∧ pre_X3_isBetter σ pp1 (gI σ 34 a2.toNatClampNeg) (gI σ (pp1 + 2) (gI σ 34 a1.toNatClampNeg).toNatClampNeg) ∧ (((fn_X3_isBetter σ pp1 (gI σ 34 a2.toNatClampNeg) (gI σ (pp1 + 2) (gI σ 34 a1.toNatClampNeg).toNatClampNeg)) ≠ 0 → K_X3_envyOf_53 d n σ Q σ pp1 (gI σ (pp1 + 2) (gI σ 34 a1.toNatClampNeg).toNatClampNeg) (gI σ 34 a2.toNatClampNeg) 0) ∧ ((fn_X3_isBetter σ pp1 (gI σ 34 a2.toNatClampNeg) (gI σ (pp1 + 2) (gI σ 34 a1.toNatClampNeg).toNatClampNeg)) = 0 → Q 0 σ))) : Cn d n M_X3_envyOf md_X3_envyOf [.ref 9, .int a1, .int a2] σ (liI Q) := by
  refine Cn.of (k0 := 4) (by decide) rfl ?_
  show Ev (d, n, md_X3_envyOf, σ, liI Q) M_X3_envyOf 0 [some (.ref 9), some (.int a1), some (.int a2), none, none, none, none] [] σ
  refine e_aload_n dX3_envyOf_0 rfl rfl ?_
  refine e_getR (y := 3) dX3_envyOf_1 fl_X3_19 (ob_9 hn) rfl rfl ?_
  refine e_getR (y := 18) dX3_envyOf_4 fl_X3_27 (ob_3 hn) rfl rfl ?_
  refine e_iload_n dX3_envyOf_7 rfl rfl ?_
  obtain ⟨hi, pp1, hg, hp_pp1, h⟩ := h
  refine e_aldP dX3_envyOf_8 hn hi hg ?_
  refine e_astore_n dX3_envyOf_9 rfl rfl (by decide) ?_
  refine e_aload_n dX3_envyOf_10 rfl rfl ?_
  refine e_getR (y := pp1 + 2) dX3_envyOf_11 fl_X3_33 (Ob.p hp_pp1) rfl (rf_p hp_pp1 (by decide)) ?_
  refine e_aload_n dX3_envyOf_14 rfl rfl ?_
  refine e_getR (y := 8) dX3_envyOf_15 fl_X3_23 (ob_9 hn) rfl rfl ?_
  refine e_getR (y := 34) dX3_envyOf_18 fl_X3_38 (ob_8 hn) rfl rfl ?_
  refine e_iload_n dX3_envyOf_21 rfl rfl ?_
  refine e_iald dX3_envyOf_22 (ar_34 hn) h.1 ?_
  replace h := h.2
  refine e_iald dX3_envyOf_23 (Ar.p2 hp_pp1) h.1 ?_
  replace h := h.2
  refine e_istore dX3_envyOf_24 rfl (by decide) ?_
  refine e_aload_n dX3_envyOf_26 rfl rfl ?_
  refine e_getR (y := 8) dX3_envyOf_27 fl_X3_23 (ob_9 hn) rfl rfl ?_
  refine e_getR (y := 34) dX3_envyOf_30 fl_X3_38 (ob_8 hn) rfl rfl ?_
  refine e_iload_n dX3_envyOf_33 rfl rfl ?_
  refine e_iald dX3_envyOf_34 (ar_34 hn) h.1 ?_
  replace h := h.2
  refine e_istore dX3_envyOf_35 rfl (by decide) ?_
  refine e_aload_n dX3_envyOf_37 rfl rfl ?_
  refine e_iload dX3_envyOf_38 rfl ?_
  refine e_iload dX3_envyOf_40 rfl ?_
  refine e_callS (M' := M_X3_isBetter) (as := [.ref pp1, .int (gI σ 34 a2.toNatClampNeg), .int (gI σ (pp1 + 2) (gI σ 34 a1.toNatClampNeg).toNatClampNeg)]) (rest := []) dX3_envyOf_42 ml_X3_43 mk_X3_isBetter rfl (Nat.le_of_ble_eq_true rfl) (show 0 < d by omega) (sp_X3_isBetter hp_pp1 h.1) Md_nil (fun v σv hq hf => ?_)
  obtain ⟨v, rfl, rfl, rfl⟩ := hq
  replace h := h.2
  refine e_if_ne (tgt := 50) dX3_envyOf_45 (by decide) (fun c2 => ?_) (fun c2 => ?_)
  · replace h := h.1 c2
    refine e_iconst dX3_envyOf_50 ci_0 ?_
    refine e_istore dX3_envyOf_51 rfl (by decide) ?_
    refine e_kill [true, false, false, true, true, true, true] ?_
    exact h
  · replace h := h.2 c2
    refine e_iconst dX3_envyOf_48 ci_0 ?_
    exact e_iret dX3_envyOf_49 rfl ⟨_, rfl, h⟩
