abbrev K_X12_bits_4 (d n : Nat) (σ0 : St) (Q : Int32 → St → Prop) (σ : St) (x1 : Int32) (x2 : Int32) : Prop := Ev (d, n, md_X12_bits, σ0, liI Q) M_X12_bits 4 [none, some (.int x1), some (.int x2)] [] σ
theorem B_X12_bits_4 {d n : Nat} {σ0 : St} {Q : Int32 → St → Prop}  {σ : St} {x1 : Int32} {x2 : Int32} (h : ((x2 ≤ 0 → Q x1 σ) ∧ (¬ x2 ≤ 0 → K_X12_bits_4 d n σ0 Q σ (x1 + (x2 &&& 1)) (x2 >>> (1 &&& 31))))) : K_X12_bits_4 d n σ0 Q σ x1 x2 := by
  refine e_iload_n dX12_bits_4 rfl rfl ?_
  refine e_if_le (tgt := 21) dX12_bits_5 (by decide) (fun c1 => ?_) (fun c1 => ?_)
  · replace h := h.1 c1
    refine e_iload_n dX12_bits_21 rfl rfl ?_
    exact e_iret dX12_bits_22 rfl ⟨_, rfl, h⟩
  · replace h := h.2 c1
    refine e_iload_n dX12_bits_8 rfl rfl ?_
    refine e_iload_n dX12_bits_9 rfl rfl ?_
    refine e_iconst dX12_bits_10 ci_1 ?_
    refine e_iand dX12_bits_11 ?_
    refine e_iadd dX12_bits_12 ?_
    refine e_istore_n dX12_bits_13 rfl rfl (by decide) ?_
    refine e_iload_n dX12_bits_14 rfl rfl ?_
    refine e_iconst dX12_bits_15 ci_1 ?_
    refine e_ishr dX12_bits_16 ?_
    refine e_istore_n dX12_bits_17 rfl rfl (by decide) ?_
    refine e_goto (tgt := 4) dX12_bits_18 (by decide) ?_
    exact h
theorem S_X12_bits {d n : Nat} {Q : Int32 → St → Prop} {σ : St} {a1 : Int32} (h : K_X12_bits_4 d n σ Q σ 0 a1) : Cn d n M_X12_bits md_X12_bits [.int a1] σ (liI Q) := by
  refine Cn.of (k0 := 2) (by decide) rfl ?_
  show Ev (d, n, md_X12_bits, σ, liI Q) M_X12_bits 0 [some (.int a1), none, none] [] σ
  refine e_iconst dX12_bits_0 ci_0 ?_
  refine e_istore_n dX12_bits_1 rfl rfl (by decide) ?_
  refine e_iload_n dX12_bits_2 rfl rfl ?_
  refine e_istore_n dX12_bits_3 rfl rfl (by decide) ?_
  refine e_kill [false, true, true] ?_
  exact h
theorem S_X12_lesson {d n : Nat} {Q : Int32 → St → Prop} {σ : St} {a1 : Int32} {a2 : Int32} {a3 : Int32} (hn : FIX ≤ n) (hd : 1 ≤ d) (h : (((fn_X12_isIn a1 0 9) = 0 → Q (-1) σ) ∧ (¬ (fn_X12_isIn a1 0 9) = 0 → (((fn_X12_isIn a2 0 39) = 0 → Q (-1) σ) ∧ (¬ (fn_X12_isIn a2 0 39) = 0 → (((fn_X12_isIn a3 (a2 + 1) 40) = 0 → Q (-1) σ) ∧ (¬ (fn_X12_isIn a3 (a2 + 1) 40) = 0 → (((gI σ 11 0) ≠ 10 → vp_in (gI σ 11 0) 10 ∧ vp_in (gI (sI σ 41 (gI σ 11 0).toNatClampNeg a1) 11 0) 10 ∧ vp_in (gI (sI (sI σ 41 (gI σ 11 0).toNatClampNeg a1) 42 (gI (sI σ 41 (gI σ 11 0).toNatClampNeg a1) 11 0).toNatClampNeg a2) 11 0) 10 ∧ Q ((gI (sI (sI (sI (sI (sI σ 41 (gI σ 11 0).toNatClampNeg a1) 42 (gI (sI σ 41 (gI σ 11 0).toNatClampNeg a1) 11 0).toNatClampNeg a2) 43 (gI (sI (sI σ 41 (gI σ 11 0).toNatClampNeg a1) 42 (gI (sI σ 41 (gI σ 11 0).toNatClampNeg a1) 11 0).toNatClampNeg a2) 11 0).toNatClampNeg a3) 11 0 ((gI (sI (sI (sI σ 41 (gI σ 11 0).toNatClampNeg a1) 42 (gI (sI σ 41 (gI σ 11 0).toNatClampNeg a1) 11 0).toNatClampNeg a2) 43 (gI (sI (sI σ 41 (gI σ 11 0).toNatClampNeg a1) 42 (gI (sI σ 41 (gI σ 11 0).toNatClampNeg a1) 11 0).toNatClampNeg a2) 11 0).toNatClampNeg a3) 11 0) + 1)) 11 20 ((gI (sI (sI (sI (sI σ 41 (gI σ 11 0).toNatClampNeg a1) 42 (gI (sI σ 41 (gI σ 11 0).toNatClampNeg a1) 11 0).toNatClampNeg a2) 43 (gI (sI (sI σ 41 (gI σ 11 0).toNatClampNeg a1) 42 (gI (sI σ 41 (gI σ 11 0).toNatClampNeg a1) 11 0).toNatClampNeg a2) 11 0).toNatClampNeg a3) 11 0 ((gI (sI (sI (sI σ 41 (gI σ 11 0).toNatClampNeg a1) 42 (gI (sI σ 41 (gI σ 11 0).toNatClampNeg a1) 11 0).toNatClampNeg a2) 43 (gI (sI (sI σ 41 (gI σ 11 0).toNatClampNeg a1) 42 (gI (sI σ 41 (gI σ 11 0).toNatClampNeg a1) 11 0).toNatClampNeg a2) 11 0).toNatClampNeg a3) 11 0) + 1)) 11 20) + 1)) 11 0) - 1) (sI (sI (sI (sI (sI σ 41 (gI σ 11 0).toNatClampNeg a1) 42 (gI (sI σ 41 (gI σ 11 0).toNatClampNeg a1) 11 0).toNatClampNeg a2) 43 (gI (sI (sI σ 41 (gI σ 11 0).toNatClampNeg a1) 42 (gI (sI σ 41 (gI σ 11 0).toNatClampNeg a1) 11 0).toNatClampNeg a2) 11 0).toNatClampNeg a3) 11 0 ((gI (sI (sI (sI σ 41 (gI σ 11 0).toNatClampNeg a1) 42 (gI (sI σ 41 (gI σ 11 0).toNatClampNeg a1) 11 0).toNatClampNeg a2) 43 (gI (sI (sI σ 41 (gI σ 11 0).toNatClampNeg a1) 42 (gI (sI σ 41 (gI σ 11 0).toNatClampNeg a1) 11 0).toNatClampNeg a2) 11 0).toNatClampNeg a3) 11 0) + 1)) 11 20 ((gI (sI (sI (sI (sI σ 41 (gI σ 11 0).toNatClampNeg a1) 42 (gI (sI σ 41 (gI σ 11 0).toNatClampNeg a1) 11 0).toNatClampNeg a2) 43 (gI (sI (sI σ 41 (gI σ 11 0).toNatClampNeg a1) 42 (gI (sI σ 41 (gI σ 11 0).toNatClampNeg a1) 11 0).toNatClampNeg a2) 11 0).toNatClampNeg a3) 11 0 ((gI (sI (sI (sI σ 41 (gI σ 11 0).toNatClampNeg a1) 42 (gI (sI σ 41 (gI σ 11 0).toNatClampNeg a1) 11 0).toNatClampNeg a2) 43 (gI (sI (sI σ 41 (gI σ 11 0).toNatClampNeg a1) 42 (gI (sI σ 41 (gI σ 11 0).toNatClampNeg a1) 11 0).toNatClampNeg a2) 11 0).toNatClampNeg a3) 11 0) + 1)) 11 20) + 1))) ∧ ((gI σ 11 0) = 10 → Q (-1) σ))))))))) : Cn d n M_X12_lesson md_X12_lesson [.ref 11, .int a1, .int a2, .int a3] σ (liI Q) := by
  refine Cn.of (k0 := 0) (by decide) rfl ?_
  show Ev (d, n, md_X12_lesson, σ, liI Q) M_X12_lesson 0 [some (.ref 11), some (.int a1), some (.int a2), some (.int a3)] [] σ
  refine e_iload_n dX12_lesson_0 rfl rfl ?_
  refine e_iconst dX12_lesson_1 ci_0 ?_
  refine e_bipush dX12_lesson_2 cb_9 ?_
  refine e_callS (M' := M_X12_isIn) (as := [.int a1, .int 0, .int 9]) (rest := []) dX12_lesson_4 ml_X12_134 mk_X12_isIn rfl (Nat.le_of_ble_eq_true rfl) (show 0 < d by omega) (sp_X12_isIn) Md_nil (fun v σv hq hf => ?_)
  obtain ⟨v, rfl, rfl, rfl⟩ := hq
  refine e_if_eq (tgt := 41) dX12_lesson_7 (by decide) (fun c1 => ?_) (fun c1 => ?_)
  · replace h := h.1 c1
    refine e_iconst dX12_lesson_41 ci_m1 ?_
    exact e_iret dX12_lesson_42 rfl ⟨_, rfl, h⟩
  · replace h := h.2 c1
    refine e_iload_n dX12_lesson_10 rfl rfl ?_
    refine e_iconst dX12_lesson_11 ci_0 ?_
    refine e_bipush dX12_lesson_12 cb_39 ?_
    refine e_callS (M' := M_X12_isIn) (as := [.int a2, .int 0, .int 39]) (rest := []) dX12_lesson_14 ml_X12_134 mk_X12_isIn rfl (Nat.le_of_ble_eq_true rfl) (show 0 < d by omega) (sp_X12_isIn) Md_nil (fun v σv hq hf => ?_)
    obtain ⟨v, rfl, rfl, rfl⟩ := hq
    refine e_if_eq (tgt := 41) dX12_lesson_17 (by decide) (fun c2 => ?_) (fun c2 => ?_)
    · replace h := h.1 c2
      refine e_iconst dX12_lesson_41 ci_m1 ?_
      exact e_iret dX12_lesson_42 rfl ⟨_, rfl, h⟩
    · replace h := h.2 c2
      refine e_iload_n dX12_lesson_20 rfl rfl ?_
      refine e_iload_n dX12_lesson_21 rfl rfl ?_
      refine e_iconst dX12_lesson_22 ci_1 ?_
      refine e_iadd dX12_lesson_23 ?_
      refine e_bipush dX12_lesson_24 cb_40 ?_
      refine e_callS (M' := M_X12_isIn) (as := [.int a3, .int (a2 + 1), .int 40]) (rest := []) dX12_lesson_26 ml_X12_134 mk_X12_isIn rfl (Nat.le_of_ble_eq_true rfl) (show 0 < d by omega) (sp_X12_isIn) Md_nil (fun v σv hq hf => ?_)
      obtain ⟨v, rfl, rfl, rfl⟩ := hq
      refine e_if_eq (tgt := 41) dX12_lesson_29 (by decide) (fun c3 => ?_) (fun c3 => ?_)
      · replace h := h.1 c3
        refine e_iconst dX12_lesson_41 ci_m1 ?_
        exact e_iret dX12_lesson_42 rfl ⟨_, rfl, h⟩
      · replace h := h.2 c3
        refine e_aload_n dX12_lesson_32 rfl rfl ?_
        refine e_getI dX12_lesson_33 fl_X12_131 (ob_11 hn) rfl ?_
        refine e_bipush dX12_lesson_36 cb_10 ?_
        refine e_icmp_ne (tgt := 43) dX12_lesson_38 (by decide) (fun c4 => ?_) (fun c4 => ?_)
        · replace h := h.1 c4
          refine e_aload_n dX12_lesson_43 rfl rfl ?_
          refine e_getR (y := 41) dX12_lesson_44 fl_X12_16 (ob_11 hn) rfl rfl ?_
          refine e_aload_n dX12_lesson_47 rfl rfl ?_
          refine e_getI dX12_lesson_48 fl_X12_131 (ob_11 hn) rfl ?_
          refine e_iload_n dX12_lesson_51 rfl rfl ?_
          refine e_iast dX12_lesson_52 (ar_41 hn) h.1 (md_r (m := md_X12_lesson) (by decide)) ?_
          replace h := h.2
          refine e_aload_n dX12_lesson_53 rfl rfl ?_
          refine e_getR (y := 42) dX12_lesson_54 fl_X12_20 (ob_11 hn) rfl rfl ?_
          refine e_aload_n dX12_lesson_57 rfl rfl ?_
          refine e_getI dX12_lesson_58 fl_X12_131 (ob_11 hn) rfl ?_
          refine e_iload_n dX12_lesson_61 rfl rfl ?_
          refine e_iast dX12_lesson_62 (ar_42 hn) h.1 (md_r (m := md_X12_lesson) (by decide)) ?_
          replace h := h.2
          refine e_aload_n dX12_lesson_63 rfl rfl ?_
          refine e_getR (y := 43) dX12_lesson_64 fl_X12_23 (ob_11 hn) rfl rfl ?_
          refine e_aload_n dX12_lesson_67 rfl rfl ?_
          refine e_getI dX12_lesson_68 fl_X12_131 (ob_11 hn) rfl ?_
          refine e_iload_n dX12_lesson_71 rfl rfl ?_
          refine e_iast dX12_lesson_72 (ar_43 hn) h.1 (md_r (m := md_X12_lesson) (by decide)) ?_
          replace h := h.2
          refine e_aload_n dX12_lesson_73 rfl rfl ?_
          refine e_dup dX12_lesson_74 rfl ?_
          refine e_getI dX12_lesson_75 fl_X12_131 (ob_11 hn) rfl ?_
          refine e_iconst dX12_lesson_78 ci_1 ?_
          refine e_iadd dX12_lesson_79 ?_
          refine e_putI dX12_lesson_80 fl_X12_131 (ob_11 hn) rfl (fpI_12_0 _) (md_c (m := md_X12_lesson) (by decide)) ?_
          refine e_aload_n dX12_lesson_83 rfl rfl ?_
          refine e_dup dX12_lesson_84 rfl ?_
          refine e_getI dX12_lesson_85 fl_X12_47 (ob_11 hn) rfl ?_
          refine e_iconst dX12_lesson_88 ci_1 ?_
          refine e_iadd dX12_lesson_89 ?_
          refine e_putI dX12_lesson_90 fl_X12_47 (ob_11 hn) rfl (fpI_12_20 _) (md_c (m := md_X12_lesson) (by decide)) ?_
          refine e_aload_n dX12_lesson_93 rfl rfl ?_
          refine e_getI dX12_lesson_94 fl_X12_131 (ob_11 hn) rfl ?_
          refine e_iconst dX12_lesson_97 ci_1 ?_
          refine e_isub dX12_lesson_98 ?_
          exact e_iret dX12_lesson_99 rfl ⟨_, rfl, h⟩
        · replace h := h.2 c4
          refine e_iconst dX12_lesson_41 ci_m1 ?_
          exact e_iret dX12_lesson_42 rfl ⟨_, rfl, h⟩
theorem S_X12_places {d n : Nat} {Q : Int32 → St → Prop} {σ : St} {a1 : Int32} {a2 : Int32} (hn : FIX ≤ n) (hd : 2 ≤ d) (h : (((fn_X12_isLesson σ a1) = 0 → Q 0 σ) ∧ (¬ (fn_X12_isLesson σ a1) = 0 → (((fn_X12_isIn a2 0 9) ≠ 0 → vp_in a1 10 ∧ Q 1 (sI σ 41 a1.toNatClampNeg a2)) ∧ ((fn_X12_isIn a2 0 9) = 0 → Q 0 σ))))) : Cn d n M_X12_places md_X12_places [.ref 11, .int a1, .int a2] σ (liI Q) := by
  refine Cn.of (k0 := 0) (by decide) rfl ?_
  show Ev (d, n, md_X12_places, σ, liI Q) M_X12_places 0 [some (.ref 11), some (.int a1), some (.int a2)] [] σ
  refine e_aload_n dX12_places_0 rfl rfl ?_
  refine e_iload_n dX12_places_1 rfl rfl ?_
  refine e_callV (M' := M_X12_isLesson) (as := [.int a1]) (rest := []) dX12_places_2 ml_X12_141 mk_X12_isLesson (ob_11 hn) rfl rfl rfl (Nat.le_of_ble_eq_true rfl) (show 0 < d by omega) (sp_X12_isLesson hn (show 1 ≤ d - 1 by omega)) Md_nil (fun v σv hq hf => ?_)
  obtain ⟨v, rfl, rfl, rfl⟩ := hq
  refine e_if_eq (tgt := 18) dX12_places_5 (by decide) (fun c1 => ?_) (fun c1 => ?_)
  · replace h := h.1 c1
    refine e_iconst dX12_places_18 ci_0 ?_
    exact e_zret dX12_places_19 rfl (nar_z (Or.inl rfl)) ⟨_, rfl, h⟩
  · replace h := h.2 c1
    refine e_iload_n dX12_places_8 rfl rfl ?_
    refine e_iconst dX12_places_9 ci_0 ?_
    refine e_bipush dX12_places_10 cb_9 ?_
    refine e_callS (M' := M_X12_isIn) (as := [.int a2, .int 0, .int 9]) (rest := []) dX12_places_12 ml_X12_134 mk_X12_isIn rfl (Nat.le_of_ble_eq_true rfl) (show 0 < d by omega) (sp_X12_isIn) Md_nil (fun v σv hq hf => ?_)
    obtain ⟨v, rfl, rfl, rfl⟩ := hq
    refine e_if_ne (tgt := 20) dX12_places_15 (by decide) (fun c2 => ?_) (fun c2 => ?_)
    · replace h := h.1 c2
      refine e_aload_n dX12_places_20 rfl rfl ?_
      refine e_getR (y := 41) dX12_places_21 fl_X12_16 (ob_11 hn) rfl rfl ?_
      refine e_iload_n dX12_places_24 rfl rfl ?_
      refine e_iload_n dX12_places_25 rfl rfl ?_
      refine e_iast dX12_places_26 (ar_41 hn) h.1 (md_r (m := md_X12_places) (by decide)) ?_
      replace h := h.2
      refine e_iconst dX12_places_27 ci_1 ?_
      exact e_zret dX12_places_28 rfl (nar_z (Or.inr rfl)) ⟨_, rfl, h⟩
    · replace h := h.2 c2
      refine e_iconst dX12_places_18 ci_0 ?_
      exact e_zret dX12_places_19 rfl (nar_z (Or.inl rfl)) ⟨_, rfl, h⟩
abbrev K_X12_after_34 (d n : Nat) (σ0 : St) (Q : Int32 → St → Prop) (σ : St) (x1 : Int32) (x2 : Int32) (x3 : Int32) : Prop := Ev (d, n, md_X12_after, σ0, liI Q) M_X12_after 34 [some (.ref 11), some (.int x1), some (.int x2), some (.int x3)] [] σ
theorem B_X12_after_34 {d n : Nat} {σ0 : St} {Q : Int32 → St → Prop}  {σ : St} {x1 : Int32} {x2 : Int32} {x3 : Int32} (hn : FIX ≤ n) (hd : 2 ≤ d) (h : (((gI σ 11 2) ≤ x3 → vp_in (gI σ 11 2) 20 ∧ vp_in (gI (sI σ 45 (gI σ 11 2).toNatClampNeg x1) 11 2) 20 ∧ Q (gI (sI (sI (sI (sI σ 45 (gI σ 11 2).toNatClampNeg x1) 46 (gI (sI σ 45 (gI σ 11 2).toNatClampNeg x1) 11 2).toNatClampNeg x2) 11 2 ((gI (sI (sI σ 45 (gI σ 11 2).toNatClampNeg x1) 46 (gI (sI σ 45 (gI σ 11 2).toNatClampNeg x1) 11 2).toNatClampNeg x2) 11 2) + 1)) 11 20 ((gI (sI (sI (sI σ 45 (gI σ 11 2).toNatClampNeg x1) 46 (gI (sI σ 45 (gI σ 11 2).toNatClampNeg x1) 11 2).toNatClampNeg x2) 11 2 ((gI (sI (sI σ 45 (gI σ 11 2).toNatClampNeg x1) 46 (gI (sI σ 45 (gI σ 11 2).toNatClampNeg x1) 11 2).toNatClampNeg x2) 11 2) + 1)) 11 20) + 1)) 11 2) (sI (sI (sI (sI σ 45 (gI σ 11 2).toNatClampNeg x1) 46 (gI (sI σ 45 (gI σ 11 2).toNatClampNeg x1) 11 2).toNatClampNeg x2) 11 2 ((gI (sI (sI σ 45 (gI σ 11 2).toNatClampNeg x1) 46 (gI (sI σ 45 (gI σ 11 2).toNatClampNeg x1) 11 2).toNatClampNeg x2) 11 2) + 1)) 11 20 ((gI (sI (sI (sI σ 45 (gI σ 11 2).toNatClampNeg x1) 46 (gI (sI σ 45 (gI σ 11 2).toNatClampNeg x1) 11 2).toNatClampNeg x2) 11 2 ((gI (sI (sI σ 45 (gI σ 11 2).toNatClampNeg x1) 46 (gI (sI σ 45 (gI σ 11 2).toNatClampNeg x1) 11 2).toNatClampNeg x2) 11 2) + 1)) 11 20) + 1))) ∧ (¬ (gI σ 11 2) ≤ x3 → vp_in x3 20 ∧ (((gI σ 45 x3.toNatClampNeg) ≠ x1 → K_X12_after_34 d n σ0 Q σ x1 x2 (x3 + 1)) ∧ ((gI σ 45 x3.toNatClampNeg) = x1 → vp_in x3 20 ∧ (((gI σ 46 x3.toNatClampNeg) ≠ x2 → K_X12_after_34 d n σ0 Q σ x1 x2 (x3 + 1)) ∧ ((gI σ 46 x3.toNatClampNeg) = x2 → Q (-1) σ))))))) : K_X12_after_34 d n σ0 Q σ x1 x2 x3 := by
  refine e_iload_n dX12_after_34 rfl rfl ?_
  refine e_aload_n dX12_after_35 rfl rfl ?_
  refine e_getI dX12_after_36 fl_X12_145 (ob_11 hn) rfl ?_
  refine e_icmp_ge (tgt := 70) dX12_after_39 (by decide) (fun c1 => ?_) (fun c1 => ?_)
  · replace h := h.1 c1
    refine e_aload_n dX12_after_70 rfl rfl ?_
    refine e_getR (y := 45) dX12_after_71 fl_X12_29 (ob_11 hn) rfl rfl ?_
    refine e_aload_n dX12_after_74 rfl rfl ?_
    refine e_getI dX12_after_75 fl_X12_145 (ob_11 hn) rfl ?_
    refine e_iload_n dX12_after_78 rfl rfl ?_
    refine e_iast dX12_after_79 (ar_45 hn) h.1 (md_r (m := md_X12_after) (by decide)) ?_
    replace h := h.2
    refine e_aload_n dX12_after_80 rfl rfl ?_
    refine e_getR (y := 46) dX12_after_81 fl_X12_32 (ob_11 hn) rfl rfl ?_
    refine e_aload_n dX12_after_84 rfl rfl ?_
    refine e_getI dX12_after_85 fl_X12_145 (ob_11 hn) rfl ?_
    refine e_iload_n dX12_after_88 rfl rfl ?_
    refine e_iast dX12_after_89 (ar_46 hn) h.1 (md_r (m := md_X12_after) (by decide)) ?_
    replace h := h.2
    refine e_aload_n dX12_after_90 rfl rfl ?_
    refine e_dup dX12_after_91 rfl ?_
    refine e_getI dX12_after_92 fl_X12_145 (ob_11 hn) rfl ?_
    refine e_iconst dX12_after_95 ci_1 ?_
    refine e_iadd dX12_after_96 ?_
    refine e_putI dX12_after_97 fl_X12_145 (ob_11 hn) rfl (fpI_12_2 _) (md_c (m := md_X12_after) (by decide)) ?_
    refine e_aload_n dX12_after_100 rfl rfl ?_
    refine e_dup dX12_after_101 rfl ?_
    refine e_getI dX12_after_102 fl_X12_47 (ob_11 hn) rfl ?_
    refine e_iconst dX12_after_105 ci_1 ?_
    refine e_iadd dX12_after_106 ?_
    refine e_putI dX12_after_107 fl_X12_47 (ob_11 hn) rfl (fpI_12_20 _) (md_c (m := md_X12_after) (by decide)) ?_
    refine e_aload_n dX12_after_110 rfl rfl ?_
    refine e_getI dX12_after_111 fl_X12_145 (ob_11 hn) rfl ?_
    exact e_iret dX12_after_114 rfl ⟨_, rfl, h⟩
  · replace h := h.2 c1
    refine e_aload_n dX12_after_42 rfl rfl ?_
    refine e_getR (y := 45) dX12_after_43 fl_X12_29 (ob_11 hn) rfl rfl ?_
    refine e_iload_n dX12_after_46 rfl rfl ?_
    refine e_iald dX12_after_47 (ar_45 hn) h.1 ?_
    replace h := h.2
    refine e_iload_n dX12_after_48 rfl rfl ?_
    refine e_icmp_ne (tgt := 64) dX12_after_49 (by decide) (fun c2 => ?_) (fun c2 => ?_)
    · replace h := h.1 c2
      refine e_iinc dX12_after_64 rfl (ii_1 _) rfl (by decide) ?_
      refine e_goto (tgt := 34) dX12_after_67 (by decide) ?_
      exact h
    · replace h := h.2 c2
      refine e_aload_n dX12_after_52 rfl rfl ?_
      refine e_getR (y := 46) dX12_after_53 fl_X12_32 (ob_11 hn) rfl rfl ?_
      refine e_iload_n dX12_after_56 rfl rfl ?_
      refine e_iald dX12_after_57 (ar_46 hn) h.1 ?_
      replace h := h.2
      refine e_iload_n dX12_after_58 rfl rfl ?_
      refine e_icmp_ne (tgt := 64) dX12_after_59 (by decide) (fun c3 => ?_) (fun c3 => ?_)
      · replace h := h.1 c3
        refine e_iinc dX12_after_64 rfl (ii_1 _) rfl (by decide) ?_
        refine e_goto (tgt := 34) dX12_after_67 (by decide) ?_
        exact h
      · replace h := h.2 c3
        refine e_iconst dX12_after_62 ci_m1 ?_
        exact e_iret dX12_after_63 rfl ⟨_, rfl, h⟩
theorem S_X12_after {d n : Nat} {Q : Int32 → St → Prop} {σ : St} {a1 : Int32} {a2 : Int32} (hn : FIX ≤ n) (hd : 2 ≤ d) (h : (((fn_X12_isLesson σ a1) = 0 → Q (-1) σ) ∧ (¬ (fn_X12_isLesson σ a1) = 0 → (((fn_X12_isLesson σ a2) = 0 → Q (-1) σ) ∧ (¬ (fn_X12_isLesson σ a2) = 0 → ((a1 = a2 → Q (-1) σ) ∧ (¬ a1 = a2 → (((gI σ 11 2) ≠ 20 → K_X12_after_34 d n σ Q σ a1 a2 0) ∧ ((gI σ 11 2) = 20 → Q (-1) σ))))))))) : Cn d n M_X12_after md_X12_after [.ref 11, .int a1, .int a2] σ (liI Q) := by
  refine Cn.of (k0 := 1) (by decide) rfl ?_
  show Ev (d, n, md_X12_after, σ, liI Q) M_X12_after 0 [some (.ref 11), some (.int a1), some (.int a2), none] [] σ
  refine e_aload_n dX12_after_0 rfl rfl ?_
  refine e_iload_n dX12_after_1 rfl rfl ?_
  refine e_callV (M' := M_X12_isLesson) (as := [.int a1]) (rest := []) dX12_after_2 ml_X12_141 mk_X12_isLesson (ob_11 hn) rfl rfl rfl (Nat.le_of_ble_eq_true rfl) (show 0 < d by omega) (sp_X12_isLesson hn (show 1 ≤ d - 1 by omega)) Md_nil (fun v σv hq hf => ?_)
  obtain ⟨v, rfl, rfl, rfl⟩ := hq
  refine e_if_eq (tgt := 30) dX12_after_5 (by decide) (fun c1 => ?_) (fun c1 => ?_)
  · replace h := h.1 c1
    refine e_iconst dX12_after_30 ci_m1 ?_
    exact e_iret dX12_after_31 rfl ⟨_, rfl, h⟩
  · replace h := h.2 c1
    refine e_aload_n dX12_after_8 rfl rfl ?_
    refine e_iload_n dX12_after_9 rfl rfl ?_
    refine e_callV (M' := M_X12_isLesson) (as := [.int a2]) (rest := []) dX12_after_10 ml_X12_141 mk_X12_isLesson (ob_11 hn) rfl rfl rfl (Nat.le_of_ble_eq_true rfl) (show 0 < d by omega) (sp_X12_isLesson hn (show 1 ≤ d - 1 by omega)) Md_nil (fun v σv hq hf => ?_)
    obtain ⟨v, rfl, rfl, rfl⟩ := hq
    refine e_if_eq (tgt := 30) dX12_after_13 (by decide) (fun c2 => ?_) (fun c2 => ?_)
    · replace h := h.1 c2
      refine e_iconst dX12_after_30 ci_m1 ?_
      exact e_iret dX12_after_31 rfl ⟨_, rfl, h⟩
    · replace h := h.2 c2
      refine e_iload_n dX12_after_16 rfl rfl ?_
      refine e_iload_n dX12_after_17 rfl rfl ?_
      refine e_icmp_eq (tgt := 30) dX12_after_18 (by decide) (fun c3 => ?_) (fun c3 => ?_)
      · replace h := h.1 c3
        refine e_iconst dX12_after_30 ci_m1 ?_
        exact e_iret dX12_after_31 rfl ⟨_, rfl, h⟩
      · replace h := h.2 c3
        refine e_aload_n dX12_after_21 rfl rfl ?_
        refine e_getI dX12_after_22 fl_X12_145 (ob_11 hn) rfl ?_
        refine e_bipush dX12_after_25 cb_20 ?_
        refine e_icmp_ne (tgt := 32) dX12_after_27 (by decide) (fun c4 => ?_) (fun c4 => ?_)
        · replace h := h.1 c4
          refine e_iconst dX12_after_32 ci_0 ?_
          refine e_istore_n dX12_after_33 rfl rfl (by decide) ?_
          exact h
        · replace h := h.2 c4
          refine e_iconst dX12_after_30 ci_m1 ?_
          exact e_iret dX12_after_31 rfl ⟨_, rfl, h⟩
theorem S_X12_most {d n : Nat} {Q : Int32 → St → Prop} {σ : St} {a1 : Int32} (hn : FIX ≤ n) (hd : 1 ≤ d) (h : (((fn_X12_isIn a1 1 6) ≠ 0 → Q 1 (sI (sI σ 11 3 a1) 11 20 ((gI (sI σ 11 3 a1) 11 20) + 1))) ∧ ((fn_X12_isIn a1 1 6) = 0 → Q 0 σ))) : Cn d n M_X12_most md_X12_most [.ref 11, .int a1] σ (liI Q) := by
  refine Cn.of (k0 := 0) (by decide) rfl ?_
  show Ev (d, n, md_X12_most, σ, liI Q) M_X12_most 0 [some (.ref 11), some (.int a1)] [] σ
  refine e_iload_n dX12_most_0 rfl rfl ?_
  refine e_iconst dX12_most_1 ci_1 ?_
  refine e_bipush dX12_most_2 cb_6 ?_
  refine e_callS (M' := M_X12_isIn) (as := [.int a1, .int 1, .int 6]) (rest := []) dX12_most_4 ml_X12_134 mk_X12_isIn rfl (Nat.le_of_ble_eq_true rfl) (show 0 < d by omega) (sp_X12_isIn) Md_nil (fun v σv hq hf => ?_)
  obtain ⟨v, rfl, rfl, rfl⟩ := hq
  refine e_if_ne (tgt := 12) dX12_most_7 (by decide) (fun c1 => ?_) (fun c1 => ?_)
  · replace h := h.1 c1
    refine e_aload_n dX12_most_12 rfl rfl ?_
    refine e_iload_n dX12_most_13 rfl rfl ?_
    refine e_putI dX12_most_14 fl_X12_7 (ob_11 hn) rfl (fpI_12_3 _) (md_c (m := md_X12_most) (by decide)) ?_
    refine e_aload_n dX12_most_17 rfl rfl ?_
    refine e_dup dX12_most_18 rfl ?_
    refine e_getI dX12_most_19 fl_X12_47 (ob_11 hn) rfl ?_
    refine e_iconst dX12_most_22 ci_1 ?_
    refine e_iadd dX12_most_23 ?_
    refine e_putI dX12_most_24 fl_X12_47 (ob_11 hn) rfl (fpI_12_20 _) (md_c (m := md_X12_most) (by decide)) ?_
    refine e_iconst dX12_most_27 ci_1 ?_
    exact e_zret dX12_most_28 rfl (nar_z (Or.inr rfl)) ⟨_, rfl, h⟩
  · replace h := h.2 c1
    refine e_iconst dX12_most_10 ci_0 ?_
    exact e_zret dX12_most_11 rfl (nar_z (Or.inl rfl)) ⟨_, rfl, h⟩
theorem S_X12_person {d n : Nat} {Q : Int32 → St → Prop} {σ : St} {a1 : Int32} {a2 : Int32} (hn : FIX ≤ n) (hd : 2 ≤ d) (h : (((fn_X12_isIn a1 0 200) = 0 → Q (-1) σ) ∧ (¬ (fn_X12_isIn a1 0 200) = 0 → (((fn_X12_isBundle a2) = 0 → Q (-1) σ) ∧ (¬ (fn_X12_isBundle a2) = 0 → (((gI σ 11 1) ≠ 8 → vp_in (gI σ 11 1) 8 ∧ vp_in (gI (sI σ 47 (gI σ 11 1).toNatClampNeg a1) 11 1) 8 ∧ vp_in (gI (sI (sI σ 47 (gI σ 11 1).toNatClampNeg a1) 48 (gI (sI σ 47 (gI σ 11 1).toNatClampNeg a1) 11 1).toNatClampNeg a2) 11 1) 10 ∧ Q ((gI (sI (sI (sI (sI (sI σ 47 (gI σ 11 1).toNatClampNeg a1) 48 (gI (sI σ 47 (gI σ 11 1).toNatClampNeg a1) 11 1).toNatClampNeg a2) 50 (gI (sI (sI σ 47 (gI σ 11 1).toNatClampNeg a1) 48 (gI (sI σ 47 (gI σ 11 1).toNatClampNeg a1) 11 1).toNatClampNeg a2) 11 1).toNatClampNeg 0) 11 1 ((gI (sI (sI (sI σ 47 (gI σ 11 1).toNatClampNeg a1) 48 (gI (sI σ 47 (gI σ 11 1).toNatClampNeg a1) 11 1).toNatClampNeg a2) 50 (gI (sI (sI σ 47 (gI σ 11 1).toNatClampNeg a1) 48 (gI (sI σ 47 (gI σ 11 1).toNatClampNeg a1) 11 1).toNatClampNeg a2) 11 1).toNatClampNeg 0) 11 1) + 1)) 11 20 ((gI (sI (sI (sI (sI σ 47 (gI σ 11 1).toNatClampNeg a1) 48 (gI (sI σ 47 (gI σ 11 1).toNatClampNeg a1) 11 1).toNatClampNeg a2) 50 (gI (sI (sI σ 47 (gI σ 11 1).toNatClampNeg a1) 48 (gI (sI σ 47 (gI σ 11 1).toNatClampNeg a1) 11 1).toNatClampNeg a2) 11 1).toNatClampNeg 0) 11 1 ((gI (sI (sI (sI σ 47 (gI σ 11 1).toNatClampNeg a1) 48 (gI (sI σ 47 (gI σ 11 1).toNatClampNeg a1) 11 1).toNatClampNeg a2) 50 (gI (sI (sI σ 47 (gI σ 11 1).toNatClampNeg a1) 48 (gI (sI σ 47 (gI σ 11 1).toNatClampNeg a1) 11 1).toNatClampNeg a2) 11 1).toNatClampNeg 0) 11 1) + 1)) 11 20) + 1)) 11 1) - 1) (sI (sI (sI (sI (sI σ 47 (gI σ 11 1).toNatClampNeg a1) 48 (gI (sI σ 47 (gI σ 11 1).toNatClampNeg a1) 11 1).toNatClampNeg a2) 50 (gI (sI (sI σ 47 (gI σ 11 1).toNatClampNeg a1) 48 (gI (sI σ 47 (gI σ 11 1).toNatClampNeg a1) 11 1).toNatClampNeg a2) 11 1).toNatClampNeg 0) 11 1 ((gI (sI (sI (sI σ 47 (gI σ 11 1).toNatClampNeg a1) 48 (gI (sI σ 47 (gI σ 11 1).toNatClampNeg a1) 11 1).toNatClampNeg a2) 50 (gI (sI (sI σ 47 (gI σ 11 1).toNatClampNeg a1) 48 (gI (sI σ 47 (gI σ 11 1).toNatClampNeg a1) 11 1).toNatClampNeg a2) 11 1).toNatClampNeg 0) 11 1) + 1)) 11 20 ((gI (sI (sI (sI (sI σ 47 (gI σ 11 1).toNatClampNeg a1) 48 (gI (sI σ 47 (gI σ 11 1).toNatClampNeg a1) 11 1).toNatClampNeg a2) 50 (gI (sI (sI σ 47 (gI σ 11 1).toNatClampNeg a1) 48 (gI (sI σ 47 (gI σ 11 1).toNatClampNeg a1) 11 1).toNatClampNeg a2) 11 1).toNatClampNeg 0) 11 1 ((gI (sI (sI (sI σ 47 (gI σ 11 1).toNatClampNeg a1) 48 (gI (sI σ 47 (gI σ 11 1).toNatClampNeg a1) 11 1).toNatClampNeg a2) 50 (gI (sI (sI σ 47 (gI σ 11 1).toNatClampNeg a1) 48 (gI (sI σ 47 (gI σ 11 1).toNatClampNeg a1) 11 1).toNatClampNeg a2) 11 1).toNatClampNeg 0) 11 1) + 1)) 11 20) + 1))) ∧ ((gI σ 11 1) = 8 → Q (-1) σ))))))) : Cn d n M_X12_person md_X12_person [.ref 11, .int a1, .int a2] σ (liI Q) := by
  refine Cn.of (k0 := 0) (by decide) rfl ?_
  show Ev (d, n, md_X12_person, σ, liI Q) M_X12_person 0 [some (.ref 11), some (.int a1), some (.int a2)] [] σ
  refine e_iload_n dX12_person_0 rfl rfl ?_
  refine e_iconst dX12_person_1 ci_0 ?_
  refine e_sipush dX12_person_2 cs_200 ?_
  refine e_callS (M' := M_X12_isIn) (as := [.int a1, .int 0, .int 200]) (rest := []) dX12_person_5 ml_X12_134 mk_X12_isIn rfl (Nat.le_of_ble_eq_true rfl) (show 0 < d by omega) (sp_X12_isIn) Md_nil (fun v σv hq hf => ?_)
  obtain ⟨v, rfl, rfl, rfl⟩ := hq
  refine e_if_eq (tgt := 27) dX12_person_8 (by decide) (fun c1 => ?_) (fun c1 => ?_)
  · replace h := h.1 c1
    refine e_iconst dX12_person_27 ci_m1 ?_
    exact e_iret dX12_person_28 rfl ⟨_, rfl, h⟩
  · replace h := h.2 c1
    refine e_iload_n dX12_person_11 rfl rfl ?_
    refine e_callS (M' := M_X12_isBundle) (as := [.int a2]) (rest := []) dX12_person_12 ml_X12_148 mk_X12_isBundle rfl (Nat.le_of_ble_eq_true rfl) (show 0 < d by omega) (sp_X12_isBundle (show 1 ≤ d - 1 by omega)) Md_nil (fun v σv hq hf => ?_)
    obtain ⟨v, rfl, rfl, rfl⟩ := hq
    refine e_if_eq (tgt := 27) dX12_person_15 (by decide) (fun c2 => ?_) (fun c2 => ?_)
    · replace h := h.1 c2
      refine e_iconst dX12_person_27 ci_m1 ?_
      exact e_iret dX12_person_28 rfl ⟨_, rfl, h⟩
    · replace h := h.2 c2
      refine e_aload_n dX12_person_18 rfl rfl ?_
      refine e_getI dX12_person_19 fl_X12_138 (ob_11 hn) rfl ?_
      refine e_bipush dX12_person_22 cb_8 ?_
      refine e_icmp_ne (tgt := 29) dX12_person_24 (by decide) (fun c3 => ?_) (fun c3 => ?_)
      · replace h := h.1 c3
        refine e_aload_n dX12_person_29 rfl rfl ?_
        refine e_getR (y := 47) dX12_person_30 fl_X12_35 (ob_11 hn) rfl rfl ?_
        refine e_aload_n dX12_person_33 rfl rfl ?_
        refine e_getI dX12_person_34 fl_X12_138 (ob_11 hn) rfl ?_
        refine e_iload_n dX12_person_37 rfl rfl ?_
        refine e_iast dX12_person_38 (ar_47 hn) h.1 (md_r (m := md_X12_person) (by decide)) ?_
        replace h := h.2
        refine e_aload_n dX12_person_39 rfl rfl ?_
        refine e_getR (y := 48) dX12_person_40 fl_X12_38 (ob_11 hn) rfl rfl ?_
        refine e_aload_n dX12_person_43 rfl rfl ?_
        refine e_getI dX12_person_44 fl_X12_138 (ob_11 hn) rfl ?_
        refine e_iload_n dX12_person_47 rfl rfl ?_
        refine e_iast dX12_person_48 (ar_48 hn) h.1 (md_r (m := md_X12_person) (by decide)) ?_
        replace h := h.2
        refine e_aload_n dX12_person_49 rfl rfl ?_
        refine e_getR (y := 50) dX12_person_50 fl_X12_50 (ob_11 hn) rfl rfl ?_
        refine e_aload_n dX12_person_53 rfl rfl ?_
        refine e_getI dX12_person_54 fl_X12_138 (ob_11 hn) rfl ?_
        refine e_iconst dX12_person_57 ci_0 ?_
        refine e_iast dX12_person_58 (ar_50 hn) h.1 (md_r (m := md_X12_person) (by decide)) ?_
        replace h := h.2
        refine e_aload_n dX12_person_59 rfl rfl ?_
        refine e_dup dX12_person_60 rfl ?_
        refine e_getI dX12_person_61 fl_X12_138 (ob_11 hn) rfl ?_
        refine e_iconst dX12_person_64 ci_1 ?_
        refine e_iadd dX12_person_65 ?_
        refine e_putI dX12_person_66 fl_X12_138 (ob_11 hn) rfl (fpI_12_1 _) (md_c (m := md_X12_person) (by decide)) ?_
        refine e_aload_n dX12_person_69 rfl rfl ?_
        refine e_dup dX12_person_70 rfl ?_
        refine e_getI dX12_person_71 fl_X12_47 (ob_11 hn) rfl ?_
        refine e_iconst dX12_person_74 ci_1 ?_
        refine e_iadd dX12_person_75 ?_
        refine e_putI dX12_person_76 fl_X12_47 (ob_11 hn) rfl (fpI_12_20 _) (md_c (m := md_X12_person) (by decide)) ?_
        refine e_aload_n dX12_person_79 rfl rfl ?_
        refine e_getI dX12_person_80 fl_X12_138 (ob_11 hn) rfl ?_
        refine e_iconst dX12_person_83 ci_1 ?_
        refine e_isub dX12_person_84 ?_
        exact e_iret dX12_person_85 rfl ⟨_, rfl, h⟩
      · replace h := h.2 c3
        refine e_iconst dX12_person_27 ci_m1 ?_
        exact e_iret dX12_person_28 rfl ⟨_, rfl, h⟩
theorem S_X12_purse {d n : Nat} {Q : Int32 → St → Prop} {σ : St} {a1 : Int32} {a2 : Int32} (hn : FIX ≤ n) (hd : 2 ≤ d) (h : (((fn_X12_isPerson σ a1) = 0 → Q 0 σ) ∧ (¬ (fn_X12_isPerson σ a1) = 0 → (((fn_X12_isIn a2 0 200) ≠ 0 → vp_in a1 8 ∧ Q 1 (sI (sI σ 47 a1.toNatClampNeg a2) 11 20 ((gI (sI σ 47 a1.toNatClampNeg a2) 11 20) + 1))) ∧ ((fn_X12_isIn a2 0 200) = 0 → Q 0 σ))))) : Cn d n M_X12_purse md_X12_purse [.ref 11, .int a1, .int a2] σ (liI Q) := by
  refine Cn.of (k0 := 0) (by decide) rfl ?_
  show Ev (d, n, md_X12_purse, σ, liI Q) M_X12_purse 0 [some (.ref 11), some (.int a1), some (.int a2)] [] σ
  refine e_aload_n dX12_purse_0 rfl rfl ?_
  refine e_iload_n dX12_purse_1 rfl rfl ?_
  refine e_callV (M' := M_X12_isPerson) (as := [.int a1]) (rest := []) dX12_purse_2 ml_X12_151 mk_X12_isPerson (ob_11 hn) rfl rfl rfl (Nat.le_of_ble_eq_true rfl) (show 0 < d by omega) (sp_X12_isPerson hn (show 1 ≤ d - 1 by omega)) Md_nil (fun v σv hq hf => ?_)
  obtain ⟨v, rfl, rfl, rfl⟩ := hq
  refine e_if_eq (tgt := 19) dX12_purse_5 (by decide) (fun c1 => ?_) (fun c1 => ?_)
  · replace h := h.1 c1
    refine e_iconst dX12_purse_19 ci_0 ?_
    exact e_zret dX12_purse_20 rfl (nar_z (Or.inl rfl)) ⟨_, rfl, h⟩
  · replace h := h.2 c1
    refine e_iload_n dX12_purse_8 rfl rfl ?_
    refine e_iconst dX12_purse_9 ci_0 ?_
    refine e_sipush dX12_purse_10 cs_200 ?_
    refine e_callS (M' := M_X12_isIn) (as := [.int a2, .int 0, .int 200]) (rest := []) dX12_purse_13 ml_X12_134 mk_X12_isIn rfl (Nat.le_of_ble_eq_true rfl) (show 0 < d by omega) (sp_X12_isIn) Md_nil (fun v σv hq hf => ?_)
    obtain ⟨v, rfl, rfl, rfl⟩ := hq
    refine e_if_ne (tgt := 21) dX12_purse_16 (by decide) (fun c2 => ?_) (fun c2 => ?_)
    · replace h := h.1 c2
      refine e_aload_n dX12_purse_21 rfl rfl ?_
      refine e_getR (y := 47) dX12_purse_22 fl_X12_35 (ob_11 hn) rfl rfl ?_
      refine e_iload_n dX12_purse_25 rfl rfl ?_
      refine e_iload_n dX12_purse_26 rfl rfl ?_
      refine e_iast dX12_purse_27 (ar_47 hn) h.1 (md_r (m := md_X12_purse) (by decide)) ?_
      replace h := h.2
      refine e_aload_n dX12_purse_28 rfl rfl ?_
      refine e_dup dX12_purse_29 rfl ?_
      refine e_getI dX12_purse_30 fl_X12_47 (ob_11 hn) rfl ?_
      refine e_iconst dX12_purse_33 ci_1 ?_
      refine e_iadd dX12_purse_34 ?_
      refine e_putI dX12_purse_35 fl_X12_47 (ob_11 hn) rfl (fpI_12_20 _) (md_c (m := md_X12_purse) (by decide)) ?_
      refine e_iconst dX12_purse_38 ci_1 ?_
      exact e_zret dX12_purse_39 rfl (nar_z (Or.inr rfl)) ⟨_, rfl, h⟩
    · replace h := h.2 c2
      refine e_iconst dX12_purse_19 ci_0 ?_
      exact e_zret dX12_purse_20 rfl (nar_z (Or.inl rfl)) ⟨_, rfl, h⟩
theorem S_X12_price {d n : Nat} {Q : Int32 → St → Prop} {σ : St} {a1 : Int32} {a2 : Int32} (hn : FIX ≤ n) (hd : 2 ≤ d) (h : (((fn_X12_isLesson σ a1) = 0 → Q 0 σ) ∧ (¬ (fn_X12_isLesson σ a1) = 0 → (((fn_X12_isIn a2 0 250) ≠ 0 → vp_in a1 10 ∧ Q 1 (sI σ 44 a1.toNatClampNeg a2)) ∧ ((fn_X12_isIn a2 0 250) = 0 → Q 0 σ))))) : Cn d n M_X12_price md_X12_price [.ref 11, .int a1, .int a2] σ (liI Q) := by
  refine Cn.of (k0 := 0) (by decide) rfl ?_
  show Ev (d, n, md_X12_price, σ, liI Q) M_X12_price 0 [some (.ref 11), some (.int a1), some (.int a2)] [] σ
  refine e_aload_n dX12_price_0 rfl rfl ?_
  refine e_iload_n dX12_price_1 rfl rfl ?_
  refine e_callV (M' := M_X12_isLesson) (as := [.int a1]) (rest := []) dX12_price_2 ml_X12_141 mk_X12_isLesson (ob_11 hn) rfl rfl rfl (Nat.le_of_ble_eq_true rfl) (show 0 < d by omega) (sp_X12_isLesson hn (show 1 ≤ d - 1 by omega)) Md_nil (fun v σv hq hf => ?_)
  obtain ⟨v, rfl, rfl, rfl⟩ := hq
  refine e_if_eq (tgt := 19) dX12_price_5 (by decide) (fun c1 => ?_) (fun c1 => ?_)
  · replace h := h.1 c1
    refine e_iconst dX12_price_19 ci_0 ?_
    exact e_zret dX12_price_20 rfl (nar_z (Or.inl rfl)) ⟨_, rfl, h⟩
  · replace h := h.2 c1
    refine e_iload_n dX12_price_8 rfl rfl ?_
    refine e_iconst dX12_price_9 ci_0 ?_
    refine e_sipush dX12_price_10 cs_250 ?_
    refine e_callS (M' := M_X12_isIn) (as := [.int a2, .int 0, .int 250]) (rest := []) dX12_price_13 ml_X12_134 mk_X12_isIn rfl (Nat.le_of_ble_eq_true rfl) (show 0 < d by omega) (sp_X12_isIn) Md_nil (fun v σv hq hf => ?_)
    obtain ⟨v, rfl, rfl, rfl⟩ := hq
    refine e_if_ne (tgt := 21) dX12_price_16 (by decide) (fun c2 => ?_) (fun c2 => ?_)
    · replace h := h.1 c2
      refine e_aload_n dX12_price_21 rfl rfl ?_
      refine e_getR (y := 44) dX12_price_22 fl_X12_26 (ob_11 hn) rfl rfl ?_
      refine e_iload_n dX12_price_25 rfl rfl ?_
      refine e_iload_n dX12_price_26 rfl rfl ?_
      refine e_iast dX12_price_27 (ar_44 hn) h.1 (md_r (m := md_X12_price) (by decide)) ?_
      replace h := h.2
      refine e_iconst dX12_price_28 ci_1 ?_
      exact e_zret dX12_price_29 rfl (nar_z (Or.inr rfl)) ⟨_, rfl, h⟩
    · replace h := h.2 c2
      refine e_iconst dX12_price_19 ci_0 ?_
      exact e_zret dX12_price_20 rfl (nar_z (Or.inl rfl)) ⟨_, rfl, h⟩
theorem S_X12_step {d n : Nat} {Q : Int32 → St → Prop} {σ : St} {a1 : Int32} (hn : FIX ≤ n) (hd : 1 ≤ d) (h : (((fn_X12_isIn a1 1 50) ≠ 0 → Q 1 (sI σ 11 4 a1)) ∧ ((fn_X12_isIn a1 1 50) = 0 → Q 0 σ))) : Cn d n M_X12_step md_X12_step [.ref 11, .int a1] σ (liI Q) := by
  refine Cn.of (k0 := 0) (by decide) rfl ?_
  show Ev (d, n, md_X12_step, σ, liI Q) M_X12_step 0 [some (.ref 11), some (.int a1)] [] σ
  refine e_iload_n dX12_step_0 rfl rfl ?_
  refine e_iconst dX12_step_1 ci_1 ?_
  refine e_bipush dX12_step_2 cb_50 ?_
  refine e_callS (M' := M_X12_isIn) (as := [.int a1, .int 1, .int 50]) (rest := []) dX12_step_4 ml_X12_134 mk_X12_isIn rfl (Nat.le_of_ble_eq_true rfl) (show 0 < d by omega) (sp_X12_isIn) Md_nil (fun v σv hq hf => ?_)
  obtain ⟨v, rfl, rfl, rfl⟩ := hq
  refine e_if_ne (tgt := 12) dX12_step_7 (by decide) (fun c1 => ?_) (fun c1 => ?_)
  · replace h := h.1 c1
    refine e_aload_n dX12_step_12 rfl rfl ?_
    refine e_iload_n dX12_step_13 rfl rfl ?_
    refine e_putI dX12_step_14 fl_X12_13 (ob_11 hn) rfl (fpI_12_4 _) (md_c (m := md_X12_step) (by decide)) ?_
    refine e_iconst dX12_step_17 ci_1 ?_
    exact e_zret dX12_step_18 rfl (nar_z (Or.inr rfl)) ⟨_, rfl, h⟩
  · replace h := h.2 c1
    refine e_iconst dX12_step_10 ci_0 ?_
    exact e_zret dX12_step_11 rfl (nar_z (Or.inl rfl)) ⟨_, rfl, h⟩
abbrev K_X12_four_3 (d n : Nat) (σ0 : St) (Q : St → Prop) (σ : St) (x1 : Int32) (x2 : Int32) : Prop := Ev (d, n, md_X12_four, σ0, liV Q) M_X12_four 3 [some (.ref 11), some (.int x1), some (.int x2)] [] σ
theorem B_X12_four_3 {d n : Nat} {σ0 : St} {Q : St → Prop}  {σ : St} {x1 : Int32} {x2 : Int32} (hn : FIX ≤ n) (h : ((x2 < 0 → Q σ) ∧ (¬ x2 < 0 → vp_in (gI σ 11 14) 400 ∧ K_X12_four_3 d n σ0 Q (sI (sI σ 59 (gI σ 11 14).toNatClampNeg (vp_nar .byte ((x1 >>> (x2 &&& 31)).toInt8.toInt32))) 11 14 ((gI (sI σ 59 (gI σ 11 14).toNatClampNeg (vp_nar .byte ((x1 >>> (x2 &&& 31)).toInt8.toInt32))) 11 14) + 1)) x1 (x2 + (-8))))) : K_X12_four_3 d n σ0 Q σ x1 x2 := by
  refine e_iload_n dX12_four_3 rfl rfl ?_
  refine e_if_lt (tgt := 36) dX12_four_4 (by decide) (fun c1 => ?_) (fun c1 => ?_)
  · replace h := h.1 c1
    exact e_vret dX12_four_36 rfl ⟨rfl, h⟩
  · replace h := h.2 c1
    refine e_aload_n dX12_four_7 rfl rfl ?_
    refine e_getR (y := 59) dX12_four_8 fl_X12_78 (ob_11 hn) rfl rfl ?_
    refine e_aload_n dX12_four_11 rfl rfl ?_
    refine e_getI dX12_four_12 fl_X12_154 (ob_11 hn) rfl ?_
    refine e_iload_n dX12_four_15 rfl rfl ?_
    refine e_iload_n dX12_four_16 rfl rfl ?_
    refine e_ishr dX12_four_17 ?_
    refine e_i2b dX12_four_18 ?_
    refine e_bast dX12_four_19 (ar_59 hn) h.1 (md_r (m := md_X12_four) (by decide)) ?_
    replace h := h.2
    refine e_aload_n dX12_four_20 rfl rfl ?_
    refine e_dup dX12_four_21 rfl ?_
    refine e_getI dX12_four_22 fl_X12_154 (ob_11 hn) rfl ?_
    refine e_iconst dX12_four_25 ci_1 ?_
    refine e_iadd dX12_four_26 ?_
    refine e_putI dX12_four_27 fl_X12_154 (ob_11 hn) rfl (fpI_12_14 _) (md_c (m := md_X12_four) (by decide)) ?_
    refine e_iinc dX12_four_30 rfl (ii_m8 _) rfl (by decide) ?_
    refine e_goto (tgt := 3) dX12_four_33 (by decide) ?_
    exact h
theorem S_X12_four {d n : Nat} {Q : St → Prop} {σ : St} {a1 : Int32} (hn : FIX ≤ n) (h : K_X12_four_3 d n σ Q σ a1 24) : Cn d n M_X12_four md_X12_four [.ref 11, .int a1] σ (liV Q) := by
  refine Cn.of (k0 := 1) (by decide) rfl ?_
  show Ev (d, n, md_X12_four, σ, liV Q) M_X12_four 0 [some (.ref 11), some (.int a1), none] [] σ
  refine e_bipush dX12_four_0 cb_24 ?_
  refine e_istore_n dX12_four_2 rfl rfl (by decide) ?_
  exact h
theorem S_X12_feed {d n : Nat} {Q : Int32 → St → Prop} {σ : St} {a1 : Int32} {a2 : Int32} {a3 : Int32} {a4 : Int32} {a5 : Int32} (hn : FIX ≤ n) (hd : 1 ≤ d) (h : ((((gI σ 11 14) + 20) ≤ 400 → ∃ Q2 : St → Prop, Cn (d - 1) n M_X12_four md_X12_four [.ref 11, .int a1] σ (liV Q2) ∧ ∀ (σ4 : St), Q2 σ4 → Fr md_X12_four σ σ4 → ∃ Q8 : St → Prop, Cn (d - 1) n M_X12_four md_X12_four [.ref 11, .int a2] σ4 (liV Q8) ∧ ∀ (σ10 : St), Q8 σ10 → Fr md_X12_four σ4 σ10 → ∃ Q14 : St → Prop, Cn (d - 1) n M_X12_four md_X12_four [.ref 11, .int a3] σ10 (liV Q14) ∧ ∀ (σ16 : St), Q14 σ16 → Fr md_X12_four σ10 σ16 → ∃ Q20 : St → Prop, Cn (d - 1) n M_X12_four md_X12_four [.ref 11, .int a4] σ16 (liV Q20) ∧ ∀ (σ22 : St), Q20 σ22 → Fr md_X12_four σ16 σ22 → ∃ Q26 : St → Prop, Cn (d - 1) n M_X12_four md_X12_four [.ref 11, .int a5] σ22 (liV Q26) ∧ ∀ (σ28 : St), Q26 σ28 → Fr md_X12_four σ22 σ28 → Q (gI σ28 11 14) σ28) ∧ (¬ ((gI σ 11 14) + 20) ≤ 400 → Q (-1) σ))) : Cn d n M_X12_feed md_X12_feed [.ref 11, .int a1, .int a2, .int a3, .int a4, .int a5] σ (liI Q) := by
  refine Cn.of (k0 := 0) (by decide) rfl ?_
  show Ev (d, n, md_X12_feed, σ, liI Q) M_X12_feed 0 [some (.ref 11), some (.int a1), some (.int a2), some (.int a3), some (.int a4), some (.int a5)] [] σ
  refine e_aload_n dX12_feed_0 rfl rfl ?_
  refine e_getI dX12_feed_1 fl_X12_154 (ob_11 hn) rfl ?_
  refine e_bipush dX12_feed_4 cb_20 ?_
  refine e_iadd dX12_feed_6 ?_
  refine e_sipush dX12_feed_7 cs_400 ?_
  refine e_icmp_le (tgt := 15) dX12_feed_10 (by decide) (fun c1 => ?_) (fun c1 => ?_)
  · replace h := h.1 c1
    refine e_aload_n dX12_feed_15 rfl rfl ?_
    refine e_iload_n dX12_feed_16 rfl rfl ?_
    obtain ⟨Q2, hc3, h⟩ := h
    refine e_callV (M' := M_X12_four) (as := [.int a1]) (rest := []) dX12_feed_17 ml_X12_157 mk_X12_four (ob_11 hn) rfl rfl rfl (Nat.le_of_ble_eq_true rfl) (show 0 < d by omega) hc3 (Md_le (b := md_X12_feed) (by decide)) (fun v σ4 hq hf => ?_)
    obtain ⟨rfl, hq⟩ := hq
    replace h := h σ4 hq hf
    refine e_aload_n dX12_feed_20 rfl rfl ?_
    refine e_iload_n dX12_feed_21 rfl rfl ?_
    obtain ⟨Q8, hc9, h⟩ := h
    refine e_callV (M' := M_X12_four) (as := [.int a2]) (rest := []) dX12_feed_22 ml_X12_157 mk_X12_four (ob_11 hn) rfl rfl rfl (Nat.le_of_ble_eq_true rfl) (show 0 < d by omega) hc9 (Md_le (b := md_X12_feed) (by decide)) (fun v σ10 hq hf => ?_)
    obtain ⟨rfl, hq⟩ := hq
    replace h := h σ10 hq hf
    refine e_aload_n dX12_feed_25 rfl rfl ?_
    refine e_iload_n dX12_feed_26 rfl rfl ?_
    obtain ⟨Q14, hc15, h⟩ := h
    refine e_callV (M' := M_X12_four) (as := [.int a3]) (rest := []) dX12_feed_27 ml_X12_157 mk_X12_four (ob_11 hn) rfl rfl rfl (Nat.le_of_ble_eq_true rfl) (show 0 < d by omega) hc15 (Md_le (b := md_X12_feed) (by decide)) (fun v σ16 hq hf => ?_)
    obtain ⟨rfl, hq⟩ := hq
    replace h := h σ16 hq hf
    refine e_aload_n dX12_feed_30 rfl rfl ?_
    refine e_iload dX12_feed_31 rfl ?_
    obtain ⟨Q20, hc21, h⟩ := h
    refine e_callV (M' := M_X12_four) (as := [.int a4]) (rest := []) dX12_feed_33 ml_X12_157 mk_X12_four (ob_11 hn) rfl rfl rfl (Nat.le_of_ble_eq_true rfl) (show 0 < d by omega) hc21 (Md_le (b := md_X12_feed) (by decide)) (fun v σ22 hq hf => ?_)
    obtain ⟨rfl, hq⟩ := hq
    replace h := h σ22 hq hf
    refine e_aload_n dX12_feed_36 rfl rfl ?_
    refine e_iload dX12_feed_37 rfl ?_
    obtain ⟨Q26, hc27, h⟩ := h
    refine e_callV (M' := M_X12_four) (as := [.int a5]) (rest := []) dX12_feed_39 ml_X12_157 mk_X12_four (ob_11 hn) rfl rfl rfl (Nat.le_of_ble_eq_true rfl) (show 0 < d by omega) hc27 (Md_le (b := md_X12_feed) (by decide)) (fun v σ28 hq hf => ?_)
    obtain ⟨rfl, hq⟩ := hq
    replace h := h σ28 hq hf
    refine e_aload_n dX12_feed_42 rfl rfl ?_
    refine e_getI dX12_feed_43 fl_X12_154 (ob_11 hn) rfl ?_
    exact e_iret dX12_feed_46 rfl ⟨_, rfl, h⟩
  · replace h := h.2 c1
    refine e_iconst dX12_feed_13 ci_m1 ?_
    exact e_iret dX12_feed_14 rfl ⟨_, rfl, h⟩
abbrev K_X12_blanks_0 (d n : Nat) (σ0 : St) (Q : St → Prop) (σ : St) : Prop := Ev (d, n, md_X12_blanks, σ0, liV Q) M_X12_blanks 0 [some (.ref 11)] [] σ
theorem B_X12_blanks_0 {d n : Nat} {σ0 : St} {Q : St → Prop}  {σ : St}  (hn : FIX ≤ n) (h : (((gI σ 11 15) ≤ (gI σ 11 16) → Q σ) ∧ (¬ (gI σ 11 15) ≤ (gI σ 11 16) → vp_in (gI σ 11 16) 400 ∧ (((gI σ 60 (gI σ 11 16).toNatClampNeg) = 32 → K_X12_blanks_0 d n σ0 Q (sI σ 11 16 ((gI σ 11 16) + 1))) ∧ (¬ (gI σ 60 (gI σ 11 16).toNatClampNeg) = 32 → vp_in (gI σ 11 16) 400 ∧ (((gI σ 60 (gI σ 11 16).toNatClampNeg) ≠ 10 → Q σ) ∧ ((gI σ 60 (gI σ 11 16).toNatClampNeg) = 10 → K_X12_blanks_0 d n σ0 Q (sI σ 11 16 ((gI σ 11 16) + 1))))))))) : K_X12_blanks_0 d n σ0 Q σ := by
  refine e_aload_n dX12_blanks_0 rfl rfl ?_
  refine e_getI dX12_blanks_1 fl_X12_161 (ob_11 hn) rfl ?_
  refine e_aload_n dX12_blanks_4 rfl rfl ?_
  refine e_getI dX12_blanks_5 fl_X12_164 (ob_11 hn) rfl ?_
  refine e_icmp_ge (tgt := 52) dX12_blanks_8 (by decide) (fun c1 => ?_) (fun c1 => ?_)
  · replace h := h.1 c1
    exact e_vret dX12_blanks_52 rfl ⟨rfl, h⟩
  · replace h := h.2 c1
    refine e_aload_n dX12_blanks_11 rfl rfl ?_
    refine e_getR (y := 60) dX12_blanks_12 fl_X12_82 (ob_11 hn) rfl rfl ?_
    refine e_aload_n dX12_blanks_15 rfl rfl ?_
    refine e_getI dX12_blanks_16 fl_X12_161 (ob_11 hn) rfl ?_
    refine e_bald dX12_blanks_19 (ar_60 hn) h.1 ?_
    replace h := h.2
    refine e_bipush dX12_blanks_20 cb_32 ?_
    refine e_icmp_eq (tgt := 39) dX12_blanks_22 (by decide) (fun c2 => ?_) (fun c2 => ?_)
    · replace h := h.1 c2
      refine e_aload_n dX12_blanks_39 rfl rfl ?_
      refine e_dup dX12_blanks_40 rfl ?_
      refine e_getI dX12_blanks_41 fl_X12_161 (ob_11 hn) rfl ?_
      refine e_iconst dX12_blanks_44 ci_1 ?_
      refine e_iadd dX12_blanks_45 ?_
      refine e_putI dX12_blanks_46 fl_X12_161 (ob_11 hn) rfl (fpI_12_16 _) (md_c (m := md_X12_blanks) (by decide)) ?_
      refine e_goto (tgt := 0) dX12_blanks_49 (by decide) ?_
      exact h
    · replace h := h.2 c2
      refine e_aload_n dX12_blanks_25 rfl rfl ?_
      refine e_getR (y := 60) dX12_blanks_26 fl_X12_82 (ob_11 hn) rfl rfl ?_
      refine e_aload_n dX12_blanks_29 rfl rfl ?_
      refine e_getI dX12_blanks_30 fl_X12_161 (ob_11 hn) rfl ?_
      refine e_bald dX12_blanks_33 (ar_60 hn) h.1 ?_
      replace h := h.2
      refine e_bipush dX12_blanks_34 cb_10 ?_
      refine e_icmp_ne (tgt := 52) dX12_blanks_36 (by decide) (fun c3 => ?_) (fun c3 => ?_)
      · replace h := h.1 c3
        exact e_vret dX12_blanks_52 rfl ⟨rfl, h⟩
      · replace h := h.2 c3
        refine e_aload_n dX12_blanks_39 rfl rfl ?_
        refine e_dup dX12_blanks_40 rfl ?_
        refine e_getI dX12_blanks_41 fl_X12_161 (ob_11 hn) rfl ?_
        refine e_iconst dX12_blanks_44 ci_1 ?_
        refine e_iadd dX12_blanks_45 ?_
        refine e_putI dX12_blanks_46 fl_X12_161 (ob_11 hn) rfl (fpI_12_16 _) (md_c (m := md_X12_blanks) (by decide)) ?_
        refine e_goto (tgt := 0) dX12_blanks_49 (by decide) ?_
        exact h
theorem S_X12_blanks {d n : Nat} {Q : St → Prop} {σ : St}  (hn : FIX ≤ n) (h : K_X12_blanks_0 d n σ Q σ) : Cn d n M_X12_blanks md_X12_blanks [.ref 11] σ (liV Q) := by
  refine Cn.of (k0 := 0) (by decide) rfl ?_
  show Ev (d, n, md_X12_blanks, σ, liV Q) M_X12_blanks 0 [some (.ref 11)] [] σ
  exact h
abbrev K_X12_word_14 (d n : Nat) (σ0 : St) (Q : Int64 → St → Prop) (σ : St) (x1 : Int64) : Prop := Ev (d, n, md_X12_word, σ0, liL Q) M_X12_word 14 [some (.ref 11), some (.long x1), none] [] σ
theorem B_X12_word_14 {d n : Nat} {σ0 : St} {Q : Int64 → St → Prop}  {σ : St} {x1 : Int64} (hn : FIX ≤ n) (hd : 1 ≤ d) (h : (((gI σ 11 15) ≤ (gI σ 11 33) → ((((gI σ 11 33) - (gI σ 11 16)) ≤ 7 → Q x1 σ) ∧ (¬ ((gI σ 11 33) - (gI σ 11 16)) ≤ 7 → Q 0 σ))) ∧ (¬ (gI σ 11 15) ≤ (gI σ 11 33) → vp_in (gI σ 11 33) 400 ∧ (((gI σ 60 (gI σ 11 33).toNatClampNeg) < 97 → ((((gI σ 11 33) - (gI σ 11 16)) ≤ 7 → Q x1 σ) ∧ (¬ ((gI σ 11 33) - (gI σ 11 16)) ≤ 7 → Q 0 σ))) ∧ (¬ (gI σ 60 (gI σ 11 33).toNatClampNeg) < 97 → vp_in (gI σ 11 33) 400 ∧ (((122 : Int32) < (gI σ 60 (gI σ 11 33).toNatClampNeg) → ((((gI σ 11 33) - (gI σ 11 16)) ≤ 7 → Q x1 σ) ∧ (¬ ((gI σ 11 33) - (gI σ 11 16)) ≤ 7 → Q 0 σ))) ∧ (¬ (122 : Int32) < (gI σ 60 (gI σ 11 33).toNatClampNeg) → (((7 : Int32) ≤ ((gI σ 11 33) - (gI σ 11 16)) → K_X12_word_14 d n σ0 Q (sI σ 11 33 ((gI σ 11 33) + 1)) 0) ∧ (¬ (7 : Int32) ≤ ((gI σ 11 33) - (gI σ 11 16)) → vp_in (gI σ 11 33) 400 ∧ K_X12_word_14 d n σ0 Q (sI σ 11 33 ((gI σ 11 33) + 1)) ((x1 <<< ((8 : Int32).toInt64 &&& 63)) ||| ((gI σ 60 (gI σ 11 33).toNatClampNeg).toInt64))))))))))) : K_X12_word_14 d n σ0 Q σ x1 := by
  refine e_aload_n dX12_word_14 rfl rfl ?_
  refine e_getI dX12_word_15 fl_X12_170 (ob_11 hn) rfl ?_
  refine e_aload_n dX12_word_18 rfl rfl ?_
  refine e_getI dX12_word_19 fl_X12_164 (ob_11 hn) rfl ?_
  refine e_icmp_ge (tgt := 100) dX12_word_22 (by decide) (fun c1 => ?_) (fun c1 => ?_)
  · replace h := h.1 c1
    refine e_aload_n dX12_word_100 rfl rfl ?_
    refine e_getI dX12_word_101 fl_X12_170 (ob_11 hn) rfl ?_
    refine e_aload_n dX12_word_104 rfl rfl ?_
    refine e_getI dX12_word_105 fl_X12_161 (ob_11 hn) rfl ?_
    refine e_isub dX12_word_108 ?_
    refine e_bipush dX12_word_109 cb_7 ?_
    refine e_icmp_le (tgt := 118) dX12_word_111 (by decide) (fun c2 => ?_) (fun c2 => ?_)
    · replace h := h.1 c2
      refine e_lload_n dX12_word_118 rfl rfl ?_
      exact e_lret dX12_word_119 rfl ⟨_, rfl, h⟩
    · replace h := h.2 c2
      refine e_lconst dX12_word_114 (v := 0) rfl ?_
      refine e_goto (tgt := 119) dX12_word_115 (by decide) ?_
      exact e_lret dX12_word_119 rfl ⟨_, rfl, h⟩
  · replace h := h.2 c1
    refine e_aload_n dX12_word_25 rfl rfl ?_
    refine e_getR (y := 60) dX12_word_26 fl_X12_82 (ob_11 hn) rfl rfl ?_
    refine e_aload_n dX12_word_29 rfl rfl ?_
    refine e_getI dX12_word_30 fl_X12_170 (ob_11 hn) rfl ?_
    refine e_bald dX12_word_33 (ar_60 hn) h.1 ?_
    replace h := h.2
    refine e_bipush dX12_word_34 cb_97 ?_
    refine e_icmp_lt (tgt := 100) dX12_word_36 (by decide) (fun c3 => ?_) (fun c3 => ?_)
    · replace h := h.1 c3
      refine e_aload_n dX12_word_100 rfl rfl ?_
      refine e_getI dX12_word_101 fl_X12_170 (ob_11 hn) rfl ?_
      refine e_aload_n dX12_word_104 rfl rfl ?_
      refine e_getI dX12_word_105 fl_X12_161 (ob_11 hn) rfl ?_
      refine e_isub dX12_word_108 ?_
      refine e_bipush dX12_word_109 cb_7 ?_
      refine e_icmp_le (tgt := 118) dX12_word_111 (by decide) (fun c4 => ?_) (fun c4 => ?_)
      · replace h := h.1 c4
        refine e_lload_n dX12_word_118 rfl rfl ?_
        exact e_lret dX12_word_119 rfl ⟨_, rfl, h⟩
      · replace h := h.2 c4
        refine e_lconst dX12_word_114 (v := 0) rfl ?_
        refine e_goto (tgt := 119) dX12_word_115 (by decide) ?_
        exact e_lret dX12_word_119 rfl ⟨_, rfl, h⟩
    · replace h := h.2 c3
      refine e_aload_n dX12_word_39 rfl rfl ?_
      refine e_getR (y := 60) dX12_word_40 fl_X12_82 (ob_11 hn) rfl rfl ?_
      refine e_aload_n dX12_word_43 rfl rfl ?_
      refine e_getI dX12_word_44 fl_X12_170 (ob_11 hn) rfl ?_
      refine e_bald dX12_word_47 (ar_60 hn) h.1 ?_
      replace h := h.2
      refine e_bipush dX12_word_48 cb_122 ?_
      refine e_icmp_gt (tgt := 100) dX12_word_50 (by decide) (fun c5 => ?_) (fun c5 => ?_)
      · replace h := h.1 c5
        refine e_aload_n dX12_word_100 rfl rfl ?_
        refine e_getI dX12_word_101 fl_X12_170 (ob_11 hn) rfl ?_
        refine e_aload_n dX12_word_104 rfl rfl ?_
        refine e_getI dX12_word_105 fl_X12_161 (ob_11 hn) rfl ?_
        refine e_isub dX12_word_108 ?_
        refine e_bipush dX12_word_109 cb_7 ?_
        refine e_icmp_le (tgt := 118) dX12_word_111 (by decide) (fun c6 => ?_) (fun c6 => ?_)
        · replace h := h.1 c6
          refine e_lload_n dX12_word_118 rfl rfl ?_
          exact e_lret dX12_word_119 rfl ⟨_, rfl, h⟩
        · replace h := h.2 c6
          refine e_lconst dX12_word_114 (v := 0) rfl ?_
          refine e_goto (tgt := 119) dX12_word_115 (by decide) ?_
          exact e_lret dX12_word_119 rfl ⟨_, rfl, h⟩
      · replace h := h.2 c5
        refine e_aload_n dX12_word_53 rfl rfl ?_
        refine e_getI dX12_word_54 fl_X12_170 (ob_11 hn) rfl ?_
        refine e_aload_n dX12_word_57 rfl rfl ?_
        refine e_getI dX12_word_58 fl_X12_161 (ob_11 hn) rfl ?_
        refine e_isub dX12_word_61 ?_
        refine e_bipush dX12_word_62 cb_7 ?_
        refine e_icmp_ge (tgt := 85) dX12_word_64 (by decide) (fun c7 => ?_) (fun c7 => ?_)
        · replace h := h.1 c7
          refine e_lconst dX12_word_85 (v := 0) rfl ?_
          refine e_lstore_n dX12_word_86 rfl rfl (by decide) ?_
          refine e_aload_n dX12_word_87 rfl rfl ?_
          refine e_dup dX12_word_88 rfl ?_
          refine e_getI dX12_word_89 fl_X12_170 (ob_11 hn) rfl ?_
          refine e_iconst dX12_word_92 ci_1 ?_
          refine e_iadd dX12_word_93 ?_
          refine e_putI dX12_word_94 fl_X12_170 (ob_11 hn) rfl (fpI_12_33 _) (md_c (m := md_X12_word) (by decide)) ?_
          refine e_goto (tgt := 14) dX12_word_97 (by decide) ?_
          exact h
        · replace h := h.2 c7
          refine e_lload_n dX12_word_67 rfl rfl ?_
          refine e_bipush dX12_word_68 cb_8 ?_
          refine e_lshl dX12_word_70 ?_
          refine e_aload_n dX12_word_71 rfl rfl ?_
          refine e_getR (y := 60) dX12_word_72 fl_X12_82 (ob_11 hn) rfl rfl ?_
          refine e_aload_n dX12_word_75 rfl rfl ?_
          refine e_getI dX12_word_76 fl_X12_170 (ob_11 hn) rfl ?_
          refine e_bald dX12_word_79 (ar_60 hn) h.1 ?_
          replace h := h.2
          refine e_i2l dX12_word_80 ?_
          refine e_lor dX12_word_81 ?_
          refine e_goto (tgt := 86) dX12_word_82 (by decide) ?_
          refine e_lstore_n dX12_word_86 rfl rfl (by decide) ?_
          refine e_aload_n dX12_word_87 rfl rfl ?_
          refine e_dup dX12_word_88 rfl ?_
          refine e_getI dX12_word_89 fl_X12_170 (ob_11 hn) rfl ?_
          refine e_iconst dX12_word_92 ci_1 ?_
          refine e_iadd dX12_word_93 ?_
          refine e_putI dX12_word_94 fl_X12_170 (ob_11 hn) rfl (fpI_12_33 _) (md_c (m := md_X12_word) (by decide)) ?_
          refine e_goto (tgt := 14) dX12_word_97 (by decide) ?_
          exact h
theorem S_X12_word {d n : Nat} {Q : Int64 → St → Prop} {σ : St}  (hn : FIX ≤ n) (hd : 1 ≤ d) (h : ∃ Q1 : St → Prop, Cn (d - 1) n M_X12_blanks md_X12_blanks [.ref 11] σ (liV Q1) ∧ ∀ (σ3 : St), Q1 σ3 → Fr md_X12_blanks σ σ3 → K_X12_word_14 d n σ Q (sI σ3 11 33 (gI σ3 11 16)) 0) : Cn d n M_X12_word md_X12_word [.ref 11] σ (liL Q) := by
  refine Cn.of (k0 := 2) (by decide) rfl ?_
  show Ev (d, n, md_X12_word, σ, liL Q) M_X12_word 0 [some (.ref 11), none, none] [] σ
  refine e_aload_n dX12_word_0 rfl rfl ?_
  obtain ⟨Q1, hc2, h⟩ := h
  refine e_callV (M' := M_X12_blanks) (as := []) (rest := []) dX12_word_1 ml_X12_167 mk_X12_blanks (ob_11 hn) rfl rfl rfl (Nat.le_of_ble_eq_true rfl) (show 0 < d by omega) hc2 (Md_le (b := md_X12_word) (by decide)) (fun v σ3 hq hf => ?_)
  obtain ⟨rfl, hq⟩ := hq
  replace h := h σ3 hq hf
  refine e_aload_n dX12_word_4 rfl rfl ?_
  refine e_aload_n dX12_word_5 rfl rfl ?_
  refine e_getI dX12_word_6 fl_X12_161 (ob_11 hn) rfl ?_
  refine e_putI dX12_word_9 fl_X12_170 (ob_11 hn) rfl (fpI_12_33 _) (md_c (m := md_X12_word) (by decide)) ?_
  refine e_lconst dX12_word_12 (v := 0) rfl ?_
  refine e_lstore_n dX12_word_13 rfl rfl (by decide) ?_
  exact h
theorem S_X12_takes {d n : Nat} {Q : Int32 → St → Prop} {σ : St} {a1 : Int64} (hn : FIX ≤ n) (hd : 1 ≤ d) (h : ∃ Q1 : Int64 → St → Prop, Cn (d - 1) n M_X12_word md_X12_word [.ref 11] σ (liL Q1) ∧ ∀ (v4 : Int64) (σ3 : St), Q1 v4 σ3 → Fr md_X12_word σ σ3 → (((lg_cmp v4 a1) = 0 → Q 1 (sI σ3 11 16 (gI σ3 11 33))) ∧ (¬ (lg_cmp v4 a1) = 0 → Q 0 σ3))) : Cn d n M_X12_takes md_X12_takes [.ref 11, .long a1] σ (liI Q) := by
  refine Cn.of (k0 := 0) (by decide) rfl ?_
  show Ev (d, n, md_X12_takes, σ, liI Q) M_X12_takes 0 [some (.ref 11), some (.long a1), none] [] σ
  refine e_aload_n dX12_takes_0 rfl rfl ?_
  obtain ⟨Q1, hc2, h⟩ := h
  refine e_callV (M' := M_X12_word) (as := []) (rest := []) dX12_takes_1 ml_X12_173 mk_X12_word (ob_11 hn) rfl rfl rfl (Nat.le_of_ble_eq_true rfl) (show 0 < d by omega) hc2 (Md_le (b := md_X12_takes) (by decide)) (fun v σ3 hq hf => ?_)
  obtain ⟨v4, rfl, hq⟩ := hq
  replace h := h v4 σ3 hq hf
  refine e_lload_n dX12_takes_4 rfl rfl ?_
  refine e_lcmp dX12_takes_5 ?_
  refine e_if_eq (tgt := 11) dX12_takes_6 (by decide) (fun c7 => ?_) (fun c7 => ?_)
  · replace h := h.1 c7
    refine e_aload_n dX12_takes_11 rfl rfl ?_
    refine e_aload_n dX12_takes_12 rfl rfl ?_
    refine e_getI dX12_takes_13 fl_X12_170 (ob_11 hn) rfl ?_
    refine e_putI dX12_takes_16 fl_X12_161 (ob_11 hn) rfl (fpI_12_16 _) (md_c (m := md_X12_takes) (by decide)) ?_
    refine e_iconst dX12_takes_19 ci_1 ?_
    exact e_zret dX12_takes_20 rfl (nar_z (Or.inr rfl)) ⟨_, rfl, h⟩
  · replace h := h.2 c7
    refine e_iconst dX12_takes_9 ci_0 ?_
    exact e_zret dX12_takes_10 rfl (nar_z (Or.inl rfl)) ⟨_, rfl, h⟩
theorem S_X12_takesSign {d n : Nat} {Q : Int32 → St → Prop} {σ : St} {a1 : Int32} (hn : FIX ≤ n) (hd : 1 ≤ d) (h : ∃ Q1 : St → Prop, Cn (d - 1) n M_X12_blanks md_X12_blanks [.ref 11] σ (liV Q1) ∧ ∀ (σ3 : St), Q1 σ3 → Fr md_X12_blanks σ σ3 → (((gI σ3 11 16) = (gI σ3 11 15) → Q 0 σ3) ∧ (¬ (gI σ3 11 16) = (gI σ3 11 15) → vp_in (gI σ3 11 16) 400 ∧ (((gI σ3 60 (gI σ3 11 16).toNatClampNeg) = a1 → Q 1 (sI σ3 11 16 ((gI σ3 11 16) + 1))) ∧ (¬ (gI σ3 60 (gI σ3 11 16).toNatClampNeg) = a1 → Q 0 σ3))))) : Cn d n M_X12_takesSign md_X12_takesSign [.ref 11, .int a1] σ (liI Q) := by
  refine Cn.of (k0 := 0) (by decide) rfl ?_
  show Ev (d, n, md_X12_takesSign, σ, liI Q) M_X12_takesSign 0 [some (.ref 11), some (.int a1)] [] σ
  refine e_aload_n dX12_takesSign_0 rfl rfl ?_
  obtain ⟨Q1, hc2, h⟩ := h
  refine e_callV (M' := M_X12_blanks) (as := []) (rest := []) dX12_takesSign_1 ml_X12_167 mk_X12_blanks (ob_11 hn) rfl rfl rfl (Nat.le_of_ble_eq_true rfl) (show 0 < d by omega) hc2 (Md_le (b := md_X12_takesSign) (by decide)) (fun v σ3 hq hf => ?_)
  obtain ⟨rfl, hq⟩ := hq
  replace h := h σ3 hq hf
  refine e_aload_n dX12_takesSign_4 rfl rfl ?_
  refine e_getI dX12_takesSign_5 fl_X12_161 (ob_11 hn) rfl ?_
  refine e_aload_n dX12_takesSign_8 rfl rfl ?_
  refine e_getI dX12_takesSign_9 fl_X12_164 (ob_11 hn) rfl ?_
  refine e_icmp_eq (tgt := 28) dX12_takesSign_12 (by decide) (fun c7 => ?_) (fun c7 => ?_)
  · replace h := h.1 c7
    refine e_iconst dX12_takesSign_28 ci_0 ?_
    exact e_zret dX12_takesSign_29 rfl (nar_z (Or.inl rfl)) ⟨_, rfl, h⟩
  · replace h := h.2 c7
    refine e_aload_n dX12_takesSign_15 rfl rfl ?_
    refine e_getR (y := 60) dX12_takesSign_16 fl_X12_82 (ob_11 hn) rfl rfl ?_
    refine e_aload_n dX12_takesSign_19 rfl rfl ?_
    refine e_getI dX12_takesSign_20 fl_X12_161 (ob_11 hn) rfl ?_
    refine e_bald dX12_takesSign_23 (ar_60 hn) h.1 ?_
    replace h := h.2
    refine e_iload_n dX12_takesSign_24 rfl rfl ?_
    refine e_icmp_eq (tgt := 30) dX12_takesSign_25 (by decide) (fun c8 => ?_) (fun c8 => ?_)
    · replace h := h.1 c8
      refine e_aload_n dX12_takesSign_30 rfl rfl ?_
      refine e_dup dX12_takesSign_31 rfl ?_
      refine e_getI dX12_takesSign_32 fl_X12_161 (ob_11 hn) rfl ?_
      refine e_iconst dX12_takesSign_35 ci_1 ?_
      refine e_iadd dX12_takesSign_36 ?_
      refine e_putI dX12_takesSign_37 fl_X12_161 (ob_11 hn) rfl (fpI_12_16 _) (md_c (m := md_X12_takesSign) (by decide)) ?_
      refine e_iconst dX12_takesSign_40 ci_1 ?_
      exact e_zret dX12_takesSign_41 rfl (nar_z (Or.inr rfl)) ⟨_, rfl, h⟩
    · replace h := h.2 c8
      refine e_iconst dX12_takesSign_28 ci_0 ?_
      exact e_zret dX12_takesSign_29 rfl (nar_z (Or.inl rfl)) ⟨_, rfl, h⟩
abbrev K_X12_takesNumber_14 (d n : Nat) (σ0 : St) (Q : Int32 → St → Prop) (σ : St) (x1 : Int32) (x2 : Int32) : Prop := Ev (d, n, md_X12_takesNumber, σ0, liI Q) M_X12_takesNumber 14 [some (.ref 11), some (.int x1), some (.int x2)] [] σ
theorem B_X12_takesNumber_14 {d n : Nat} {σ0 : St} {Q : Int32 → St → Prop}  {σ : St} {x1 : Int32} {x2 : Int32} (hn : FIX ≤ n) (hd : 1 ≤ d) (h : (((gI σ 11 15) ≤ x2 → ((x2 = (gI σ 11 16) → Q 0 σ) ∧ (¬ x2 = (gI σ 11 16) → (((5 : Int32) < (x2 - (gI σ 11 16)) → Q 0 σ) ∧ (¬ (5 : Int32) < (x2 - (gI σ 11 16)) → (((gI σ 11 34) ≤ x1 → Q 1 (sI σ 11 16 x2)) ∧ (¬ (gI σ 11 34) ≤ x1 → Q 0 σ))))))) ∧ (¬ (gI σ 11 15) ≤ x2 → vp_in x2 400 ∧ (((gI σ 60 x2.toNatClampNeg) < 48 → ((x2 = (gI σ 11 16) → Q 0 σ) ∧ (¬ x2 = (gI σ 11 16) → (((5 : Int32) < (x2 - (gI σ 11 16)) → Q 0 σ) ∧ (¬ (5 : Int32) < (x2 - (gI σ 11 16)) → (((gI σ 11 34) ≤ x1 → Q 1 (sI σ 11 16 x2)) ∧ (¬ (gI σ 11 34) ≤ x1 → Q 0 σ))))))) ∧ (¬ (gI σ 60 x2.toNatClampNeg) < 48 → vp_in x2 400 ∧ (((57 : Int32) < (gI σ 60 x2.toNatClampNeg) → ((x2 = (gI σ 11 16) → Q 0 σ) ∧ (¬ x2 = (gI σ 11 16) → (((5 : Int32) < (x2 - (gI σ 11 16)) → Q 0 σ) ∧ (¬ (5 : Int32) < (x2 - (gI σ 11 16)) → (((gI σ 11 34) ≤ x1 → Q 1 (sI σ 11 16 x2)) ∧ (¬ (gI σ 11 34) ≤ x1 → Q 0 σ))))))) ∧ (¬ (57 : Int32) < (gI σ 60 x2.toNatClampNeg) → (((5 : Int32) ≤ (x2 - (gI σ 11 16)) → K_X12_takesNumber_14 d n σ0 Q σ x1 (x2 + 1)) ∧ (¬ (5 : Int32) ≤ (x2 - (gI σ 11 16)) → vp_in x2 400 ∧ K_X12_takesNumber_14 d n σ0 Q (sI σ 11 34 (((10 * (gI σ 11 34)) + (gI σ 60 x2.toNatClampNeg)) - 48)) x1 (x2 + 1)))))))))) : K_X12_takesNumber_14 d n σ0 Q σ x1 x2 := by
  refine e_iload_n dX12_takesNumber_14 rfl rfl ?_
  refine e_aload_n dX12_takesNumber_15 rfl rfl ?_
  refine e_getI dX12_takesNumber_16 fl_X12_164 (ob_11 hn) rfl ?_
  refine e_icmp_ge (tgt := 81) dX12_takesNumber_19 (by decide) (fun c1 => ?_) (fun c1 => ?_)
  · replace h := h.1 c1
    refine e_iload_n dX12_takesNumber_81 rfl rfl ?_
    refine e_aload_n dX12_takesNumber_82 rfl rfl ?_
    refine e_getI dX12_takesNumber_83 fl_X12_161 (ob_11 hn) rfl ?_
    refine e_icmp_eq (tgt := 107) dX12_takesNumber_86 (by decide) (fun c2 => ?_) (fun c2 => ?_)
    · replace h := h.1 c2
      refine e_iconst dX12_takesNumber_107 ci_0 ?_
      exact e_zret dX12_takesNumber_108 rfl (nar_z (Or.inl rfl)) ⟨_, rfl, h⟩
    · replace h := h.2 c2
      refine e_iload_n dX12_takesNumber_89 rfl rfl ?_
      refine e_aload_n dX12_takesNumber_90 rfl rfl ?_
      refine e_getI dX12_takesNumber_91 fl_X12_161 (ob_11 hn) rfl ?_
      refine e_isub dX12_takesNumber_94 ?_
      refine e_iconst dX12_takesNumber_95 ci_5 ?_
      refine e_icmp_gt (tgt := 107) dX12_takesNumber_96 (by decide) (fun c3 => ?_) (fun c3 => ?_)
      · replace h := h.1 c3
        refine e_iconst dX12_takesNumber_107 ci_0 ?_
        exact e_zret dX12_takesNumber_108 rfl (nar_z (Or.inl rfl)) ⟨_, rfl, h⟩
      · replace h := h.2 c3
        refine e_aload_n dX12_takesNumber_99 rfl rfl ?_
        refine e_getI dX12_takesNumber_100 fl_X12_177 (ob_11 hn) rfl ?_
        refine e_iload_n dX12_takesNumber_103 rfl rfl ?_
        refine e_icmp_le (tgt := 109) dX12_takesNumber_104 (by decide) (fun c4 => ?_) (fun c4 => ?_)
        · replace h := h.1 c4
          refine e_aload_n dX12_takesNumber_109 rfl rfl ?_
          refine e_iload_n dX12_takesNumber_110 rfl rfl ?_
          refine e_putI dX12_takesNumber_111 fl_X12_161 (ob_11 hn) rfl (fpI_12_16 _) (md_c (m := md_X12_takesNumber) (by decide)) ?_
          refine e_iconst dX12_takesNumber_114 ci_1 ?_
          exact e_zret dX12_takesNumber_115 rfl (nar_z (Or.inr rfl)) ⟨_, rfl, h⟩
        · replace h := h.2 c4
          refine e_iconst dX12_takesNumber_107 ci_0 ?_
          exact e_zret dX12_takesNumber_108 rfl (nar_z (Or.inl rfl)) ⟨_, rfl, h⟩
  · replace h := h.2 c1
    refine e_aload_n dX12_takesNumber_22 rfl rfl ?_
    refine e_getR (y := 60) dX12_takesNumber_23 fl_X12_82 (ob_11 hn) rfl rfl ?_
    refine e_iload_n dX12_takesNumber_26 rfl rfl ?_
    refine e_bald dX12_takesNumber_27 (ar_60 hn) h.1 ?_
    replace h := h.2
    refine e_bipush dX12_takesNumber_28 cb_48 ?_
    refine e_icmp_lt (tgt := 81) dX12_takesNumber_30 (by decide) (fun c5 => ?_) (fun c5 => ?_)
    · replace h := h.1 c5
      refine e_iload_n dX12_takesNumber_81 rfl rfl ?_
      refine e_aload_n dX12_takesNumber_82 rfl rfl ?_
      refine e_getI dX12_takesNumber_83 fl_X12_161 (ob_11 hn) rfl ?_
      refine e_icmp_eq (tgt := 107) dX12_takesNumber_86 (by decide) (fun c6 => ?_) (fun c6 => ?_)
      · replace h := h.1 c6
        refine e_iconst dX12_takesNumber_107 ci_0 ?_
        exact e_zret dX12_takesNumber_108 rfl (nar_z (Or.inl rfl)) ⟨_, rfl, h⟩
      · replace h := h.2 c6
        refine e_iload_n dX12_takesNumber_89 rfl rfl ?_
        refine e_aload_n dX12_takesNumber_90 rfl rfl ?_
        refine e_getI dX12_takesNumber_91 fl_X12_161 (ob_11 hn) rfl ?_
        refine e_isub dX12_takesNumber_94 ?_
        refine e_iconst dX12_takesNumber_95 ci_5 ?_
        refine e_icmp_gt (tgt := 107) dX12_takesNumber_96 (by decide) (fun c7 => ?_) (fun c7 => ?_)
        · replace h := h.1 c7
          refine e_iconst dX12_takesNumber_107 ci_0 ?_
          exact e_zret dX12_takesNumber_108 rfl (nar_z (Or.inl rfl)) ⟨_, rfl, h⟩
        · replace h := h.2 c7
          refine e_aload_n dX12_takesNumber_99 rfl rfl ?_
          refine e_getI dX12_takesNumber_100 fl_X12_177 (ob_11 hn) rfl ?_
          refine e_iload_n dX12_takesNumber_103 rfl rfl ?_
          refine e_icmp_le (tgt := 109) dX12_takesNumber_104 (by decide) (fun c8 => ?_) (fun c8 => ?_)
          · replace h := h.1 c8
            refine e_aload_n dX12_takesNumber_109 rfl rfl ?_
            refine e_iload_n dX12_takesNumber_110 rfl rfl ?_
            refine e_putI dX12_takesNumber_111 fl_X12_161 (ob_11 hn) rfl (fpI_12_16 _) (md_c (m := md_X12_takesNumber) (by decide)) ?_
            refine e_iconst dX12_takesNumber_114 ci_1 ?_
            exact e_zret dX12_takesNumber_115 rfl (nar_z (Or.inr rfl)) ⟨_, rfl, h⟩
          · replace h := h.2 c8
            refine e_iconst dX12_takesNumber_107 ci_0 ?_
            exact e_zret dX12_takesNumber_108 rfl (nar_z (Or.inl rfl)) ⟨_, rfl, h⟩
    · replace h := h.2 c5
      refine e_aload_n dX12_takesNumber_33 rfl rfl ?_
      refine e_getR (y := 60) dX12_takesNumber_34 fl_X12_82 (ob_11 hn) rfl rfl ?_
      refine e_iload_n dX12_takesNumber_37 rfl rfl ?_
      refine e_bald dX12_takesNumber_38 (ar_60 hn) h.1 ?_
      replace h := h.2
      refine e_bipush dX12_takesNumber_39 cb_57 ?_
      refine e_icmp_gt (tgt := 81) dX12_takesNumber_41 (by decide) (fun c9 => ?_) (fun c9 => ?_)
      · replace h := h.1 c9
        refine e_iload_n dX12_takesNumber_81 rfl rfl ?_
        refine e_aload_n dX12_takesNumber_82 rfl rfl ?_
        refine e_getI dX12_takesNumber_83 fl_X12_161 (ob_11 hn) rfl ?_
        refine e_icmp_eq (tgt := 107) dX12_takesNumber_86 (by decide) (fun c10 => ?_) (fun c10 => ?_)
        · replace h := h.1 c10
          refine e_iconst dX12_takesNumber_107 ci_0 ?_
          exact e_zret dX12_takesNumber_108 rfl (nar_z (Or.inl rfl)) ⟨_, rfl, h⟩
        · replace h := h.2 c10
          refine e_iload_n dX12_takesNumber_89 rfl rfl ?_
          refine e_aload_n dX12_takesNumber_90 rfl rfl ?_
          refine e_getI dX12_takesNumber_91 fl_X12_161 (ob_11 hn) rfl ?_
          refine e_isub dX12_takesNumber_94 ?_
          refine e_iconst dX12_takesNumber_95 ci_5 ?_
          refine e_icmp_gt (tgt := 107) dX12_takesNumber_96 (by decide) (fun c11 => ?_) (fun c11 => ?_)
          · replace h := h.1 c11
            refine e_iconst dX12_takesNumber_107 ci_0 ?_
            exact e_zret dX12_takesNumber_108 rfl (nar_z (Or.inl rfl)) ⟨_, rfl, h⟩
          · replace h := h.2 c11
            refine e_aload_n dX12_takesNumber_99 rfl rfl ?_
            refine e_getI dX12_takesNumber_100 fl_X12_177 (ob_11 hn) rfl ?_
            refine e_iload_n dX12_takesNumber_103 rfl rfl ?_
            refine e_icmp_le (tgt := 109) dX12_takesNumber_104 (by decide) (fun c12 => ?_) (fun c12 => ?_)
            · replace h := h.1 c12
              refine e_aload_n dX12_takesNumber_109 rfl rfl ?_
              refine e_iload_n dX12_takesNumber_110 rfl rfl ?_
              refine e_putI dX12_takesNumber_111 fl_X12_161 (ob_11 hn) rfl (fpI_12_16 _) (md_c (m := md_X12_takesNumber) (by decide)) ?_
              refine e_iconst dX12_takesNumber_114 ci_1 ?_
              exact e_zret dX12_takesNumber_115 rfl (nar_z (Or.inr rfl)) ⟨_, rfl, h⟩
            · replace h := h.2 c12
              refine e_iconst dX12_takesNumber_107 ci_0 ?_
              exact e_zret dX12_takesNumber_108 rfl (nar_z (Or.inl rfl)) ⟨_, rfl, h⟩
      · replace h := h.2 c9
        refine e_iload_n dX12_takesNumber_44 rfl rfl ?_
        refine e_aload_n dX12_takesNumber_45 rfl rfl ?_
        refine e_getI dX12_takesNumber_46 fl_X12_161 (ob_11 hn) rfl ?_
        refine e_isub dX12_takesNumber_49 ?_
        refine e_iconst dX12_takesNumber_50 ci_5 ?_
        refine e_icmp_ge (tgt := 75) dX12_takesNumber_51 (by decide) (fun c13 => ?_) (fun c13 => ?_)
        · replace h := h.1 c13
          refine e_iinc dX12_takesNumber_75 rfl (ii_1 _) rfl (by decide) ?_
          refine e_goto (tgt := 14) dX12_takesNumber_78 (by decide) ?_
          exact h
        · replace h := h.2 c13
          refine e_aload_n dX12_takesNumber_54 rfl rfl ?_
          refine e_bipush dX12_takesNumber_55 cb_10 ?_
          refine e_aload_n dX12_takesNumber_57 rfl rfl ?_
          refine e_getI dX12_takesNumber_58 fl_X12_177 (ob_11 hn) rfl ?_
          refine e_imul dX12_takesNumber_61 ?_
          refine e_aload_n dX12_takesNumber_62 rfl rfl ?_
          refine e_getR (y := 60) dX12_takesNumber_63 fl_X12_82 (ob_11 hn) rfl rfl ?_
          refine e_iload_n dX12_takesNumber_66 rfl rfl ?_
          refine e_bald dX12_takesNumber_67 (ar_60 hn) h.1 ?_
          replace h := h.2
          refine e_iadd dX12_takesNumber_68 ?_
          refine e_bipush dX12_takesNumber_69 cb_48 ?_
          refine e_isub dX12_takesNumber_71 ?_
          refine e_putI dX12_takesNumber_72 fl_X12_177 (ob_11 hn) rfl (fpI_12_34 _) (md_c (m := md_X12_takesNumber) (by decide)) ?_
          refine e_iinc dX12_takesNumber_75 rfl (ii_1 _) rfl (by decide) ?_
          refine e_goto (tgt := 14) dX12_takesNumber_78 (by decide) ?_
          exact h
theorem S_X12_takesNumber {d n : Nat} {Q : Int32 → St → Prop} {σ : St} {a1 : Int32} (hn : FIX ≤ n) (hd : 1 ≤ d) (h : ∃ Q1 : St → Prop, Cn (d - 1) n M_X12_blanks md_X12_blanks [.ref 11] σ (liV Q1) ∧ ∀ (σ3 : St), Q1 σ3 → Fr md_X12_blanks σ σ3 → K_X12_takesNumber_14 d n σ Q (sI σ3 11 34 0) a1 (gI σ3 11 16)) : Cn d n M_X12_takesNumber md_X12_takesNumber [.ref 11, .int a1] σ (liI Q) := by
  refine Cn.of (k0 := 1) (by decide) rfl ?_
  show Ev (d, n, md_X12_takesNumber, σ, liI Q) M_X12_takesNumber 0 [some (.ref 11), some (.int a1), none] [] σ
  refine e_aload_n dX12_takesNumber_0 rfl rfl ?_
  obtain ⟨Q1, hc2, h⟩ := h
  refine e_callV (M' := M_X12_blanks) (as := []) (rest := []) dX12_takesNumber_1 ml_X12_167 mk_X12_blanks (ob_11 hn) rfl rfl rfl (Nat.le_of_ble_eq_true rfl) (show 0 < d by omega) hc2 (Md_le (b := md_X12_takesNumber) (by decide)) (fun v σ3 hq hf => ?_)
  obtain ⟨rfl, hq⟩ := hq
  replace h := h σ3 hq hf
  refine e_aload_n dX12_takesNumber_4 rfl rfl ?_
  refine e_getI dX12_takesNumber_5 fl_X12_161 (ob_11 hn) rfl ?_
  refine e_istore_n dX12_takesNumber_8 rfl rfl (by decide) ?_
  refine e_aload_n dX12_takesNumber_9 rfl rfl ?_
  refine e_iconst dX12_takesNumber_10 ci_0 ?_
  refine e_putI dX12_takesNumber_11 fl_X12_177 (ob_11 hn) rfl (fpI_12_34 _) (md_c (m := md_X12_takesNumber) (by decide)) ?_
  exact h
theorem S_X12_puts {d n : Nat} {Q : St → Prop} {σ : St} {a1 : Int32} {a2 : Int32} (hn : FIX ≤ n) (h : vp_in (gI σ 11 18) 5000 ∧ vp_in (gI (sI σ 55 (gI σ 11 18).toNatClampNeg a1) 11 18) 5000 ∧ Q (sI (sI (sI σ 55 (gI σ 11 18).toNatClampNeg a1) 56 (gI (sI σ 55 (gI σ 11 18).toNatClampNeg a1) 11 18).toNatClampNeg a2) 11 18 ((gI (sI (sI σ 55 (gI σ 11 18).toNatClampNeg a1) 56 (gI (sI σ 55 (gI σ 11 18).toNatClampNeg a1) 11 18).toNatClampNeg a2) 11 18) + 1))) : Cn d n M_X12_puts md_X12_puts [.ref 11, .int a1, .int a2] σ (liV Q) := by
  refine Cn.of (k0 := 0) (by decide) rfl ?_
  show Ev (d, n, md_X12_puts, σ, liV Q) M_X12_puts 0 [some (.ref 11), some (.int a1), some (.int a2)] [] σ
  refine e_aload_n dX12_puts_0 rfl rfl ?_
  refine e_getR (y := 55) dX12_puts_1 fl_X12_65 (ob_11 hn) rfl rfl ?_
  refine e_aload_n dX12_puts_4 rfl rfl ?_
  refine e_getI dX12_puts_5 fl_X12_192 (ob_11 hn) rfl ?_
  refine e_iload_n dX12_puts_8 rfl rfl ?_
  refine e_iast dX12_puts_9 (ar_55 hn) h.1 (md_r (m := md_X12_puts) (by decide)) ?_
  replace h := h.2
  refine e_aload_n dX12_puts_10 rfl rfl ?_
  refine e_getR (y := 56) dX12_puts_11 fl_X12_68 (ob_11 hn) rfl rfl ?_
  refine e_aload_n dX12_puts_14 rfl rfl ?_
  refine e_getI dX12_puts_15 fl_X12_192 (ob_11 hn) rfl ?_
  refine e_iload_n dX12_puts_18 rfl rfl ?_
  refine e_iast dX12_puts_19 (ar_56 hn) h.1 (md_r (m := md_X12_puts) (by decide)) ?_
  replace h := h.2
  refine e_aload_n dX12_puts_20 rfl rfl ?_
  refine e_dup dX12_puts_21 rfl ?_
  refine e_getI dX12_puts_22 fl_X12_192 (ob_11 hn) rfl ?_
  refine e_iconst dX12_puts_25 ci_1 ?_
  refine e_iadd dX12_puts_26 ?_
  refine e_putI dX12_puts_27 fl_X12_192 (ob_11 hn) rfl (fpI_12_18 _) (md_c (m := md_X12_puts) (by decide)) ?_
  exact e_vret dX12_puts_30 rfl ⟨rfl, h⟩
theorem S_X12_opens {d n : Nat} {Q : Int32 → St → Prop} {σ : St}  (hn : FIX ≤ n) (h : (((gI σ 11 17) ≠ 9 → Q 1 (sI σ 11 17 ((gI σ 11 17) + 1))) ∧ ((gI σ 11 17) = 9 → Q 0 σ))) : Cn d n M_X12_opens md_X12_opens [.ref 11] σ (liI Q) := by
  refine Cn.of (k0 := 0) (by decide) rfl ?_
  show Ev (d, n, md_X12_opens, σ, liI Q) M_X12_opens 0 [some (.ref 11)] [] σ
  refine e_aload_n dX12_opens_0 rfl rfl ?_
  refine e_getI dX12_opens_1 fl_X12_195 (ob_11 hn) rfl ?_
  refine e_bipush dX12_opens_4 cb_9 ?_
  refine e_icmp_ne (tgt := 11) dX12_opens_6 (by decide) (fun c1 => ?_) (fun c1 => ?_)
  · replace h := h.1 c1
    refine e_aload_n dX12_opens_11 rfl rfl ?_
    refine e_dup dX12_opens_12 rfl ?_
    refine e_getI dX12_opens_13 fl_X12_195 (ob_11 hn) rfl ?_
    refine e_iconst dX12_opens_16 ci_1 ?_
    refine e_iadd dX12_opens_17 ?_
    refine e_putI dX12_opens_18 fl_X12_195 (ob_11 hn) rfl (fpI_12_17 _) (md_c (m := md_X12_opens) (by decide)) ?_
    refine e_iconst dX12_opens_21 ci_1 ?_
    exact e_zret dX12_opens_22 rfl (nar_z (Or.inr rfl)) ⟨_, rfl, h⟩
  · replace h := h.2 c1
    refine e_iconst dX12_opens_9 ci_0 ?_
    exact e_zret dX12_opens_10 rfl (nar_z (Or.inl rfl)) ⟨_, rfl, h⟩
abbrev K_X12_product_9 (d n : Nat) (σ0 : St) (Q : Int32 → St → Prop) (σ : St) : Prop := Ev (d, n, md_X12_product, σ0, liI Q) M_X12_product 9 [some (.ref 11), none] [] σ
theorem B_X12_product_9 {d n : Nat} {σ0 : St} {Q : Int32 → St → Prop}  {σ : St}  (hn : FIX ≤ n) (hd : 1 ≤ d) (h : ∃ Q1 : Int32 → St → Prop, Cn (d - 1) n M_X12_takesSign md_X12_takesSign [.ref 11, .int 42] σ (liI Q1) ∧ ∀ (v4 : Int32) (σ3 : St), Q1 v4 σ3 → Fr md_X12_takesSign σ σ3 → ((v4 = 0 → ∃ Q8 : Int32 → St → Prop, Cn (d - 1) n M_X12_takesSign md_X12_takesSign [.ref 11, .int 47] σ3 (liI Q8) ∧ ∀ (v11 : Int32) (σ10 : St), Q8 v11 σ10 → Fr md_X12_takesSign σ3 σ10 → ((v11 = 0 → ((((-1) : Int32) ≠ (-1) → ∃ Q16 : Int32 → St → Prop, Cn (d - 1) n M_X12_atom md_X12_atom [.ref 11] σ10 (liI Q16) ∧ ∀ (v19 : Int32) (σ18 : St), Q16 v19 σ18 → Fr md_X12_atom σ10 σ18 → ((v19 ≠ 0 → ∃ Q23 : St → Prop, Cn (d - 1) n M_X12_puts md_X12_puts [.ref 11, .int (-1), .int 0] σ18 (liV Q23) ∧ ∀ (σ25 : St), Q23 σ25 → Fr md_X12_puts σ18 σ25 → K_X12_product_9 d n σ0 Q σ25) ∧ (v19 = 0 → Q 0 σ18))) ∧ (((-1) : Int32) = (-1) → Q 1 σ10))) ∧ (¬ v11 = 0 → (((6 : Int32) ≠ (-1) → ∃ Q30 : Int32 → St → Prop, Cn (d - 1) n M_X12_atom md_X12_atom [.ref 11] σ10 (liI Q30) ∧ ∀ (v33 : Int32) (σ32 : St), Q30 v33 σ32 → Fr md_X12_atom σ10 σ32 → ((v33 ≠ 0 → ∃ Q37 : St → Prop, Cn (d - 1) n M_X12_puts md_X12_puts [.ref 11, .int 6, .int 0] σ32 (liV Q37) ∧ ∀ (σ39 : St), Q37 σ39 → Fr md_X12_puts σ32 σ39 → K_X12_product_9 d n σ0 Q σ39) ∧ (v33 = 0 → Q 0 σ32))) ∧ ((6 : Int32) = (-1) → Q 1 σ10))))) ∧ (¬ v4 = 0 → (((5 : Int32) ≠ (-1) → ∃ Q44 : Int32 → St → Prop, Cn (d - 1) n M_X12_atom md_X12_atom [.ref 11] σ3 (liI Q44) ∧ ∀ (v47 : Int32) (σ46 : St), Q44 v47 σ46 → Fr md_X12_atom σ3 σ46 → ((v47 ≠ 0 → ∃ Q51 : St → Prop, Cn (d - 1) n M_X12_puts md_X12_puts [.ref 11, .int 5, .int 0] σ46 (liV Q51) ∧ ∀ (σ53 : St), Q51 σ53 → Fr md_X12_puts σ46 σ53 → K_X12_product_9 d n σ0 Q σ53) ∧ (v47 = 0 → Q 0 σ46))) ∧ ((5 : Int32) = (-1) → Q 1 σ3))))) : K_X12_product_9 d n σ0 Q σ := by
  refine e_aload_n dX12_product_9 rfl rfl ?_
  refine e_bipush dX12_product_10 cb_42 ?_
  obtain ⟨Q1, hc2, h⟩ := h
  refine e_callV (M' := M_X12_takesSign) (as := [.int 42]) (rest := []) dX12_product_12 ml_X12_213 mk_X12_takesSign (ob_11 hn) rfl rfl rfl (Nat.le_of_ble_eq_true rfl) (show 0 < d by omega) hc2 (Md_le (b := md_X12_product) (by decide)) (fun v σ3 hq hf => ?_)
  obtain ⟨v4, rfl, hq⟩ := hq
  replace h := h v4 σ3 hq hf
  refine e_if_eq (tgt := 22) dX12_product_15 (by decide) (fun c7 => ?_) (fun c7 => ?_)
  · replace h := h.1 c7
    refine e_aload_n dX12_product_22 rfl rfl ?_
    refine e_bipush dX12_product_23 cb_47 ?_
    obtain ⟨Q8, hc9, h⟩ := h
    refine e_callV (M' := M_X12_takesSign) (as := [.int 47]) (rest := []) dX12_product_25 ml_X12_213 mk_X12_takesSign (ob_11 hn) rfl rfl rfl (Nat.le_of_ble_eq_true rfl) (show 0 < d by omega) hc9 (Md_le (b := md_X12_product) (by decide)) (fun v σ10 hq hf => ?_)
    obtain ⟨v11, rfl, hq⟩ := hq
    replace h := h v11 σ10 hq hf
    refine e_if_eq (tgt := 36) dX12_product_28 (by decide) (fun c14 => ?_) (fun c14 => ?_)
    · replace h := h.1 c14
      refine e_iconst dX12_product_36 ci_m1 ?_
      refine e_istore_n dX12_product_37 rfl rfl (by decide) ?_
      refine e_iload_n dX12_product_38 rfl rfl ?_
      refine e_iconst dX12_product_39 ci_m1 ?_
      refine e_icmp_ne (tgt := 45) dX12_product_40 (by decide) (fun c15 => ?_) (fun c15 => ?_)
      · replace h := h.1 c15
        refine e_aload_n dX12_product_45 rfl rfl ?_
        obtain ⟨Q16, hc17, h⟩ := h
        refine e_callV (M' := M_X12_atom) (as := []) (rest := []) dX12_product_46 ml_X12_226 mk_X12_atom (ob_11 hn) rfl rfl rfl (Nat.le_of_ble_eq_true rfl) (show 0 < d by omega) hc17 (Md_le (b := md_X12_product) (by decide)) (fun v σ18 hq hf => ?_)
        obtain ⟨v19, rfl, hq⟩ := hq
        replace h := h v19 σ18 hq hf
        refine e_if_ne (tgt := 54) dX12_product_49 (by decide) (fun c22 => ?_) (fun c22 => ?_)
        · replace h := h.1 c22
          refine e_aload_n dX12_product_54 rfl rfl ?_
          refine e_iload_n dX12_product_55 rfl rfl ?_
          refine e_iconst dX12_product_56 ci_0 ?_
          obtain ⟨Q23, hc24, h⟩ := h
          refine e_callV (M' := M_X12_puts) (as := [.int (-1), .int 0]) (rest := []) dX12_product_57 ml_X12_202 mk_X12_puts (ob_11 hn) rfl rfl rfl (Nat.le_of_ble_eq_true rfl) (show 0 < d by omega) hc24 (Md_le (b := md_X12_product) (by decide)) (fun v σ25 hq hf => ?_)
          obtain ⟨rfl, hq⟩ := hq
          replace h := h σ25 hq hf
          refine e_goto (tgt := 9) dX12_product_60 (by decide) ?_
          refine e_kill [true, false] ?_
          exact h
        · replace h := h.2 c22
          refine e_iconst dX12_product_52 ci_0 ?_
          exact e_zret dX12_product_53 rfl (nar_z (Or.inl rfl)) ⟨_, rfl, h⟩
      · replace h := h.2 c15
        refine e_iconst dX12_product_43 ci_1 ?_
        exact e_zret dX12_product_44 rfl (nar_z (Or.inr rfl)) ⟨_, rfl, h⟩
    · replace h := h.2 c14
      refine e_bipush dX12_product_31 cb_6 ?_
      refine e_goto (tgt := 37) dX12_product_33 (by decide) ?_
      refine e_istore_n dX12_product_37 rfl rfl (by decide) ?_
      refine e_iload_n dX12_product_38 rfl rfl ?_
      refine e_iconst dX12_product_39 ci_m1 ?_
      refine e_icmp_ne (tgt := 45) dX12_product_40 (by decide) (fun c29 => ?_) (fun c29 => ?_)
      · replace h := h.1 c29
        refine e_aload_n dX12_product_45 rfl rfl ?_
        obtain ⟨Q30, hc31, h⟩ := h
        refine e_callV (M' := M_X12_atom) (as := []) (rest := []) dX12_product_46 ml_X12_226 mk_X12_atom (ob_11 hn) rfl rfl rfl (Nat.le_of_ble_eq_true rfl) (show 0 < d by omega) hc31 (Md_le (b := md_X12_product) (by decide)) (fun v σ32 hq hf => ?_)
        obtain ⟨v33, rfl, hq⟩ := hq
        replace h := h v33 σ32 hq hf
        refine e_if_ne (tgt := 54) dX12_product_49 (by decide) (fun c36 => ?_) (fun c36 => ?_)
        · replace h := h.1 c36
          refine e_aload_n dX12_product_54 rfl rfl ?_
          refine e_iload_n dX12_product_55 rfl rfl ?_
          refine e_iconst dX12_product_56 ci_0 ?_
          obtain ⟨Q37, hc38, h⟩ := h
          refine e_callV (M' := M_X12_puts) (as := [.int 6, .int 0]) (rest := []) dX12_product_57 ml_X12_202 mk_X12_puts (ob_11 hn) rfl rfl rfl (Nat.le_of_ble_eq_true rfl) (show 0 < d by omega) hc38 (Md_le (b := md_X12_product) (by decide)) (fun v σ39 hq hf => ?_)
          obtain ⟨rfl, hq⟩ := hq
          replace h := h σ39 hq hf
          refine e_goto (tgt := 9) dX12_product_60 (by decide) ?_
          refine e_kill [true, false] ?_
          exact h
        · replace h := h.2 c36
          refine e_iconst dX12_product_52 ci_0 ?_
          exact e_zret dX12_product_53 rfl (nar_z (Or.inl rfl)) ⟨_, rfl, h⟩
      · replace h := h.2 c29
        refine e_iconst dX12_product_43 ci_1 ?_
        exact e_zret dX12_product_44 rfl (nar_z (Or.inr rfl)) ⟨_, rfl, h⟩
  · replace h := h.2 c7
    refine e_iconst dX12_product_18 ci_5 ?_
    refine e_goto (tgt := 37) dX12_product_19 (by decide) ?_
    refine e_istore_n dX12_product_37 rfl rfl (by decide) ?_
    refine e_iload_n dX12_product_38 rfl rfl ?_
    refine e_iconst dX12_product_39 ci_m1 ?_
    refine e_icmp_ne (tgt := 45) dX12_product_40 (by decide) (fun c43 => ?_) (fun c43 => ?_)
    · replace h := h.1 c43
      refine e_aload_n dX12_product_45 rfl rfl ?_
      obtain ⟨Q44, hc45, h⟩ := h
      refine e_callV (M' := M_X12_atom) (as := []) (rest := []) dX12_product_46 ml_X12_226 mk_X12_atom (ob_11 hn) rfl rfl rfl (Nat.le_of_ble_eq_true rfl) (show 0 < d by omega) hc45 (Md_le (b := md_X12_product) (by decide)) (fun v σ46 hq hf => ?_)
      obtain ⟨v47, rfl, hq⟩ := hq
      replace h := h v47 σ46 hq hf
      refine e_if_ne (tgt := 54) dX12_product_49 (by decide) (fun c50 => ?_) (fun c50 => ?_)
      · replace h := h.1 c50
        refine e_aload_n dX12_product_54 rfl rfl ?_
        refine e_iload_n dX12_product_55 rfl rfl ?_
        refine e_iconst dX12_product_56 ci_0 ?_
        obtain ⟨Q51, hc52, h⟩ := h
        refine e_callV (M' := M_X12_puts) (as := [.int 5, .int 0]) (rest := []) dX12_product_57 ml_X12_202 mk_X12_puts (ob_11 hn) rfl rfl rfl (Nat.le_of_ble_eq_true rfl) (show 0 < d by omega) hc52 (Md_le (b := md_X12_product) (by decide)) (fun v σ53 hq hf => ?_)
        obtain ⟨rfl, hq⟩ := hq
        replace h := h σ53 hq hf
        refine e_goto (tgt := 9) dX12_product_60 (by decide) ?_
        refine e_kill [true, false] ?_
        exact h
      · replace h := h.2 c50
        refine e_iconst dX12_product_52 ci_0 ?_
        exact e_zret dX12_product_53 rfl (nar_z (Or.inl rfl)) ⟨_, rfl, h⟩
    · replace h := h.2 c43
      refine e_iconst dX12_product_43 ci_1 ?_
      exact e_zret dX12_product_44 rfl (nar_z (Or.inr rfl)) ⟨_, rfl, h⟩
theorem S_X12_product {d n : Nat} {Q : Int32 → St → Prop} {σ : St}  (hn : FIX ≤ n) (hd : 1 ≤ d) (h : ∃ Q1 : Int32 → St → Prop, Cn (d - 1) n M_X12_atom md_X12_atom [.ref 11] σ (liI Q1) ∧ ∀ (v4 : Int32) (σ3 : St), Q1 v4 σ3 → Fr md_X12_atom σ σ3 → ((v4 ≠ 0 → K_X12_product_9 d n σ Q σ3) ∧ (v4 = 0 → Q 0 σ3))) : Cn d n M_X12_product md_X12_product [.ref 11] σ (liI Q) := by
  refine Cn.of (k0 := 1) (by decide) rfl ?_
  show Ev (d, n, md_X12_product, σ, liI Q) M_X12_product 0 [some (.ref 11), none] [] σ
  refine e_aload_n dX12_product_0 rfl rfl ?_
  obtain ⟨Q1, hc2, h⟩ := h
  refine e_callV (M' := M_X12_atom) (as := []) (rest := []) dX12_product_1 ml_X12_226 mk_X12_atom (ob_11 hn) rfl rfl rfl (Nat.le_of_ble_eq_true rfl) (show 0 < d by omega) hc2 (Md_le (b := md_X12_product) (by decide)) (fun v σ3 hq hf => ?_)
  obtain ⟨v4, rfl, hq⟩ := hq
  replace h := h v4 σ3 hq hf
  refine e_if_ne (tgt := 9) dX12_product_4 (by decide) (fun c7 => ?_) (fun c7 => ?_)
  · replace h := h.1 c7
    exact h
  · replace h := h.2 c7
    refine e_iconst dX12_product_7 ci_0 ?_
    exact e_zret dX12_product_8 rfl (nar_z (Or.inl rfl)) ⟨_, rfl, h⟩
abbrev K_X12_ex_9 (d n : Nat) (σ0 : St) (Q : Int32 → St → Prop) (σ : St) : Prop := Ev (d, n, md_X12_ex, σ0, liI Q) M_X12_ex 9 [some (.ref 11), none] [] σ
theorem B_X12_ex_9 {d n : Nat} {σ0 : St} {Q : Int32 → St → Prop}  {σ : St}  (hn : FIX ≤ n) (hd : 1 ≤ d) (h : ∃ Q1 : Int32 → St → Prop, Cn (d - 1) n M_X12_takesSign md_X12_takesSign [.ref 11, .int 43] σ (liI Q1) ∧ ∀ (v4 : Int32) (σ3 : St), Q1 v4 σ3 → Fr md_X12_takesSign σ σ3 → ((v4 = 0 → ∃ Q8 : Int32 → St → Prop, Cn (d - 1) n M_X12_takesSign md_X12_takesSign [.ref 11, .int 45] σ3 (liI Q8) ∧ ∀ (v11 : Int32) (σ10 : St), Q8 v11 σ10 → Fr md_X12_takesSign σ3 σ10 → ((v11 = 0 → ((((-1) : Int32) ≠ (-1) → ∃ Q16 : Int32 → St → Prop, Cn (d - 1) n M_X12_product md_X12_product [.ref 11] σ10 (liI Q16) ∧ ∀ (v19 : Int32) (σ18 : St), Q16 v19 σ18 → Fr md_X12_product σ10 σ18 → ((v19 ≠ 0 → ∃ Q23 : St → Prop, Cn (d - 1) n M_X12_puts md_X12_puts [.ref 11, .int (-1), .int 0] σ18 (liV Q23) ∧ ∀ (σ25 : St), Q23 σ25 → Fr md_X12_puts σ18 σ25 → K_X12_ex_9 d n σ0 Q σ25) ∧ (v19 = 0 → Q 0 σ18))) ∧ (((-1) : Int32) = (-1) → Q 1 σ10))) ∧ (¬ v11 = 0 → (((4 : Int32) ≠ (-1) → ∃ Q30 : Int32 → St → Prop, Cn (d - 1) n M_X12_product md_X12_product [.ref 11] σ10 (liI Q30) ∧ ∀ (v33 : Int32) (σ32 : St), Q30 v33 σ32 → Fr md_X12_product σ10 σ32 → ((v33 ≠ 0 → ∃ Q37 : St → Prop, Cn (d - 1) n M_X12_puts md_X12_puts [.ref 11, .int 4, .int 0] σ32 (liV Q37) ∧ ∀ (σ39 : St), Q37 σ39 → Fr md_X12_puts σ32 σ39 → K_X12_ex_9 d n σ0 Q σ39) ∧ (v33 = 0 → Q 0 σ32))) ∧ ((4 : Int32) = (-1) → Q 1 σ10))))) ∧ (¬ v4 = 0 → (((3 : Int32) ≠ (-1) → ∃ Q44 : Int32 → St → Prop, Cn (d - 1) n M_X12_product md_X12_product [.ref 11] σ3 (liI Q44) ∧ ∀ (v47 : Int32) (σ46 : St), Q44 v47 σ46 → Fr md_X12_product σ3 σ46 → ((v47 ≠ 0 → ∃ Q51 : St → Prop, Cn (d - 1) n M_X12_puts md_X12_puts [.ref 11, .int 3, .int 0] σ46 (liV Q51) ∧ ∀ (σ53 : St), Q51 σ53 → Fr md_X12_puts σ46 σ53 → K_X12_ex_9 d n σ0 Q σ53) ∧ (v47 = 0 → Q 0 σ46))) ∧ ((3 : Int32) = (-1) → Q 1 σ3))))) : K_X12_ex_9 d n σ0 Q σ := by
  refine e_aload_n dX12_ex_9 rfl rfl ?_
  refine e_bipush dX12_ex_10 cb_43 ?_
  obtain ⟨Q1, hc2, h⟩ := h
  refine e_callV (M' := M_X12_takesSign) (as := [.int 43]) (rest := []) dX12_ex_12 ml_X12_213 mk_X12_takesSign (ob_11 hn) rfl rfl rfl (Nat.le_of_ble_eq_true rfl) (show 0 < d by omega) hc2 (Md_le (b := md_X12_ex) (by decide)) (fun v σ3 hq hf => ?_)
  obtain ⟨v4, rfl, hq⟩ := hq
  replace h := h v4 σ3 hq hf
  refine e_if_eq (tgt := 22) dX12_ex_15 (by decide) (fun c7 => ?_) (fun c7 => ?_)
  · replace h := h.1 c7
    refine e_aload_n dX12_ex_22 rfl rfl ?_
    refine e_bipush dX12_ex_23 cb_45 ?_
    obtain ⟨Q8, hc9, h⟩ := h
    refine e_callV (M' := M_X12_takesSign) (as := [.int 45]) (rest := []) dX12_ex_25 ml_X12_213 mk_X12_takesSign (ob_11 hn) rfl rfl rfl (Nat.le_of_ble_eq_true rfl) (show 0 < d by omega) hc9 (Md_le (b := md_X12_ex) (by decide)) (fun v σ10 hq hf => ?_)
    obtain ⟨v11, rfl, hq⟩ := hq
    replace h := h v11 σ10 hq hf
    refine e_if_eq (tgt := 35) dX12_ex_28 (by decide) (fun c14 => ?_) (fun c14 => ?_)
    · replace h := h.1 c14
      refine e_iconst dX12_ex_35 ci_m1 ?_
      refine e_istore_n dX12_ex_36 rfl rfl (by decide) ?_
      refine e_iload_n dX12_ex_37 rfl rfl ?_
      refine e_iconst dX12_ex_38 ci_m1 ?_
      refine e_icmp_ne (tgt := 44) dX12_ex_39 (by decide) (fun c15 => ?_) (fun c15 => ?_)
      · replace h := h.1 c15
        refine e_aload_n dX12_ex_44 rfl rfl ?_
        obtain ⟨Q16, hc17, h⟩ := h
        refine e_callV (M' := M_X12_product) (as := []) (rest := []) dX12_ex_45 ml_X12_229 mk_X12_product (ob_11 hn) rfl rfl rfl (Nat.le_of_ble_eq_true rfl) (show 0 < d by omega) hc17 (Md_le (b := md_X12_ex) (by decide)) (fun v σ18 hq hf => ?_)
        obtain ⟨v19, rfl, hq⟩ := hq
        replace h := h v19 σ18 hq hf
        refine e_if_ne (tgt := 53) dX12_ex_48 (by decide) (fun c22 => ?_) (fun c22 => ?_)
        · replace h := h.1 c22
          refine e_aload_n dX12_ex_53 rfl rfl ?_
          refine e_iload_n dX12_ex_54 rfl rfl ?_
          refine e_iconst dX12_ex_55 ci_0 ?_
          obtain ⟨Q23, hc24, h⟩ := h
          refine e_callV (M' := M_X12_puts) (as := [.int (-1), .int 0]) (rest := []) dX12_ex_56 ml_X12_202 mk_X12_puts (ob_11 hn) rfl rfl rfl (Nat.le_of_ble_eq_true rfl) (show 0 < d by omega) hc24 (Md_le (b := md_X12_ex) (by decide)) (fun v σ25 hq hf => ?_)
          obtain ⟨rfl, hq⟩ := hq
          replace h := h σ25 hq hf
          refine e_goto (tgt := 9) dX12_ex_59 (by decide) ?_
          refine e_kill [true, false] ?_
          exact h
        · replace h := h.2 c22
          refine e_iconst dX12_ex_51 ci_0 ?_
          exact e_zret dX12_ex_52 rfl (nar_z (Or.inl rfl)) ⟨_, rfl, h⟩
      · replace h := h.2 c15
        refine e_iconst dX12_ex_42 ci_1 ?_
        exact e_zret dX12_ex_43 rfl (nar_z (Or.inr rfl)) ⟨_, rfl, h⟩
    · replace h := h.2 c14
      refine e_iconst dX12_ex_31 ci_4 ?_
      refine e_goto (tgt := 36) dX12_ex_32 (by decide) ?_
      refine e_istore_n dX12_ex_36 rfl rfl (by decide) ?_
      refine e_iload_n dX12_ex_37 rfl rfl ?_
      refine e_iconst dX12_ex_38 ci_m1 ?_
      refine e_icmp_ne (tgt := 44) dX12_ex_39 (by decide) (fun c29 => ?_) (fun c29 => ?_)
      · replace h := h.1 c29
        refine e_aload_n dX12_ex_44 rfl rfl ?_
        obtain ⟨Q30, hc31, h⟩ := h
        refine e_callV (M' := M_X12_product) (as := []) (rest := []) dX12_ex_45 ml_X12_229 mk_X12_product (ob_11 hn) rfl rfl rfl (Nat.le_of_ble_eq_true rfl) (show 0 < d by omega) hc31 (Md_le (b := md_X12_ex) (by decide)) (fun v σ32 hq hf => ?_)
        obtain ⟨v33, rfl, hq⟩ := hq
        replace h := h v33 σ32 hq hf
        refine e_if_ne (tgt := 53) dX12_ex_48 (by decide) (fun c36 => ?_) (fun c36 => ?_)
        · replace h := h.1 c36
          refine e_aload_n dX12_ex_53 rfl rfl ?_
          refine e_iload_n dX12_ex_54 rfl rfl ?_
          refine e_iconst dX12_ex_55 ci_0 ?_
          obtain ⟨Q37, hc38, h⟩ := h
          refine e_callV (M' := M_X12_puts) (as := [.int 4, .int 0]) (rest := []) dX12_ex_56 ml_X12_202 mk_X12_puts (ob_11 hn) rfl rfl rfl (Nat.le_of_ble_eq_true rfl) (show 0 < d by omega) hc38 (Md_le (b := md_X12_ex) (by decide)) (fun v σ39 hq hf => ?_)
          obtain ⟨rfl, hq⟩ := hq
          replace h := h σ39 hq hf
          refine e_goto (tgt := 9) dX12_ex_59 (by decide) ?_
          refine e_kill [true, false] ?_
          exact h
        · replace h := h.2 c36
          refine e_iconst dX12_ex_51 ci_0 ?_
          exact e_zret dX12_ex_52 rfl (nar_z (Or.inl rfl)) ⟨_, rfl, h⟩
      · replace h := h.2 c29
        refine e_iconst dX12_ex_42 ci_1 ?_
        exact e_zret dX12_ex_43 rfl (nar_z (Or.inr rfl)) ⟨_, rfl, h⟩
  · replace h := h.2 c7
    refine e_iconst dX12_ex_18 ci_3 ?_
    refine e_goto (tgt := 36) dX12_ex_19 (by decide) ?_
    refine e_istore_n dX12_ex_36 rfl rfl (by decide) ?_
    refine e_iload_n dX12_ex_37 rfl rfl ?_
    refine e_iconst dX12_ex_38 ci_m1 ?_
    refine e_icmp_ne (tgt := 44) dX12_ex_39 (by decide) (fun c43 => ?_) (fun c43 => ?_)
    · replace h := h.1 c43
      refine e_aload_n dX12_ex_44 rfl rfl ?_
      obtain ⟨Q44, hc45, h⟩ := h
      refine e_callV (M' := M_X12_product) (as := []) (rest := []) dX12_ex_45 ml_X12_229 mk_X12_product (ob_11 hn) rfl rfl rfl (Nat.le_of_ble_eq_true rfl) (show 0 < d by omega) hc45 (Md_le (b := md_X12_ex) (by decide)) (fun v σ46 hq hf => ?_)
      obtain ⟨v47, rfl, hq⟩ := hq
      replace h := h v47 σ46 hq hf
      refine e_if_ne (tgt := 53) dX12_ex_48 (by decide) (fun c50 => ?_) (fun c50 => ?_)
      · replace h := h.1 c50
        refine e_aload_n dX12_ex_53 rfl rfl ?_
        refine e_iload_n dX12_ex_54 rfl rfl ?_
        refine e_iconst dX12_ex_55 ci_0 ?_
        obtain ⟨Q51, hc52, h⟩ := h
        refine e_callV (M' := M_X12_puts) (as := [.int 3, .int 0]) (rest := []) dX12_ex_56 ml_X12_202 mk_X12_puts (ob_11 hn) rfl rfl rfl (Nat.le_of_ble_eq_true rfl) (show 0 < d by omega) hc52 (Md_le (b := md_X12_ex) (by decide)) (fun v σ53 hq hf => ?_)
        obtain ⟨rfl, hq⟩ := hq
        replace h := h σ53 hq hf
        refine e_goto (tgt := 9) dX12_ex_59 (by decide) ?_
        refine e_kill [true, false] ?_
        exact h
      · replace h := h.2 c50
        refine e_iconst dX12_ex_51 ci_0 ?_
        exact e_zret dX12_ex_52 rfl (nar_z (Or.inl rfl)) ⟨_, rfl, h⟩
    · replace h := h.2 c43
      refine e_iconst dX12_ex_42 ci_1 ?_
      exact e_zret dX12_ex_43 rfl (nar_z (Or.inr rfl)) ⟨_, rfl, h⟩
theorem S_X12_ex {d n : Nat} {Q : Int32 → St → Prop} {σ : St}  (hn : FIX ≤ n) (hd : 1 ≤ d) (h : ∃ Q1 : Int32 → St → Prop, Cn (d - 1) n M_X12_product md_X12_product [.ref 11] σ (liI Q1) ∧ ∀ (v4 : Int32) (σ3 : St), Q1 v4 σ3 → Fr md_X12_product σ σ3 → ((v4 ≠ 0 → K_X12_ex_9 d n σ Q σ3) ∧ (v4 = 0 → Q 0 σ3))) : Cn d n M_X12_ex md_X12_ex [.ref 11] σ (liI Q) := by
  refine Cn.of (k0 := 1) (by decide) rfl ?_
  show Ev (d, n, md_X12_ex, σ, liI Q) M_X12_ex 0 [some (.ref 11), none] [] σ
  refine e_aload_n dX12_ex_0 rfl rfl ?_
  obtain ⟨Q1, hc2, h⟩ := h
  refine e_callV (M' := M_X12_product) (as := []) (rest := []) dX12_ex_1 ml_X12_229 mk_X12_product (ob_11 hn) rfl rfl rfl (Nat.le_of_ble_eq_true rfl) (show 0 < d by omega) hc2 (Md_le (b := md_X12_ex) (by decide)) (fun v σ3 hq hf => ?_)
  obtain ⟨v4, rfl, hq⟩ := hq
  replace h := h v4 σ3 hq hf
  refine e_if_ne (tgt := 9) dX12_ex_4 (by decide) (fun c7 => ?_) (fun c7 => ?_)
  · replace h := h.1 c7
    exact h
  · replace h := h.2 c7
    refine e_iconst dX12_ex_7 ci_0 ?_
    exact e_zret dX12_ex_8 rfl (nar_z (Or.inl rfl)) ⟨_, rfl, h⟩
theorem S_X12_atom {d n : Nat} {Q : Int32 → St → Prop} {σ : St}  (hn : FIX ≤ n) (hd : 1 ≤ d) (h : ∃ Q1 : Int32 → St → Prop, Cn (d - 1) n M_X12_takesNumber md_X12_takesNumber [.ref 11, .int 99999] σ (liI Q1) ∧ ∀ (v4 : Int32) (σ3 : St), Q1 v4 σ3 → Fr md_X12_takesNumber σ σ3 → ((v4 = 0 → ∃ Q8 : St → Prop, Cn (d - 1) n M_X12_blanks md_X12_blanks [.ref 11] σ3 (liV Q8) ∧ ∀ (σ10 : St), Q8 σ10 → Fr md_X12_blanks σ3 σ10 → (((gI σ10 11 15) ≤ (gI σ10 11 16) → ∃ Q15 : Int32 → St → Prop, Cn (d - 1) n M_X12_takes md_X12_takes [.ref 11, .long 6840691] σ10 (liI Q15) ∧ ∀ (v18 : Int32) (σ17 : St), Q15 v18 σ17 → Fr md_X12_takes σ10 σ17 → ((v18 = 0 → ∃ Q22 : Int64 → St → Prop, Cn (d - 1) n M_X12_word md_X12_word [.ref 11] σ17 (liL Q22) ∧ ∀ (v25 : Int64) (σ24 : St), Q22 v25 σ24 → Fr md_X12_word σ17 σ24 → (((fn_X12_asked v25) ≠ (-1) → ∃ Q29 : St → Prop, Cn (d - 1) n M_X12_puts md_X12_puts [.ref 11, .int 1, .int (fn_X12_asked v25)] (sI σ24 11 16 (gI σ24 11 33)) (liV Q29) ∧ ∀ (σ31 : St), Q29 σ31 → Fr md_X12_puts (sI σ24 11 16 (gI σ24 11 33)) σ31 → Q 1 σ31) ∧ ((fn_X12_asked v25) = (-1) → Q 0 σ24))) ∧ (¬ v18 = 0 → ∃ Q35 : Int32 → St → Prop, Cn (d - 1) n M_X12_takesNumber md_X12_takesNumber [.ref 11, .int 9] σ17 (liI Q35) ∧ ∀ (v38 : Int32) (σ37 : St), Q35 v38 σ37 → Fr md_X12_takesNumber σ17 σ37 → ((v38 ≠ 0 → ∃ Q42 : St → Prop, Cn (d - 1) n M_X12_puts md_X12_puts [.ref 11, .int 2, .int (gI σ37 11 34)] σ37 (liV Q42) ∧ ∀ (σ44 : St), Q42 σ44 → Fr md_X12_puts σ37 σ44 → Q 1 σ44) ∧ (v38 = 0 → Q 0 σ37))))) ∧ (¬ (gI σ10 11 15) ≤ (gI σ10 11 16) → vp_in (gI σ10 11 16) 400 ∧ (((gI σ10 60 (gI σ10 11 16).toNatClampNeg) ≠ 40 → ∃ Q49 : Int32 → St → Prop, Cn (d - 1) n M_X12_takes md_X12_takes [.ref 11, .long 6840691] σ10 (liI Q49) ∧ ∀ (v52 : Int32) (σ51 : St), Q49 v52 σ51 → Fr md_X12_takes σ10 σ51 → ((v52 = 0 → ∃ Q56 : Int64 → St → Prop, Cn (d - 1) n M_X12_word md_X12_word [.ref 11] σ51 (liL Q56) ∧ ∀ (v59 : Int64) (σ58 : St), Q56 v59 σ58 → Fr md_X12_word σ51 σ58 → (((fn_X12_asked v59) ≠ (-1) → ∃ Q63 : St → Prop, Cn (d - 1) n M_X12_puts md_X12_puts [.ref 11, .int 1, .int (fn_X12_asked v59)] (sI σ58 11 16 (gI σ58 11 33)) (liV Q63) ∧ ∀ (σ65 : St), Q63 σ65 → Fr md_X12_puts (sI σ58 11 16 (gI σ58 11 33)) σ65 → Q 1 σ65) ∧ ((fn_X12_asked v59) = (-1) → Q 0 σ58))) ∧ (¬ v52 = 0 → ∃ Q69 : Int32 → St → Prop, Cn (d - 1) n M_X12_takesNumber md_X12_takesNumber [.ref 11, .int 9] σ51 (liI Q69) ∧ ∀ (v72 : Int32) (σ71 : St), Q69 v72 σ71 → Fr md_X12_takesNumber σ51 σ71 → ((v72 ≠ 0 → ∃ Q76 : St → Prop, Cn (d - 1) n M_X12_puts md_X12_puts [.ref 11, .int 2, .int (gI σ71 11 34)] σ71 (liV Q76) ∧ ∀ (σ78 : St), Q76 σ78 → Fr md_X12_puts σ71 σ78 → Q 1 σ78) ∧ (v72 = 0 → Q 0 σ71))))) ∧ ((gI σ10 60 (gI σ10 11 16).toNatClampNeg) = 40 → ∃ Q82 : Int32 → St → Prop, Cn (d - 1) n M_X12_opens md_X12_opens [.ref 11] σ10 (liI Q82) ∧ ∀ (v85 : Int32) (σ84 : St), Q82 v85 σ84 → Fr md_X12_opens σ10 σ84 → ((v85 ≠ 0 → ∃ Q89 : Int32 → St → Prop, Cn (d - 1) n M_X12_ex md_X12_ex [.ref 11] (sI σ84 11 16 ((gI σ84 11 16) + 1)) (liI Q89) ∧ ∀ (v92 : Int32) (σ91 : St), Q89 v92 σ91 → Fr md_X12_ex (sI σ84 11 16 ((gI σ84 11 16) + 1)) σ91 → ((v92 = 0 → Q 0 σ91) ∧ (¬ v92 = 0 → ∃ Q96 : Int32 → St → Prop, Cn (d - 1) n M_X12_takesSign md_X12_takesSign [.ref 11, .int 41] σ91 (liI Q96) ∧ ∀ (v99 : Int32) (σ98 : St), Q96 v99 σ98 → Fr md_X12_takesSign σ91 σ98 → ((v99 ≠ 0 → Q 1 (sI σ98 11 17 ((gI σ98 11 17) - 1))) ∧ (v99 = 0 → Q 0 σ98))))) ∧ (v85 = 0 → Q 0 σ84))))))) ∧ (¬ v4 = 0 → ∃ Q103 : St → Prop, Cn (d - 1) n M_X12_puts md_X12_puts [.ref 11, .int 0, .int (gI σ3 11 34)] σ3 (liV Q103) ∧ ∀ (σ105 : St), Q103 σ105 → Fr md_X12_puts σ3 σ105 → Q 1 σ105))) : Cn d n M_X12_atom md_X12_atom [.ref 11] σ (liI Q) := by
  refine Cn.of (k0 := 1) (by decide) rfl ?_
  show Ev (d, n, md_X12_atom, σ, liI Q) M_X12_atom 0 [some (.ref 11), none] [] σ
  refine e_aload_n dX12_atom_0 rfl rfl ?_
  refine e_ldc dX12_atom_1 ck_X12_198 ?_
  obtain ⟨Q1, hc2, h⟩ := h
  refine e_callV (M' := M_X12_takesNumber) (as := [.int 99999]) (rest := []) dX12_atom_3 ml_X12_199 mk_X12_takesNumber (ob_11 hn) rfl rfl rfl (Nat.le_of_ble_eq_true rfl) (show 0 < d by omega) hc2 (Md_le (b := md_X12_atom) (by decide)) (fun v σ3 hq hf => ?_)
  obtain ⟨v4, rfl, hq⟩ := hq
  replace h := h v4 σ3 hq hf
  refine e_if_eq (tgt := 20) dX12_atom_6 (by decide) (fun c7 => ?_) (fun c7 => ?_)
  · replace h := h.1 c7
    refine e_aload_n dX12_atom_20 rfl rfl ?_
    obtain ⟨Q8, hc9, h⟩ := h
    refine e_callV (M' := M_X12_blanks) (as := []) (rest := []) dX12_atom_21 ml_X12_167 mk_X12_blanks (ob_11 hn) rfl rfl rfl (Nat.le_of_ble_eq_true rfl) (show 0 < d by omega) hc9 (Md_le (b := md_X12_atom) (by decide)) (fun v σ10 hq hf => ?_)
    obtain ⟨rfl, hq⟩ := hq
    replace h := h σ10 hq hf
    refine e_aload_n dX12_atom_24 rfl rfl ?_
    refine e_getI dX12_atom_25 fl_X12_161 (ob_11 hn) rfl ?_
    refine e_aload_n dX12_atom_28 rfl rfl ?_
    refine e_getI dX12_atom_29 fl_X12_164 (ob_11 hn) rfl ?_
    refine e_icmp_ge (tgt := 98) dX12_atom_32 (by decide) (fun c14 => ?_) (fun c14 => ?_)
    · replace h := h.1 c14
      refine e_aload_n dX12_atom_98 rfl rfl ?_
      refine e_ldc2 dX12_atom_99 ck_X12_216 ?_
      obtain ⟨Q15, hc16, h⟩ := h
      refine e_callV (M' := M_X12_takes) (as := [.long 6840691]) (rest := []) dX12_atom_102 ml_X12_218 mk_X12_takes (ob_11 hn) rfl rfl rfl (Nat.le_of_ble_eq_true rfl) (show 0 < d by omega) hc16 (Md_le (b := md_X12_atom) (by decide)) (fun v σ17 hq hf => ?_)
      obtain ⟨v18, rfl, hq⟩ := hq
      replace h := h v18 σ17 hq hf
      refine e_if_eq (tgt := 130) dX12_atom_105 (by decide) (fun c21 => ?_) (fun c21 => ?_)
      · replace h := h.1 c21
        refine e_aload_n dX12_atom_130 rfl rfl ?_
        obtain ⟨Q22, hc23, h⟩ := h
        refine e_callV (M' := M_X12_word) (as := []) (rest := []) dX12_atom_131 ml_X12_173 mk_X12_word (ob_11 hn) rfl rfl rfl (Nat.le_of_ble_eq_true rfl) (show 0 < d by omega) hc23 (Md_le (b := md_X12_atom) (by decide)) (fun v σ24 hq hf => ?_)
        obtain ⟨v25, rfl, hq⟩ := hq
        replace h := h v25 σ24 hq hf
        refine e_callS (M' := M_X12_asked) (as := [.long v25]) (rest := []) dX12_atom_134 ml_X12_222 mk_X12_asked rfl (Nat.le_of_ble_eq_true rfl) (show 0 < d by omega) (sp_X12_asked) Md_nil (fun v σv hq hf => ?_)
        obtain ⟨v, rfl, rfl, rfl⟩ := hq
        refine e_istore_n dX12_atom_137 rfl rfl (by decide) ?_
        refine e_iload_n dX12_atom_138 rfl rfl ?_
        refine e_iconst dX12_atom_139 ci_m1 ?_
        refine e_icmp_ne (tgt := 145) dX12_atom_140 (by decide) (fun c28 => ?_) (fun c28 => ?_)
        · replace h := h.1 c28
          refine e_aload_n dX12_atom_145 rfl rfl ?_
          refine e_aload_n dX12_atom_146 rfl rfl ?_
          refine e_getI dX12_atom_147 fl_X12_170 (ob_11 hn) rfl ?_
          refine e_putI dX12_atom_150 fl_X12_161 (ob_11 hn) rfl (fpI_12_16 _) (md_c (m := md_X12_atom) (by decide)) ?_
          refine e_aload_n dX12_atom_153 rfl rfl ?_
          refine e_iconst dX12_atom_154 ci_1 ?_
          refine e_iload_n dX12_atom_155 rfl rfl ?_
          obtain ⟨Q29, hc30, h⟩ := h
          refine e_callV (M' := M_X12_puts) (as := [.int 1, .int (fn_X12_asked v25)]) (rest := []) dX12_atom_156 ml_X12_202 mk_X12_puts (ob_11 hn) rfl rfl rfl (Nat.le_of_ble_eq_true rfl) (show 0 < d by omega) hc30 (Md_le (b := md_X12_atom) (by decide)) (fun v σ31 hq hf => ?_)
          obtain ⟨rfl, hq⟩ := hq
          replace h := h σ31 hq hf
          refine e_iconst dX12_atom_159 ci_1 ?_
          exact e_zret dX12_atom_160 rfl (nar_z (Or.inr rfl)) ⟨_, rfl, h⟩
        · replace h := h.2 c28
          refine e_iconst dX12_atom_143 ci_0 ?_
          exact e_zret dX12_atom_144 rfl (nar_z (Or.inl rfl)) ⟨_, rfl, h⟩
      · replace h := h.2 c21
        refine e_aload_n dX12_atom_108 rfl rfl ?_
        refine e_bipush dX12_atom_109 cb_9 ?_
        obtain ⟨Q35, hc36, h⟩ := h
        refine e_callV (M' := M_X12_takesNumber) (as := [.int 9]) (rest := []) dX12_atom_111 ml_X12_199 mk_X12_takesNumber (ob_11 hn) rfl rfl rfl (Nat.le_of_ble_eq_true rfl) (show 0 < d by omega) hc36 (Md_le (b := md_X12_atom) (by decide)) (fun v σ37 hq hf => ?_)
        obtain ⟨v38, rfl, hq⟩ := hq
        replace h := h v38 σ37 hq hf
        refine e_if_ne (tgt := 119) dX12_atom_114 (by decide) (fun c41 => ?_) (fun c41 => ?_)
        · replace h := h.1 c41
          refine e_aload_n dX12_atom_119 rfl rfl ?_
          refine e_iconst dX12_atom_120 ci_2 ?_
          refine e_aload_n dX12_atom_121 rfl rfl ?_
          refine e_getI dX12_atom_122 fl_X12_177 (ob_11 hn) rfl ?_
          obtain ⟨Q42, hc43, h⟩ := h
          refine e_callV (M' := M_X12_puts) (as := [.int 2, .int (gI σ37 11 34)]) (rest := []) dX12_atom_125 ml_X12_202 mk_X12_puts (ob_11 hn) rfl rfl rfl (Nat.le_of_ble_eq_true rfl) (show 0 < d by omega) hc43 (Md_le (b := md_X12_atom) (by decide)) (fun v σ44 hq hf => ?_)
          obtain ⟨rfl, hq⟩ := hq
          replace h := h σ44 hq hf
          refine e_iconst dX12_atom_128 ci_1 ?_
          exact e_zret dX12_atom_129 rfl (nar_z (Or.inr rfl)) ⟨_, rfl, h⟩
        · replace h := h.2 c41
          refine e_iconst dX12_atom_117 ci_0 ?_
          exact e_zret dX12_atom_118 rfl (nar_z (Or.inl rfl)) ⟨_, rfl, h⟩
    · replace h := h.2 c14
      refine e_aload_n dX12_atom_35 rfl rfl ?_
      refine e_getR (y := 60) dX12_atom_36 fl_X12_82 (ob_11 hn) rfl rfl ?_
      refine e_aload_n dX12_atom_39 rfl rfl ?_
      refine e_getI dX12_atom_40 fl_X12_161 (ob_11 hn) rfl ?_
      refine e_bald dX12_atom_43 (ar_60 hn) h.1 ?_
      replace h := h.2
      refine e_bipush dX12_atom_44 cb_40 ?_
      refine e_icmp_ne (tgt := 98) dX12_atom_46 (by decide) (fun c48 => ?_) (fun c48 => ?_)
      · replace h := h.1 c48
        refine e_aload_n dX12_atom_98 rfl rfl ?_
        refine e_ldc2 dX12_atom_99 ck_X12_216 ?_
        obtain ⟨Q49, hc50, h⟩ := h
        refine e_callV (M' := M_X12_takes) (as := [.long 6840691]) (rest := []) dX12_atom_102 ml_X12_218 mk_X12_takes (ob_11 hn) rfl rfl rfl (Nat.le_of_ble_eq_true rfl) (show 0 < d by omega) hc50 (Md_le (b := md_X12_atom) (by decide)) (fun v σ51 hq hf => ?_)
        obtain ⟨v52, rfl, hq⟩ := hq
        replace h := h v52 σ51 hq hf
        refine e_if_eq (tgt := 130) dX12_atom_105 (by decide) (fun c55 => ?_) (fun c55 => ?_)
        · replace h := h.1 c55
          refine e_aload_n dX12_atom_130 rfl rfl ?_
          obtain ⟨Q56, hc57, h⟩ := h
          refine e_callV (M' := M_X12_word) (as := []) (rest := []) dX12_atom_131 ml_X12_173 mk_X12_word (ob_11 hn) rfl rfl rfl (Nat.le_of_ble_eq_true rfl) (show 0 < d by omega) hc57 (Md_le (b := md_X12_atom) (by decide)) (fun v σ58 hq hf => ?_)
          obtain ⟨v59, rfl, hq⟩ := hq
          replace h := h v59 σ58 hq hf
          refine e_callS (M' := M_X12_asked) (as := [.long v59]) (rest := []) dX12_atom_134 ml_X12_222 mk_X12_asked rfl (Nat.le_of_ble_eq_true rfl) (show 0 < d by omega) (sp_X12_asked) Md_nil (fun v σv hq hf => ?_)
          obtain ⟨v, rfl, rfl, rfl⟩ := hq
          refine e_istore_n dX12_atom_137 rfl rfl (by decide) ?_
          refine e_iload_n dX12_atom_138 rfl rfl ?_
          refine e_iconst dX12_atom_139 ci_m1 ?_
          refine e_icmp_ne (tgt := 145) dX12_atom_140 (by decide) (fun c62 => ?_) (fun c62 => ?_)
          · replace h := h.1 c62
            refine e_aload_n dX12_atom_145 rfl rfl ?_
            refine e_aload_n dX12_atom_146 rfl rfl ?_
            refine e_getI dX12_atom_147 fl_X12_170 (ob_11 hn) rfl ?_
            refine e_putI dX12_atom_150 fl_X12_161 (ob_11 hn) rfl (fpI_12_16 _) (md_c (m := md_X12_atom) (by decide)) ?_
            refine e_aload_n dX12_atom_153 rfl rfl ?_
            refine e_iconst dX12_atom_154 ci_1 ?_
            refine e_iload_n dX12_atom_155 rfl rfl ?_
            obtain ⟨Q63, hc64, h⟩ := h
            refine e_callV (M' := M_X12_puts) (as := [.int 1, .int (fn_X12_asked v59)]) (rest := []) dX12_atom_156 ml_X12_202 mk_X12_puts (ob_11 hn) rfl rfl rfl (Nat.le_of_ble_eq_true rfl) (show 0 < d by omega) hc64 (Md_le (b := md_X12_atom) (by decide)) (fun v σ65 hq hf => ?_)
            obtain ⟨rfl, hq⟩ := hq
            replace h := h σ65 hq hf
            refine e_iconst dX12_atom_159 ci_1 ?_
            exact e_zret dX12_atom_160 rfl (nar_z (Or.inr rfl)) ⟨_, rfl, h⟩
          · replace h := h.2 c62
            refine e_iconst dX12_atom_143 ci_0 ?_
            exact e_zret dX12_atom_144 rfl (nar_z (Or.inl rfl)) ⟨_, rfl, h⟩
        · replace h := h.2 c55
          refine e_aload_n dX12_atom_108 rfl rfl ?_
          refine e_bipush dX12_atom_109 cb_9 ?_
          obtain ⟨Q69, hc70, h⟩ := h
          refine e_callV (M' := M_X12_takesNumber) (as := [.int 9]) (rest := []) dX12_atom_111 ml_X12_199 mk_X12_takesNumber (ob_11 hn) rfl rfl rfl (Nat.le_of_ble_eq_true rfl) (show 0 < d by omega) hc70 (Md_le (b := md_X12_atom) (by decide)) (fun v σ71 hq hf => ?_)
          obtain ⟨v72, rfl, hq⟩ := hq
          replace h := h v72 σ71 hq hf
          refine e_if_ne (tgt := 119) dX12_atom_114 (by decide) (fun c75 => ?_) (fun c75 => ?_)
          · replace h := h.1 c75
            refine e_aload_n dX12_atom_119 rfl rfl ?_
            refine e_iconst dX12_atom_120 ci_2 ?_
            refine e_aload_n dX12_atom_121 rfl rfl ?_
            refine e_getI dX12_atom_122 fl_X12_177 (ob_11 hn) rfl ?_
            obtain ⟨Q76, hc77, h⟩ := h
            refine e_callV (M' := M_X12_puts) (as := [.int 2, .int (gI σ71 11 34)]) (rest := []) dX12_atom_125 ml_X12_202 mk_X12_puts (ob_11 hn) rfl rfl rfl (Nat.le_of_ble_eq_true rfl) (show 0 < d by omega) hc77 (Md_le (b := md_X12_atom) (by decide)) (fun v σ78 hq hf => ?_)
            obtain ⟨rfl, hq⟩ := hq
            replace h := h σ78 hq hf
            refine e_iconst dX12_atom_128 ci_1 ?_
            exact e_zret dX12_atom_129 rfl (nar_z (Or.inr rfl)) ⟨_, rfl, h⟩
          · replace h := h.2 c75
            refine e_iconst dX12_atom_117 ci_0 ?_
            exact e_zret dX12_atom_118 rfl (nar_z (Or.inl rfl)) ⟨_, rfl, h⟩
      · replace h := h.2 c48
        refine e_aload_n dX12_atom_49 rfl rfl ?_
        obtain ⟨Q82, hc83, h⟩ := h
        refine e_callV (M' := M_X12_opens) (as := []) (rest := []) dX12_atom_50 ml_X12_206 mk_X12_opens (ob_11 hn) rfl rfl rfl (Nat.le_of_ble_eq_true rfl) (show 0 < d by omega) hc83 (Md_le (b := md_X12_atom) (by decide)) (fun v σ84 hq hf => ?_)
        obtain ⟨v85, rfl, hq⟩ := hq
        replace h := h v85 σ84 hq hf
        refine e_if_ne (tgt := 58) dX12_atom_53 (by decide) (fun c88 => ?_) (fun c88 => ?_)
        · replace h := h.1 c88
          refine e_aload_n dX12_atom_58 rfl rfl ?_
          refine e_dup dX12_atom_59 rfl ?_
          refine e_getI dX12_atom_60 fl_X12_161 (ob_11 hn) rfl ?_
          refine e_iconst dX12_atom_63 ci_1 ?_
          refine e_iadd dX12_atom_64 ?_
          refine e_putI dX12_atom_65 fl_X12_161 (ob_11 hn) rfl (fpI_12_16 _) (md_c (m := md_X12_atom) (by decide)) ?_
          refine e_aload_n dX12_atom_68 rfl rfl ?_
          obtain ⟨Q89, hc90, h⟩ := h
          refine e_callV (M' := M_X12_ex) (as := []) (rest := []) dX12_atom_69 ml_X12_210 mk_X12_ex (ob_11 hn) rfl rfl rfl (Nat.le_of_ble_eq_true rfl) (show 0 < d by omega) hc90 (Md_le (b := md_X12_atom) (by decide)) (fun v σ91 hq hf => ?_)
          obtain ⟨v92, rfl, hq⟩ := hq
          replace h := h v92 σ91 hq hf
          refine e_if_eq (tgt := 84) dX12_atom_72 (by decide) (fun c95 => ?_) (fun c95 => ?_)
          · replace h := h.1 c95
            refine e_iconst dX12_atom_84 ci_0 ?_
            exact e_zret dX12_atom_85 rfl (nar_z (Or.inl rfl)) ⟨_, rfl, h⟩
          · replace h := h.2 c95
            refine e_aload_n dX12_atom_75 rfl rfl ?_
            refine e_bipush dX12_atom_76 cb_41 ?_
            obtain ⟨Q96, hc97, h⟩ := h
            refine e_callV (M' := M_X12_takesSign) (as := [.int 41]) (rest := []) dX12_atom_78 ml_X12_213 mk_X12_takesSign (ob_11 hn) rfl rfl rfl (Nat.le_of_ble_eq_true rfl) (show 0 < d by omega) hc97 (Md_le (b := md_X12_atom) (by decide)) (fun v σ98 hq hf => ?_)
            obtain ⟨v99, rfl, hq⟩ := hq
            replace h := h v99 σ98 hq hf
            refine e_if_ne (tgt := 86) dX12_atom_81 (by decide) (fun c102 => ?_) (fun c102 => ?_)
            · replace h := h.1 c102
              refine e_aload_n dX12_atom_86 rfl rfl ?_
              refine e_dup dX12_atom_87 rfl ?_
              refine e_getI dX12_atom_88 fl_X12_195 (ob_11 hn) rfl ?_
              refine e_iconst dX12_atom_91 ci_1 ?_
              refine e_isub dX12_atom_92 ?_
              refine e_putI dX12_atom_93 fl_X12_195 (ob_11 hn) rfl (fpI_12_17 _) (md_c (m := md_X12_atom) (by decide)) ?_
              refine e_iconst dX12_atom_96 ci_1 ?_
              exact e_zret dX12_atom_97 rfl (nar_z (Or.inr rfl)) ⟨_, rfl, h⟩
            · replace h := h.2 c102
              refine e_iconst dX12_atom_84 ci_0 ?_
              exact e_zret dX12_atom_85 rfl (nar_z (Or.inl rfl)) ⟨_, rfl, h⟩
        · replace h := h.2 c88
          refine e_iconst dX12_atom_56 ci_0 ?_
          exact e_zret dX12_atom_57 rfl (nar_z (Or.inl rfl)) ⟨_, rfl, h⟩
  · replace h := h.2 c7
    refine e_aload_n dX12_atom_9 rfl rfl ?_
    refine e_iconst dX12_atom_10 ci_0 ?_
    refine e_aload_n dX12_atom_11 rfl rfl ?_
    refine e_getI dX12_atom_12 fl_X12_177 (ob_11 hn) rfl ?_
    obtain ⟨Q103, hc104, h⟩ := h
    refine e_callV (M' := M_X12_puts) (as := [.int 0, .int (gI σ3 11 34)]) (rest := []) dX12_atom_15 ml_X12_202 mk_X12_puts (ob_11 hn) rfl rfl rfl (Nat.le_of_ble_eq_true rfl) (show 0 < d by omega) hc104 (Md_le (b := md_X12_atom) (by decide)) (fun v σ105 hq hf => ?_)
    obtain ⟨rfl, hq⟩ := hq
    replace h := h σ105 hq hf
    refine e_iconst dX12_atom_18 ci_1 ?_
    exact e_zret dX12_atom_19 rfl (nar_z (Or.inr rfl)) ⟨_, rfl, h⟩
abbrev K_X12_all_9 (d n : Nat) (σ0 : St) (Q : Int32 → St → Prop) (σ : St) : Prop := Ev (d, n, md_X12_all, σ0, liI Q) M_X12_all 9 [some (.ref 11)] [] σ
theorem B_X12_all_9 {d n : Nat} {σ0 : St} {Q : Int32 → St → Prop}  {σ : St}  (hn : FIX ≤ n) (hd : 1 ≤ d) (h : ∃ Q1 : Int32 → St → Prop, Cn (d - 1) n M_X12_takes md_X12_takes [.ref 11, .long 6385252] σ (liI Q1) ∧ ∀ (v4 : Int32) (σ3 : St), Q1 v4 σ3 → Fr md_X12_takes σ σ3 → ((v4 = 0 → Q 1 σ3) ∧ (¬ v4 = 0 → ∃ Q8 : Int32 → St → Prop, Cn (d - 1) n M_X12_single md_X12_single [.ref 11] σ3 (liI Q8) ∧ ∀ (v11 : Int32) (σ10 : St), Q8 v11 σ10 → Fr md_X12_single σ3 σ10 → ((v11 ≠ 0 → ∃ Q15 : St → Prop, Cn (d - 1) n M_X12_puts md_X12_puts [.ref 11, .int 11, .int 0] σ10 (liV Q15) ∧ ∀ (σ17 : St), Q15 σ17 → Fr md_X12_puts σ10 σ17 → K_X12_all_9 d n σ0 Q σ17) ∧ (v11 = 0 → Q 0 σ10))))) : K_X12_all_9 d n σ0 Q σ := by
  refine e_aload_n dX12_all_9 rfl rfl ?_
  refine e_ldc2 dX12_all_10 ck_X12_240 ?_
  obtain ⟨Q1, hc2, h⟩ := h
  refine e_callV (M' := M_X12_takes) (as := [.long 6385252]) (rest := []) dX12_all_13 ml_X12_218 mk_X12_takes (ob_11 hn) rfl rfl rfl (Nat.le_of_ble_eq_true rfl) (show 0 < d by omega) hc2 (Md_le (b := md_X12_all) (by decide)) (fun v σ3 hq hf => ?_)
  obtain ⟨v4, rfl, hq⟩ := hq
  replace h := h v4 σ3 hq hf
  refine e_if_eq (tgt := 38) dX12_all_16 (by decide) (fun c7 => ?_) (fun c7 => ?_)
  · replace h := h.1 c7
    refine e_iconst dX12_all_38 ci_1 ?_
    exact e_zret dX12_all_39 rfl (nar_z (Or.inr rfl)) ⟨_, rfl, h⟩
  · replace h := h.2 c7
    refine e_aload_n dX12_all_19 rfl rfl ?_
    obtain ⟨Q8, hc9, h⟩ := h
    refine e_callV (M' := M_X12_single) (as := []) (rest := []) dX12_all_20 ml_X12_234 mk_X12_single (ob_11 hn) rfl rfl rfl (Nat.le_of_ble_eq_true rfl) (show 0 < d by omega) hc9 (Md_le (b := md_X12_all) (by decide)) (fun v σ10 hq hf => ?_)
    obtain ⟨v11, rfl, hq⟩ := hq
    replace h := h v11 σ10 hq hf
    refine e_if_ne (tgt := 28) dX12_all_23 (by decide) (fun c14 => ?_) (fun c14 => ?_)
    · replace h := h.1 c14
      refine e_aload_n dX12_all_28 rfl rfl ?_
      refine e_bipush dX12_all_29 cb_11 ?_
      refine e_iconst dX12_all_31 ci_0 ?_
      obtain ⟨Q15, hc16, h⟩ := h
      refine e_callV (M' := M_X12_puts) (as := [.int 11, .int 0]) (rest := []) dX12_all_32 ml_X12_202 mk_X12_puts (ob_11 hn) rfl rfl rfl (Nat.le_of_ble_eq_true rfl) (show 0 < d by omega) hc16 (Md_le (b := md_X12_all) (by decide)) (fun v σ17 hq hf => ?_)
      obtain ⟨rfl, hq⟩ := hq
      replace h := h σ17 hq hf
      refine e_goto (tgt := 9) dX12_all_35 (by decide) ?_
      exact h
    · replace h := h.2 c14
      refine e_iconst dX12_all_26 ci_0 ?_
      exact e_zret dX12_all_27 rfl (nar_z (Or.inl rfl)) ⟨_, rfl, h⟩
theorem S_X12_all {d n : Nat} {Q : Int32 → St → Prop} {σ : St}  (hn : FIX ≤ n) (hd : 1 ≤ d) (h : ∃ Q1 : Int32 → St → Prop, Cn (d - 1) n M_X12_single md_X12_single [.ref 11] σ (liI Q1) ∧ ∀ (v4 : Int32) (σ3 : St), Q1 v4 σ3 → Fr md_X12_single σ σ3 → ((v4 ≠ 0 → K_X12_all_9 d n σ Q σ3) ∧ (v4 = 0 → Q 0 σ3))) : Cn d n M_X12_all md_X12_all [.ref 11] σ (liI Q) := by
  refine Cn.of (k0 := 0) (by decide) rfl ?_
  show Ev (d, n, md_X12_all, σ, liI Q) M_X12_all 0 [some (.ref 11)] [] σ
  refine e_aload_n dX12_all_0 rfl rfl ?_
  obtain ⟨Q1, hc2, h⟩ := h
  refine e_callV (M' := M_X12_single) (as := []) (rest := []) dX12_all_1 ml_X12_234 mk_X12_single (ob_11 hn) rfl rfl rfl (Nat.le_of_ble_eq_true rfl) (show 0 < d by omega) hc2 (Md_le (b := md_X12_all) (by decide)) (fun v σ3 hq hf => ?_)
  obtain ⟨v4, rfl, hq⟩ := hq
  replace h := h v4 σ3 hq hf
  refine e_if_ne (tgt := 9) dX12_all_4 (by decide) (fun c7 => ?_) (fun c7 => ?_)
  · replace h := h.1 c7
    exact h
  · replace h := h.2 c7
    refine e_iconst dX12_all_7 ci_0 ?_
    exact e_zret dX12_all_8 rfl (nar_z (Or.inl rfl)) ⟨_, rfl, h⟩
abbrev K_X12_any_9 (d n : Nat) (σ0 : St) (Q : Int32 → St → Prop) (σ : St) : Prop := Ev (d, n, md_X12_any, σ0, liI Q) M_X12_any 9 [some (.ref 11)] [] σ
theorem B_X12_any_9 {d n : Nat} {σ0 : St} {Q : Int32 → St → Prop}  {σ : St}  (hn : FIX ≤ n) (hd : 1 ≤ d) (h : ∃ Q1 : Int32 → St → Prop, Cn (d - 1) n M_X12_takes md_X12_takes [.ref 11, .long 28530] σ (liI Q1) ∧ ∀ (v4 : Int32) (σ3 : St), Q1 v4 σ3 → Fr md_X12_takes σ σ3 → ((v4 = 0 → Q 1 σ3) ∧ (¬ v4 = 0 → ∃ Q8 : Int32 → St → Prop, Cn (d - 1) n M_X12_all md_X12_all [.ref 11] σ3 (liI Q8) ∧ ∀ (v11 : Int32) (σ10 : St), Q8 v11 σ10 → Fr md_X12_all σ3 σ10 → ((v11 ≠ 0 → ∃ Q15 : St → Prop, Cn (d - 1) n M_X12_puts md_X12_puts [.ref 11, .int 10, .int 0] σ10 (liV Q15) ∧ ∀ (σ17 : St), Q15 σ17 → Fr md_X12_puts σ10 σ17 → K_X12_any_9 d n σ0 Q σ17) ∧ (v11 = 0 → Q 0 σ10))))) : K_X12_any_9 d n σ0 Q σ := by
  refine e_aload_n dX12_any_9 rfl rfl ?_
  refine e_ldc2 dX12_any_10 ck_X12_245 ?_
  obtain ⟨Q1, hc2, h⟩ := h
  refine e_callV (M' := M_X12_takes) (as := [.long 28530]) (rest := []) dX12_any_13 ml_X12_218 mk_X12_takes (ob_11 hn) rfl rfl rfl (Nat.le_of_ble_eq_true rfl) (show 0 < d by omega) hc2 (Md_le (b := md_X12_any) (by decide)) (fun v σ3 hq hf => ?_)
  obtain ⟨v4, rfl, hq⟩ := hq
  replace h := h v4 σ3 hq hf
  refine e_if_eq (tgt := 38) dX12_any_16 (by decide) (fun c7 => ?_) (fun c7 => ?_)
  · replace h := h.1 c7
    refine e_iconst dX12_any_38 ci_1 ?_
    exact e_zret dX12_any_39 rfl (nar_z (Or.inr rfl)) ⟨_, rfl, h⟩
  · replace h := h.2 c7
    refine e_aload_n dX12_any_19 rfl rfl ?_
    obtain ⟨Q8, hc9, h⟩ := h
    refine e_callV (M' := M_X12_all) (as := []) (rest := []) dX12_any_20 ml_X12_242 mk_X12_all (ob_11 hn) rfl rfl rfl (Nat.le_of_ble_eq_true rfl) (show 0 < d by omega) hc9 (Md_le (b := md_X12_any) (by decide)) (fun v σ10 hq hf => ?_)
    obtain ⟨v11, rfl, hq⟩ := hq
    replace h := h v11 σ10 hq hf
    refine e_if_ne (tgt := 28) dX12_any_23 (by decide) (fun c14 => ?_) (fun c14 => ?_)
    · replace h := h.1 c14
      refine e_aload_n dX12_any_28 rfl rfl ?_
      refine e_bipush dX12_any_29 cb_10 ?_
      refine e_iconst dX12_any_31 ci_0 ?_
      obtain ⟨Q15, hc16, h⟩ := h
      refine e_callV (M' := M_X12_puts) (as := [.int 10, .int 0]) (rest := []) dX12_any_32 ml_X12_202 mk_X12_puts (ob_11 hn) rfl rfl rfl (Nat.le_of_ble_eq_true rfl) (show 0 < d by omega) hc16 (Md_le (b := md_X12_any) (by decide)) (fun v σ17 hq hf => ?_)
      obtain ⟨rfl, hq⟩ := hq
      replace h := h σ17 hq hf
      refine e_goto (tgt := 9) dX12_any_35 (by decide) ?_
      exact h
    · replace h := h.2 c14
      refine e_iconst dX12_any_26 ci_0 ?_
      exact e_zret dX12_any_27 rfl (nar_z (Or.inl rfl)) ⟨_, rfl, h⟩
theorem S_X12_any {d n : Nat} {Q : Int32 → St → Prop} {σ : St}  (hn : FIX ≤ n) (hd : 1 ≤ d) (h : ∃ Q1 : Int32 → St → Prop, Cn (d - 1) n M_X12_all md_X12_all [.ref 11] σ (liI Q1) ∧ ∀ (v4 : Int32) (σ3 : St), Q1 v4 σ3 → Fr md_X12_all σ σ3 → ((v4 ≠ 0 → K_X12_any_9 d n σ Q σ3) ∧ (v4 = 0 → Q 0 σ3))) : Cn d n M_X12_any md_X12_any [.ref 11] σ (liI Q) := by
  refine Cn.of (k0 := 0) (by decide) rfl ?_
  show Ev (d, n, md_X12_any, σ, liI Q) M_X12_any 0 [some (.ref 11)] [] σ
  refine e_aload_n dX12_any_0 rfl rfl ?_
  obtain ⟨Q1, hc2, h⟩ := h
  refine e_callV (M' := M_X12_all) (as := []) (rest := []) dX12_any_1 ml_X12_242 mk_X12_all (ob_11 hn) rfl rfl rfl (Nat.le_of_ble_eq_true rfl) (show 0 < d by omega) hc2 (Md_le (b := md_X12_any) (by decide)) (fun v σ3 hq hf => ?_)
  obtain ⟨v4, rfl, hq⟩ := hq
  replace h := h v4 σ3 hq hf
  refine e_if_ne (tgt := 9) dX12_any_4 (by decide) (fun c7 => ?_) (fun c7 => ?_)
  · replace h := h.1 c7
    exact h
  · replace h := h.2 c7
    refine e_iconst dX12_any_7 ci_0 ?_
    exact e_zret dX12_any_8 rfl (nar_z (Or.inl rfl)) ⟨_, rfl, h⟩
theorem S_X12_single {d n : Nat} {Q : Int32 → St → Prop} {σ : St}  (hn : FIX ≤ n) (hd : 1 ≤ d) (h : ∃ Q1 : Int64 → St → Prop, Cn (d - 1) n M_X12_word md_X12_word [.ref 11] σ (liL Q1) ∧ ∀ (v4 : Int64) (σ3 : St), Q1 v4 σ3 → Fr md_X12_word σ σ3 → (((lg_cmp v4 7237492) ≠ 0 → (((gI σ3 11 15) ≤ (gI σ3 11 16) → ∃ Q9 : Int32 → St → Prop, Cn (d - 1) n M_X12_ex md_X12_ex [.ref 11] σ3 (liI Q9) ∧ ∀ (v12 : Int32) (σ11 : St), Q9 v12 σ11 → Fr md_X12_ex σ3 σ11 → ((v12 ≠ 0 → ∃ Q16 : Int32 → St → Prop, Cn (d - 1) n M_X12_takesSign md_X12_takesSign [.ref 11, .int 60] σ11 (liI Q16) ∧ ∀ (v19 : Int32) (σ18 : St), Q16 v19 σ18 → Fr md_X12_takesSign σ11 σ18 → ((v19 = 0 → ∃ Q23 : Int32 → St → Prop, Cn (d - 1) n M_X12_takesSign md_X12_takesSign [.ref 11, .int 62] σ18 (liI Q23) ∧ ∀ (v26 : Int32) (σ25 : St), Q23 v26 σ25 → Fr md_X12_takesSign σ18 σ25 → ((v26 = 0 → ∃ Q30 : Int32 → St → Prop, Cn (d - 1) n M_X12_takesSign md_X12_takesSign [.ref 11, .int 61] σ25 (liI Q30) ∧ ∀ (v33 : Int32) (σ32 : St), Q30 v33 σ32 → Fr md_X12_takesSign σ25 σ32 → ((v33 = 0 → ((((-1) : Int32) = (-1) → Q 0 σ32) ∧ (¬ ((-1) : Int32) = (-1) → ∃ Q38 : Int32 → St → Prop, Cn (d - 1) n M_X12_ex md_X12_ex [.ref 11] σ32 (liI Q38) ∧ ∀ (v41 : Int32) (σ40 : St), Q38 v41 σ40 → Fr md_X12_ex σ32 σ40 → ((v41 ≠ 0 → ∃ Q45 : St → Prop, Cn (d - 1) n M_X12_puts md_X12_puts [.ref 11, .int (-1), .int 0] σ40 (liV Q45) ∧ ∀ (σ47 : St), Q45 σ47 → Fr md_X12_puts σ40 σ47 → Q 1 σ47) ∧ (v41 = 0 → Q 0 σ40))))) ∧ (¬ v33 = 0 → (((9 : Int32) = (-1) → Q 0 σ32) ∧ (¬ (9 : Int32) = (-1) → ∃ Q52 : Int32 → St → Prop, Cn (d - 1) n M_X12_ex md_X12_ex [.ref 11] σ32 (liI Q52) ∧ ∀ (v55 : Int32) (σ54 : St), Q52 v55 σ54 → Fr md_X12_ex σ32 σ54 → ((v55 ≠ 0 → ∃ Q59 : St → Prop, Cn (d - 1) n M_X12_puts md_X12_puts [.ref 11, .int 9, .int 0] σ54 (liV Q59) ∧ ∀ (σ61 : St), Q59 σ61 → Fr md_X12_puts σ54 σ61 → Q 1 σ61) ∧ (v55 = 0 → Q 0 σ54))))))) ∧ (¬ v26 = 0 → (((8 : Int32) = (-1) → Q 0 σ25) ∧ (¬ (8 : Int32) = (-1) → ∃ Q66 : Int32 → St → Prop, Cn (d - 1) n M_X12_ex md_X12_ex [.ref 11] σ25 (liI Q66) ∧ ∀ (v69 : Int32) (σ68 : St), Q66 v69 σ68 → Fr md_X12_ex σ25 σ68 → ((v69 ≠ 0 → ∃ Q73 : St → Prop, Cn (d - 1) n M_X12_puts md_X12_puts [.ref 11, .int 8, .int 0] σ68 (liV Q73) ∧ ∀ (σ75 : St), Q73 σ75 → Fr md_X12_puts σ68 σ75 → Q 1 σ75) ∧ (v69 = 0 → Q 0 σ68))))))) ∧ (¬ v19 = 0 → (((7 : Int32) = (-1) → Q 0 σ18) ∧ (¬ (7 : Int32) = (-1) → ∃ Q80 : Int32 → St → Prop, Cn (d - 1) n M_X12_ex md_X12_ex [.ref 11] σ18 (liI Q80) ∧ ∀ (v83 : Int32) (σ82 : St), Q80 v83 σ82 → Fr md_X12_ex σ18 σ82 → ((v83 ≠ 0 → ∃ Q87 : St → Prop, Cn (d - 1) n M_X12_puts md_X12_puts [.ref 11, .int 7, .int 0] σ82 (liV Q87) ∧ ∀ (σ89 : St), Q87 σ89 → Fr md_X12_puts σ82 σ89 → Q 1 σ89) ∧ (v83 = 0 → Q 0 σ82))))))) ∧ (v12 = 0 → Q 0 σ11))) ∧ (¬ (gI σ3 11 15) ≤ (gI σ3 11 16) → vp_in (gI σ3 11 16) 400 ∧ (((gI σ3 60 (gI σ3 11 16).toNatClampNeg) ≠ 91 → ∃ Q94 : Int32 → St → Prop, Cn (d - 1) n M_X12_ex md_X12_ex [.ref 11] σ3 (liI Q94) ∧ ∀ (v97 : Int32) (σ96 : St), Q94 v97 σ96 → Fr md_X12_ex σ3 σ96 → ((v97 ≠ 0 → ∃ Q101 : Int32 → St → Prop, Cn (d - 1) n M_X12_takesSign md_X12_takesSign [.ref 11, .int 60] σ96 (liI Q101) ∧ ∀ (v104 : Int32) (σ103 : St), Q101 v104 σ103 → Fr md_X12_takesSign σ96 σ103 → ((v104 = 0 → ∃ Q108 : Int32 → St → Prop, Cn (d - 1) n M_X12_takesSign md_X12_takesSign [.ref 11, .int 62] σ103 (liI Q108) ∧ ∀ (v111 : Int32) (σ110 : St), Q108 v111 σ110 → Fr md_X12_takesSign σ103 σ110 → ((v111 = 0 → ∃ Q115 : Int32 → St → Prop, Cn (d - 1) n M_X12_takesSign md_X12_takesSign [.ref 11, .int 61] σ110 (liI Q115) ∧ ∀ (v118 : Int32) (σ117 : St), Q115 v118 σ117 → Fr md_X12_takesSign σ110 σ117 → ((v118 = 0 → ((((-1) : Int32) = (-1) → Q 0 σ117) ∧ (¬ ((-1) : Int32) = (-1) → ∃ Q123 : Int32 → St → Prop, Cn (d - 1) n M_X12_ex md_X12_ex [.ref 11] σ117 (liI Q123) ∧ ∀ (v126 : Int32) (σ125 : St), Q123 v126 σ125 → Fr md_X12_ex σ117 σ125 → ((v126 ≠ 0 → ∃ Q130 : St → Prop, Cn (d - 1) n M_X12_puts md_X12_puts [.ref 11, .int (-1), .int 0] σ125 (liV Q130) ∧ ∀ (σ132 : St), Q130 σ132 → Fr md_X12_puts σ125 σ132 → Q 1 σ132) ∧ (v126 = 0 → Q 0 σ125))))) ∧ (¬ v118 = 0 → (((9 : Int32) = (-1) → Q 0 σ117) ∧ (¬ (9 : Int32) = (-1) → ∃ Q137 : Int32 → St → Prop, Cn (d - 1) n M_X12_ex md_X12_ex [.ref 11] σ117 (liI Q137) ∧ ∀ (v140 : Int32) (σ139 : St), Q137 v140 σ139 → Fr md_X12_ex σ117 σ139 → ((v140 ≠ 0 → ∃ Q144 : St → Prop, Cn (d - 1) n M_X12_puts md_X12_puts [.ref 11, .int 9, .int 0] σ139 (liV Q144) ∧ ∀ (σ146 : St), Q144 σ146 → Fr md_X12_puts σ139 σ146 → Q 1 σ146) ∧ (v140 = 0 → Q 0 σ139))))))) ∧ (¬ v111 = 0 → (((8 : Int32) = (-1) → Q 0 σ110) ∧ (¬ (8 : Int32) = (-1) → ∃ Q151 : Int32 → St → Prop, Cn (d - 1) n M_X12_ex md_X12_ex [.ref 11] σ110 (liI Q151) ∧ ∀ (v154 : Int32) (σ153 : St), Q151 v154 σ153 → Fr md_X12_ex σ110 σ153 → ((v154 ≠ 0 → ∃ Q158 : St → Prop, Cn (d - 1) n M_X12_puts md_X12_puts [.ref 11, .int 8, .int 0] σ153 (liV Q158) ∧ ∀ (σ160 : St), Q158 σ160 → Fr md_X12_puts σ153 σ160 → Q 1 σ160) ∧ (v154 = 0 → Q 0 σ153))))))) ∧ (¬ v104 = 0 → (((7 : Int32) = (-1) → Q 0 σ103) ∧ (¬ (7 : Int32) = (-1) → ∃ Q165 : Int32 → St → Prop, Cn (d - 1) n M_X12_ex md_X12_ex [.ref 11] σ103 (liI Q165) ∧ ∀ (v168 : Int32) (σ167 : St), Q165 v168 σ167 → Fr md_X12_ex σ103 σ167 → ((v168 ≠ 0 → ∃ Q172 : St → Prop, Cn (d - 1) n M_X12_puts md_X12_puts [.ref 11, .int 7, .int 0] σ167 (liV Q172) ∧ ∀ (σ174 : St), Q172 σ174 → Fr md_X12_puts σ167 σ174 → Q 1 σ174) ∧ (v168 = 0 → Q 0 σ167))))))) ∧ (v97 = 0 → Q 0 σ96))) ∧ ((gI σ3 60 (gI σ3 11 16).toNatClampNeg) = 91 → ∃ Q178 : Int32 → St → Prop, Cn (d - 1) n M_X12_opens md_X12_opens [.ref 11] σ3 (liI Q178) ∧ ∀ (v181 : Int32) (σ180 : St), Q178 v181 σ180 → Fr md_X12_opens σ3 σ180 → ((v181 ≠ 0 → ∃ Q185 : Int32 → St → Prop, Cn (d - 1) n M_X12_any md_X12_any [.ref 11] (sI σ180 11 16 ((gI σ180 11 16) + 1)) (liI Q185) ∧ ∀ (v188 : Int32) (σ187 : St), Q185 v188 σ187 → Fr md_X12_any (sI σ180 11 16 ((gI σ180 11 16) + 1)) σ187 → ((v188 = 0 → Q 0 σ187) ∧ (¬ v188 = 0 → ∃ Q192 : Int32 → St → Prop, Cn (d - 1) n M_X12_takesSign md_X12_takesSign [.ref 11, .int 93] σ187 (liI Q192) ∧ ∀ (v195 : Int32) (σ194 : St), Q192 v195 σ194 → Fr md_X12_takesSign σ187 σ194 → ((v195 ≠ 0 → Q 1 (sI σ194 11 17 ((gI σ194 11 17) - 1))) ∧ (v195 = 0 → Q 0 σ194))))) ∧ (v181 = 0 → Q 0 σ180))))))) ∧ ((lg_cmp v4 7237492) = 0 → ∃ Q199 : Int32 → St → Prop, Cn (d - 1) n M_X12_opens md_X12_opens [.ref 11] σ3 (liI Q199) ∧ ∀ (v202 : Int32) (σ201 : St), Q199 v202 σ201 → Fr md_X12_opens σ3 σ201 → ((v202 ≠ 0 → ∃ Q206 : Int32 → St → Prop, Cn (d - 1) n M_X12_single md_X12_single [.ref 11] (sI σ201 11 16 (gI σ201 11 33)) (liI Q206) ∧ ∀ (v209 : Int32) (σ208 : St), Q206 v209 σ208 → Fr md_X12_single (sI σ201 11 16 (gI σ201 11 33)) σ208 → ((v209 ≠ 0 → ∃ Q213 : St → Prop, Cn (d - 1) n M_X12_puts md_X12_puts [.ref 11, .int 12, .int 0] (sI σ208 11 17 ((gI σ208 11 17) - 1)) (liV Q213) ∧ ∀ (σ215 : St), Q213 σ215 → Fr md_X12_puts (sI σ208 11 17 ((gI σ208 11 17) - 1)) σ215 → Q 1 σ215) ∧ (v209 = 0 → Q 0 σ208))) ∧ (v202 = 0 → Q 0 σ201))))) : Cn d n M_X12_single md_X12_single [.ref 11] σ (liI Q) := by
  refine Cn.of (k0 := 1) (by decide) rfl ?_
  show Ev (d, n, md_X12_single, σ, liI Q) M_X12_single 0 [some (.ref 11), none] [] σ
  refine e_aload_n dX12_single_0 rfl rfl ?_
  obtain ⟨Q1, hc2, h⟩ := h
  refine e_callV (M' := M_X12_word) (as := []) (rest := []) dX12_single_1 ml_X12_173 mk_X12_word (ob_11 hn) rfl rfl rfl (Nat.le_of_ble_eq_true rfl) (show 0 < d by omega) hc2 (Md_le (b := md_X12_single) (by decide)) (fun v σ3 hq hf => ?_)
  obtain ⟨v4, rfl, hq⟩ := hq
  replace h := h v4 σ3 hq hf
  refine e_ldc2 dX12_single_4 ck_X12_232 ?_
  refine e_lcmp dX12_single_7 ?_
  refine e_if_ne (tgt := 56) dX12_single_8 (by decide) (fun c7 => ?_) (fun c7 => ?_)
  · replace h := h.1 c7
    refine e_aload_n dX12_single_56 rfl rfl ?_
    refine e_getI dX12_single_57 fl_X12_161 (ob_11 hn) rfl ?_
    refine e_aload_n dX12_single_60 rfl rfl ?_
    refine e_getI dX12_single_61 fl_X12_164 (ob_11 hn) rfl ?_
    refine e_icmp_ge (tgt := 130) dX12_single_64 (by decide) (fun c8 => ?_) (fun c8 => ?_)
    · replace h := h.1 c8
      refine e_aload_n dX12_single_130 rfl rfl ?_
      obtain ⟨Q9, hc10, h⟩ := h
      refine e_callV (M' := M_X12_ex) (as := []) (rest := []) dX12_single_131 ml_X12_210 mk_X12_ex (ob_11 hn) rfl rfl rfl (Nat.le_of_ble_eq_true rfl) (show 0 < d by omega) hc10 (Md_le (b := md_X12_single) (by decide)) (fun v σ11 hq hf => ?_)
      obtain ⟨v12, rfl, hq⟩ := hq
      replace h := h v12 σ11 hq hf
      refine e_if_ne (tgt := 139) dX12_single_134 (by decide) (fun c15 => ?_) (fun c15 => ?_)
      · replace h := h.1 c15
        refine e_aload_n dX12_single_139 rfl rfl ?_
        refine e_bipush dX12_single_140 cb_60 ?_
        obtain ⟨Q16, hc17, h⟩ := h
        refine e_callV (M' := M_X12_takesSign) (as := [.int 60]) (rest := []) dX12_single_142 ml_X12_213 mk_X12_takesSign (ob_11 hn) rfl rfl rfl (Nat.le_of_ble_eq_true rfl) (show 0 < d by omega) hc17 (Md_le (b := md_X12_single) (by decide)) (fun v σ18 hq hf => ?_)
        obtain ⟨v19, rfl, hq⟩ := hq
        replace h := h v19 σ18 hq hf
        refine e_if_eq (tgt := 153) dX12_single_145 (by decide) (fun c22 => ?_) (fun c22 => ?_)
        · replace h := h.1 c22
          refine e_aload_n dX12_single_153 rfl rfl ?_
          refine e_bipush dX12_single_154 cb_62 ?_
          obtain ⟨Q23, hc24, h⟩ := h
          refine e_callV (M' := M_X12_takesSign) (as := [.int 62]) (rest := []) dX12_single_156 ml_X12_213 mk_X12_takesSign (ob_11 hn) rfl rfl rfl (Nat.le_of_ble_eq_true rfl) (show 0 < d by omega) hc24 (Md_le (b := md_X12_single) (by decide)) (fun v σ25 hq hf => ?_)
          obtain ⟨v26, rfl, hq⟩ := hq
          replace h := h v26 σ25 hq hf
          refine e_if_eq (tgt := 167) dX12_single_159 (by decide) (fun c29 => ?_) (fun c29 => ?_)
          · replace h := h.1 c29
            refine e_aload_n dX12_single_167 rfl rfl ?_
            refine e_bipush dX12_single_168 cb_61 ?_
            obtain ⟨Q30, hc31, h⟩ := h
            refine e_callV (M' := M_X12_takesSign) (as := [.int 61]) (rest := []) dX12_single_170 ml_X12_213 mk_X12_takesSign (ob_11 hn) rfl rfl rfl (Nat.le_of_ble_eq_true rfl) (show 0 < d by omega) hc31 (Md_le (b := md_X12_single) (by decide)) (fun v σ32 hq hf => ?_)
            obtain ⟨v33, rfl, hq⟩ := hq
            replace h := h v33 σ32 hq hf
            refine e_if_eq (tgt := 181) dX12_single_173 (by decide) (fun c36 => ?_) (fun c36 => ?_)
            · replace h := h.1 c36
              refine e_iconst dX12_single_181 ci_m1 ?_
              refine e_istore_n dX12_single_182 rfl rfl (by decide) ?_
              refine e_iload_n dX12_single_183 rfl rfl ?_
              refine e_iconst dX12_single_184 ci_m1 ?_
              refine e_icmp_eq (tgt := 195) dX12_single_185 (by decide) (fun c37 => ?_) (fun c37 => ?_)
              · replace h := h.1 c37
                refine e_iconst dX12_single_195 ci_0 ?_
                exact e_zret dX12_single_196 rfl (nar_z (Or.inl rfl)) ⟨_, rfl, h⟩
              · replace h := h.2 c37
                refine e_aload_n dX12_single_188 rfl rfl ?_
                obtain ⟨Q38, hc39, h⟩ := h
                refine e_callV (M' := M_X12_ex) (as := []) (rest := []) dX12_single_189 ml_X12_210 mk_X12_ex (ob_11 hn) rfl rfl rfl (Nat.le_of_ble_eq_true rfl) (show 0 < d by omega) hc39 (Md_le (b := md_X12_single) (by decide)) (fun v σ40 hq hf => ?_)
                obtain ⟨v41, rfl, hq⟩ := hq
                replace h := h v41 σ40 hq hf
                refine e_if_ne (tgt := 197) dX12_single_192 (by decide) (fun c44 => ?_) (fun c44 => ?_)
                · replace h := h.1 c44
                  refine e_aload_n dX12_single_197 rfl rfl ?_
                  refine e_iload_n dX12_single_198 rfl rfl ?_
                  refine e_iconst dX12_single_199 ci_0 ?_
                  obtain ⟨Q45, hc46, h⟩ := h
                  refine e_callV (M' := M_X12_puts) (as := [.int (-1), .int 0]) (rest := []) dX12_single_200 ml_X12_202 mk_X12_puts (ob_11 hn) rfl rfl rfl (Nat.le_of_ble_eq_true rfl) (show 0 < d by omega) hc46 (Md_le (b := md_X12_single) (by decide)) (fun v σ47 hq hf => ?_)
                  obtain ⟨rfl, hq⟩ := hq
                  replace h := h σ47 hq hf
                  refine e_iconst dX12_single_203 ci_1 ?_
                  exact e_zret dX12_single_204 rfl (nar_z (Or.inr rfl)) ⟨_, rfl, h⟩
                · replace h := h.2 c44
                  refine e_iconst dX12_single_195 ci_0 ?_
                  exact e_zret dX12_single_196 rfl (nar_z (Or.inl rfl)) ⟨_, rfl, h⟩
            · replace h := h.2 c36
              refine e_bipush dX12_single_176 cb_9 ?_
              refine e_goto (tgt := 182) dX12_single_178 (by decide) ?_
              refine e_istore_n dX12_single_182 rfl rfl (by decide) ?_
              refine e_iload_n dX12_single_183 rfl rfl ?_
              refine e_iconst dX12_single_184 ci_m1 ?_
              refine e_icmp_eq (tgt := 195) dX12_single_185 (by decide) (fun c51 => ?_) (fun c51 => ?_)
              · replace h := h.1 c51
                refine e_iconst dX12_single_195 ci_0 ?_
                exact e_zret dX12_single_196 rfl (nar_z (Or.inl rfl)) ⟨_, rfl, h⟩
              · replace h := h.2 c51
                refine e_aload_n dX12_single_188 rfl rfl ?_
                obtain ⟨Q52, hc53, h⟩ := h
                refine e_callV (M' := M_X12_ex) (as := []) (rest := []) dX12_single_189 ml_X12_210 mk_X12_ex (ob_11 hn) rfl rfl rfl (Nat.le_of_ble_eq_true rfl) (show 0 < d by omega) hc53 (Md_le (b := md_X12_single) (by decide)) (fun v σ54 hq hf => ?_)
                obtain ⟨v55, rfl, hq⟩ := hq
                replace h := h v55 σ54 hq hf
                refine e_if_ne (tgt := 197) dX12_single_192 (by decide) (fun c58 => ?_) (fun c58 => ?_)
                · replace h := h.1 c58
                  refine e_aload_n dX12_single_197 rfl rfl ?_
                  refine e_iload_n dX12_single_198 rfl rfl ?_
                  refine e_iconst dX12_single_199 ci_0 ?_
                  obtain ⟨Q59, hc60, h⟩ := h
                  refine e_callV (M' := M_X12_puts) (as := [.int 9, .int 0]) (rest := []) dX12_single_200 ml_X12_202 mk_X12_puts (ob_11 hn) rfl rfl rfl (Nat.le_of_ble_eq_true rfl) (show 0 < d by omega) hc60 (Md_le (b := md_X12_single) (by decide)) (fun v σ61 hq hf => ?_)
                  obtain ⟨rfl, hq⟩ := hq
                  replace h := h σ61 hq hf
                  refine e_iconst dX12_single_203 ci_1 ?_
                  exact e_zret dX12_single_204 rfl (nar_z (Or.inr rfl)) ⟨_, rfl, h⟩
                · replace h := h.2 c58
                  refine e_iconst dX12_single_195 ci_0 ?_
                  exact e_zret dX12_single_196 rfl (nar_z (Or.inl rfl)) ⟨_, rfl, h⟩
          · replace h := h.2 c29
            refine e_bipush dX12_single_162 cb_8 ?_
            refine e_goto (tgt := 182) dX12_single_164 (by decide) ?_
            refine e_istore_n dX12_single_182 rfl rfl (by decide) ?_
            refine e_iload_n dX12_single_183 rfl rfl ?_
            refine e_iconst dX12_single_184 ci_m1 ?_
            refine e_icmp_eq (tgt := 195) dX12_single_185 (by decide) (fun c65 => ?_) (fun c65 => ?_)
            · replace h := h.1 c65
              refine e_iconst dX12_single_195 ci_0 ?_
              exact e_zret dX12_single_196 rfl (nar_z (Or.inl rfl)) ⟨_, rfl, h⟩
            · replace h := h.2 c65
              refine e_aload_n dX12_single_188 rfl rfl ?_
              obtain ⟨Q66, hc67, h⟩ := h
              refine e_callV (M' := M_X12_ex) (as := []) (rest := []) dX12_single_189 ml_X12_210 mk_X12_ex (ob_11 hn) rfl rfl rfl (Nat.le_of_ble_eq_true rfl) (show 0 < d by omega) hc67 (Md_le (b := md_X12_single) (by decide)) (fun v σ68 hq hf => ?_)
              obtain ⟨v69, rfl, hq⟩ := hq
              replace h := h v69 σ68 hq hf
              refine e_if_ne (tgt := 197) dX12_single_192 (by decide) (fun c72 => ?_) (fun c72 => ?_)
              · replace h := h.1 c72
                refine e_aload_n dX12_single_197 rfl rfl ?_
                refine e_iload_n dX12_single_198 rfl rfl ?_
                refine e_iconst dX12_single_199 ci_0 ?_
                obtain ⟨Q73, hc74, h⟩ := h
                refine e_callV (M' := M_X12_puts) (as := [.int 8, .int 0]) (rest := []) dX12_single_200 ml_X12_202 mk_X12_puts (ob_11 hn) rfl rfl rfl (Nat.le_of_ble_eq_true rfl) (show 0 < d by omega) hc74 (Md_le (b := md_X12_single) (by decide)) (fun v σ75 hq hf => ?_)
                obtain ⟨rfl, hq⟩ := hq
                replace h := h σ75 hq hf
                refine e_iconst dX12_single_203 ci_1 ?_
                exact e_zret dX12_single_204 rfl (nar_z (Or.inr rfl)) ⟨_, rfl, h⟩
              · replace h := h.2 c72
                refine e_iconst dX12_single_195 ci_0 ?_
                exact e_zret dX12_single_196 rfl (nar_z (Or.inl rfl)) ⟨_, rfl, h⟩
        · replace h := h.2 c22
          refine e_bipush dX12_single_148 cb_7 ?_
          refine e_goto (tgt := 182) dX12_single_150 (by decide) ?_
          refine e_istore_n dX12_single_182 rfl rfl (by decide) ?_
          refine e_iload_n dX12_single_183 rfl rfl ?_
          refine e_iconst dX12_single_184 ci_m1 ?_
          refine e_icmp_eq (tgt := 195) dX12_single_185 (by decide) (fun c79 => ?_) (fun c79 => ?_)
          · replace h := h.1 c79
            refine e_iconst dX12_single_195 ci_0 ?_
            exact e_zret dX12_single_196 rfl (nar_z (Or.inl rfl)) ⟨_, rfl, h⟩
          · replace h := h.2 c79
            refine e_aload_n dX12_single_188 rfl rfl ?_
            obtain ⟨Q80, hc81, h⟩ := h
            refine e_callV (M' := M_X12_ex) (as := []) (rest := []) dX12_single_189 ml_X12_210 mk_X12_ex (ob_11 hn) rfl rfl rfl (Nat.le_of_ble_eq_true rfl) (show 0 < d by omega) hc81 (Md_le (b := md_X12_single) (by decide)) (fun v σ82 hq hf => ?_)
            obtain ⟨v83, rfl, hq⟩ := hq
            replace h := h v83 σ82 hq hf
            refine e_if_ne (tgt := 197) dX12_single_192 (by decide) (fun c86 => ?_) (fun c86 => ?_)
            · replace h := h.1 c86
              refine e_aload_n dX12_single_197 rfl rfl ?_
              refine e_iload_n dX12_single_198 rfl rfl ?_
              refine e_iconst dX12_single_199 ci_0 ?_
              obtain ⟨Q87, hc88, h⟩ := h
              refine e_callV (M' := M_X12_puts) (as := [.int 7, .int 0]) (rest := []) dX12_single_200 ml_X12_202 mk_X12_puts (ob_11 hn) rfl rfl rfl (Nat.le_of_ble_eq_true rfl) (show 0 < d by omega) hc88 (Md_le (b := md_X12_single) (by decide)) (fun v σ89 hq hf => ?_)
              obtain ⟨rfl, hq⟩ := hq
              replace h := h σ89 hq hf
              refine e_iconst dX12_single_203 ci_1 ?_
              exact e_zret dX12_single_204 rfl (nar_z (Or.inr rfl)) ⟨_, rfl, h⟩
            · replace h := h.2 c86
              refine e_iconst dX12_single_195 ci_0 ?_
              exact e_zret dX12_single_196 rfl (nar_z (Or.inl rfl)) ⟨_, rfl, h⟩
      · replace h := h.2 c15
        refine e_iconst dX12_single_137 ci_0 ?_
        exact e_zret dX12_single_138 rfl (nar_z (Or.inl rfl)) ⟨_, rfl, h⟩
    · replace h := h.2 c8
      refine e_aload_n dX12_single_67 rfl rfl ?_
      refine e_getR (y := 60) dX12_single_68 fl_X12_82 (ob_11 hn) rfl rfl ?_
      refine e_aload_n dX12_single_71 rfl rfl ?_
      refine e_getI dX12_single_72 fl_X12_161 (ob_11 hn) rfl ?_
      refine e_bald dX12_single_75 (ar_60 hn) h.1 ?_
      replace h := h.2
      refine e_bipush dX12_single_76 cb_91 ?_
      refine e_icmp_ne (tgt := 130) dX12_single_78 (by decide) (fun c93 => ?_) (fun c93 => ?_)
      · replace h := h.1 c93
        refine e_aload_n dX12_single_130 rfl rfl ?_
        obtain ⟨Q94, hc95, h⟩ := h
        refine e_callV (M' := M_X12_ex) (as := []) (rest := []) dX12_single_131 ml_X12_210 mk_X12_ex (ob_11 hn) rfl rfl rfl (Nat.le_of_ble_eq_true rfl) (show 0 < d by omega) hc95 (Md_le (b := md_X12_single) (by decide)) (fun v σ96 hq hf => ?_)
        obtain ⟨v97, rfl, hq⟩ := hq
        replace h := h v97 σ96 hq hf
        refine e_if_ne (tgt := 139) dX12_single_134 (by decide) (fun c100 => ?_) (fun c100 => ?_)
        · replace h := h.1 c100
          refine e_aload_n dX12_single_139 rfl rfl ?_
          refine e_bipush dX12_single_140 cb_60 ?_
          obtain ⟨Q101, hc102, h⟩ := h
          refine e_callV (M' := M_X12_takesSign) (as := [.int 60]) (rest := []) dX12_single_142 ml_X12_213 mk_X12_takesSign (ob_11 hn) rfl rfl rfl (Nat.le_of_ble_eq_true rfl) (show 0 < d by omega) hc102 (Md_le (b := md_X12_single) (by decide)) (fun v σ103 hq hf => ?_)
          obtain ⟨v104, rfl, hq⟩ := hq
          replace h := h v104 σ103 hq hf
          refine e_if_eq (tgt := 153) dX12_single_145 (by decide) (fun c107 => ?_) (fun c107 => ?_)
          · replace h := h.1 c107
            refine e_aload_n dX12_single_153 rfl rfl ?_
            refine e_bipush dX12_single_154 cb_62 ?_
            obtain ⟨Q108, hc109, h⟩ := h
            refine e_callV (M' := M_X12_takesSign) (as := [.int 62]) (rest := []) dX12_single_156 ml_X12_213 mk_X12_takesSign (ob_11 hn) rfl rfl rfl (Nat.le_of_ble_eq_true rfl) (show 0 < d by omega) hc109 (Md_le (b := md_X12_single) (by decide)) (fun v σ110 hq hf => ?_)
            obtain ⟨v111, rfl, hq⟩ := hq
            replace h := h v111 σ110 hq hf
            refine e_if_eq (tgt := 167) dX12_single_159 (by decide) (fun c114 => ?_) (fun c114 => ?_)
            · replace h := h.1 c114
              refine e_aload_n dX12_single_167 rfl rfl ?_
              refine e_bipush dX12_single_168 cb_61 ?_
              obtain ⟨Q115, hc116, h⟩ := h
              refine e_callV (M' := M_X12_takesSign) (as := [.int 61]) (rest := []) dX12_single_170 ml_X12_213 mk_X12_takesSign (ob_11 hn) rfl rfl rfl (Nat.le_of_ble_eq_true rfl) (show 0 < d by omega) hc116 (Md_le (b := md_X12_single) (by decide)) (fun v σ117 hq hf => ?_)
              obtain ⟨v118, rfl, hq⟩ := hq
              replace h := h v118 σ117 hq hf
              refine e_if_eq (tgt := 181) dX12_single_173 (by decide) (fun c121 => ?_) (fun c121 => ?_)
              · replace h := h.1 c121
                refine e_iconst dX12_single_181 ci_m1 ?_
                refine e_istore_n dX12_single_182 rfl rfl (by decide) ?_
                refine e_iload_n dX12_single_183 rfl rfl ?_
                refine e_iconst dX12_single_184 ci_m1 ?_
                refine e_icmp_eq (tgt := 195) dX12_single_185 (by decide) (fun c122 => ?_) (fun c122 => ?_)
                · replace h := h.1 c122
                  refine e_iconst dX12_single_195 ci_0 ?_
                  exact e_zret dX12_single_196 rfl (nar_z (Or.inl rfl)) ⟨_, rfl, h⟩
                · replace h := h.2 c122
                  refine e_aload_n dX12_single_188 rfl rfl ?_
                  obtain ⟨Q123, hc124, h⟩ := h
                  refine e_callV (M' := M_X12_ex) (as := []) (rest := []) dX12_single_189 ml_X12_210 mk_X12_ex (ob_11 hn) rfl rfl rfl (Nat.le_of_ble_eq_true rfl) (show 0 < d by omega) hc124 (Md_le (b := md_X12_single) (by decide)) (fun v σ125 hq hf => ?_)
                  obtain ⟨v126, rfl, hq⟩ := hq
                  replace h := h v126 σ125 hq hf
                  refine e_if_ne (tgt := 197) dX12_single_192 (by decide) (fun c129 => ?_) (fun c129 => ?_)
                  · replace h := h.1 c129
                    refine e_aload_n dX12_single_197 rfl rfl ?_
                    refine e_iload_n dX12_single_198 rfl rfl ?_
                    refine e_iconst dX12_single_199 ci_0 ?_
                    obtain ⟨Q130, hc131, h⟩ := h
                    refine e_callV (M' := M_X12_puts) (as := [.int (-1), .int 0]) (rest := []) dX12_single_200 ml_X12_202 mk_X12_puts (ob_11 hn) rfl rfl rfl (Nat.le_of_ble_eq_true rfl) (show 0 < d by omega) hc131 (Md_le (b := md_X12_single) (by decide)) (fun v σ132 hq hf => ?_)
                    obtain ⟨rfl, hq⟩ := hq
                    replace h := h σ132 hq hf
                    refine e_iconst dX12_single_203 ci_1 ?_
                    exact e_zret dX12_single_204 rfl (nar_z (Or.inr rfl)) ⟨_, rfl, h⟩
                  · replace h := h.2 c129
                    refine e_iconst dX12_single_195 ci_0 ?_
                    exact e_zret dX12_single_196 rfl (nar_z (Or.inl rfl)) ⟨_, rfl, h⟩
              · replace h := h.2 c121
                refine e_bipush dX12_single_176 cb_9 ?_
                refine e_goto (tgt := 182) dX12_single_178 (by decide) ?_
                refine e_istore_n dX12_single_182 rfl rfl (by decide) ?_
                refine e_iload_n dX12_single_183 rfl rfl ?_
                refine e_iconst dX12_single_184 ci_m1 ?_
                refine e_icmp_eq (tgt := 195) dX12_single_185 (by decide) (fun c136 => ?_) (fun c136 => ?_)
                · replace h := h.1 c136
                  refine e_iconst dX12_single_195 ci_0 ?_
                  exact e_zret dX12_single_196 rfl (nar_z (Or.inl rfl)) ⟨_, rfl, h⟩
                · replace h := h.2 c136
                  refine e_aload_n dX12_single_188 rfl rfl ?_
                  obtain ⟨Q137, hc138, h⟩ := h
                  refine e_callV (M' := M_X12_ex) (as := []) (rest := []) dX12_single_189 ml_X12_210 mk_X12_ex (ob_11 hn) rfl rfl rfl (Nat.le_of_ble_eq_true rfl) (show 0 < d by omega) hc138 (Md_le (b := md_X12_single) (by decide)) (fun v σ139 hq hf => ?_)
                  obtain ⟨v140, rfl, hq⟩ := hq
                  replace h := h v140 σ139 hq hf
                  refine e_if_ne (tgt := 197) dX12_single_192 (by decide) (fun c143 => ?_) (fun c143 => ?_)
                  · replace h := h.1 c143
                    refine e_aload_n dX12_single_197 rfl rfl ?_
                    refine e_iload_n dX12_single_198 rfl rfl ?_
                    refine e_iconst dX12_single_199 ci_0 ?_
                    obtain ⟨Q144, hc145, h⟩ := h
                    refine e_callV (M' := M_X12_puts) (as := [.int 9, .int 0]) (rest := []) dX12_single_200 ml_X12_202 mk_X12_puts (ob_11 hn) rfl rfl rfl (Nat.le_of_ble_eq_true rfl) (show 0 < d by omega) hc145 (Md_le (b := md_X12_single) (by decide)) (fun v σ146 hq hf => ?_)
                    obtain ⟨rfl, hq⟩ := hq
                    replace h := h σ146 hq hf
                    refine e_iconst dX12_single_203 ci_1 ?_
                    exact e_zret dX12_single_204 rfl (nar_z (Or.inr rfl)) ⟨_, rfl, h⟩
                  · replace h := h.2 c143
                    refine e_iconst dX12_single_195 ci_0 ?_
                    exact e_zret dX12_single_196 rfl (nar_z (Or.inl rfl)) ⟨_, rfl, h⟩
            · replace h := h.2 c114
              refine e_bipush dX12_single_162 cb_8 ?_
              refine e_goto (tgt := 182) dX12_single_164 (by decide) ?_
              refine e_istore_n dX12_single_182 rfl rfl (by decide) ?_
              refine e_iload_n dX12_single_183 rfl rfl ?_
              refine e_iconst dX12_single_184 ci_m1 ?_
              refine e_icmp_eq (tgt := 195) dX12_single_185 (by decide) (fun c150 => ?_) (fun c150 => ?_)
              · replace h := h.1 c150
                refine e_iconst dX12_single_195 ci_0 ?_
                exact e_zret dX12_single_196 rfl (nar_z (Or.inl rfl)) ⟨_, rfl, h⟩
              · replace h := h.2 c150
                refine e_aload_n dX12_single_188 rfl rfl ?_
                obtain ⟨Q151, hc152, h⟩ := h
                refine e_callV (M' := M_X12_ex) (as := []) (rest := []) dX12_single_189 ml_X12_210 mk_X12_ex (ob_11 hn) rfl rfl rfl (Nat.le_of_ble_eq_true rfl) (show 0 < d by omega) hc152 (Md_le (b := md_X12_single) (by decide)) (fun v σ153 hq hf => ?_)
                obtain ⟨v154, rfl, hq⟩ := hq
                replace h := h v154 σ153 hq hf
                refine e_if_ne (tgt := 197) dX12_single_192 (by decide) (fun c157 => ?_) (fun c157 => ?_)
                · replace h := h.1 c157
                  refine e_aload_n dX12_single_197 rfl rfl ?_
                  refine e_iload_n dX12_single_198 rfl rfl ?_
                  refine e_iconst dX12_single_199 ci_0 ?_
                  obtain ⟨Q158, hc159, h⟩ := h
                  refine e_callV (M' := M_X12_puts) (as := [.int 8, .int 0]) (rest := []) dX12_single_200 ml_X12_202 mk_X12_puts (ob_11 hn) rfl rfl rfl (Nat.le_of_ble_eq_true rfl) (show 0 < d by omega) hc159 (Md_le (b := md_X12_single) (by decide)) (fun v σ160 hq hf => ?_)
                  obtain ⟨rfl, hq⟩ := hq
                  replace h := h σ160 hq hf
                  refine e_iconst dX12_single_203 ci_1 ?_
                  exact e_zret dX12_single_204 rfl (nar_z (Or.inr rfl)) ⟨_, rfl, h⟩
                · replace h := h.2 c157
                  refine e_iconst dX12_single_195 ci_0 ?_
                  exact e_zret dX12_single_196 rfl (nar_z (Or.inl rfl)) ⟨_, rfl, h⟩
          · replace h := h.2 c107
            refine e_bipush dX12_single_148 cb_7 ?_
            refine e_goto (tgt := 182) dX12_single_150 (by decide) ?_
            refine e_istore_n dX12_single_182 rfl rfl (by decide) ?_
            refine e_iload_n dX12_single_183 rfl rfl ?_
            refine e_iconst dX12_single_184 ci_m1 ?_
            refine e_icmp_eq (tgt := 195) dX12_single_185 (by decide) (fun c164 => ?_) (fun c164 => ?_)
            · replace h := h.1 c164
              refine e_iconst dX12_single_195 ci_0 ?_
              exact e_zret dX12_single_196 rfl (nar_z (Or.inl rfl)) ⟨_, rfl, h⟩
            · replace h := h.2 c164
              refine e_aload_n dX12_single_188 rfl rfl ?_
              obtain ⟨Q165, hc166, h⟩ := h
              refine e_callV (M' := M_X12_ex) (as := []) (rest := []) dX12_single_189 ml_X12_210 mk_X12_ex (ob_11 hn) rfl rfl rfl (Nat.le_of_ble_eq_true rfl) (show 0 < d by omega) hc166 (Md_le (b := md_X12_single) (by decide)) (fun v σ167 hq hf => ?_)
              obtain ⟨v168, rfl, hq⟩ := hq
              replace h := h v168 σ167 hq hf
              refine e_if_ne (tgt := 197) dX12_single_192 (by decide) (fun c171 => ?_) (fun c171 => ?_)
              · replace h := h.1 c171
                refine e_aload_n dX12_single_197 rfl rfl ?_
                refine e_iload_n dX12_single_198 rfl rfl ?_
                refine e_iconst dX12_single_199 ci_0 ?_
                obtain ⟨Q172, hc173, h⟩ := h
                refine e_callV (M' := M_X12_puts) (as := [.int 7, .int 0]) (rest := []) dX12_single_200 ml_X12_202 mk_X12_puts (ob_11 hn) rfl rfl rfl (Nat.le_of_ble_eq_true rfl) (show 0 < d by omega) hc173 (Md_le (b := md_X12_single) (by decide)) (fun v σ174 hq hf => ?_)
                obtain ⟨rfl, hq⟩ := hq
                replace h := h σ174 hq hf
                refine e_iconst dX12_single_203 ci_1 ?_
                exact e_zret dX12_single_204 rfl (nar_z (Or.inr rfl)) ⟨_, rfl, h⟩
              · replace h := h.2 c171
                refine e_iconst dX12_single_195 ci_0 ?_
                exact e_zret dX12_single_196 rfl (nar_z (Or.inl rfl)) ⟨_, rfl, h⟩
        · replace h := h.2 c100
          refine e_iconst dX12_single_137 ci_0 ?_
          exact e_zret dX12_single_138 rfl (nar_z (Or.inl rfl)) ⟨_, rfl, h⟩
      · replace h := h.2 c93
        refine e_aload_n dX12_single_81 rfl rfl ?_
        obtain ⟨Q178, hc179, h⟩ := h
        refine e_callV (M' := M_X12_opens) (as := []) (rest := []) dX12_single_82 ml_X12_206 mk_X12_opens (ob_11 hn) rfl rfl rfl (Nat.le_of_ble_eq_true rfl) (show 0 < d by omega) hc179 (Md_le (b := md_X12_single) (by decide)) (fun v σ180 hq hf => ?_)
        obtain ⟨v181, rfl, hq⟩ := hq
        replace h := h v181 σ180 hq hf
        refine e_if_ne (tgt := 90) dX12_single_85 (by decide) (fun c184 => ?_) (fun c184 => ?_)
        · replace h := h.1 c184
          refine e_aload_n dX12_single_90 rfl rfl ?_
          refine e_dup dX12_single_91 rfl ?_
          refine e_getI dX12_single_92 fl_X12_161 (ob_11 hn) rfl ?_
          refine e_iconst dX12_single_95 ci_1 ?_
          refine e_iadd dX12_single_96 ?_
          refine e_putI dX12_single_97 fl_X12_161 (ob_11 hn) rfl (fpI_12_16 _) (md_c (m := md_X12_single) (by decide)) ?_
          refine e_aload_n dX12_single_100 rfl rfl ?_
          obtain ⟨Q185, hc186, h⟩ := h
          refine e_callV (M' := M_X12_any) (as := []) (rest := []) dX12_single_101 ml_X12_237 mk_X12_any (ob_11 hn) rfl rfl rfl (Nat.le_of_ble_eq_true rfl) (show 0 < d by omega) hc186 (Md_le (b := md_X12_single) (by decide)) (fun v σ187 hq hf => ?_)
          obtain ⟨v188, rfl, hq⟩ := hq
          replace h := h v188 σ187 hq hf
          refine e_if_eq (tgt := 116) dX12_single_104 (by decide) (fun c191 => ?_) (fun c191 => ?_)
          · replace h := h.1 c191
            refine e_iconst dX12_single_116 ci_0 ?_
            exact e_zret dX12_single_117 rfl (nar_z (Or.inl rfl)) ⟨_, rfl, h⟩
          · replace h := h.2 c191
            refine e_aload_n dX12_single_107 rfl rfl ?_
            refine e_bipush dX12_single_108 cb_93 ?_
            obtain ⟨Q192, hc193, h⟩ := h
            refine e_callV (M' := M_X12_takesSign) (as := [.int 93]) (rest := []) dX12_single_110 ml_X12_213 mk_X12_takesSign (ob_11 hn) rfl rfl rfl (Nat.le_of_ble_eq_true rfl) (show 0 < d by omega) hc193 (Md_le (b := md_X12_single) (by decide)) (fun v σ194 hq hf => ?_)
            obtain ⟨v195, rfl, hq⟩ := hq
            replace h := h v195 σ194 hq hf
            refine e_if_ne (tgt := 118) dX12_single_113 (by decide) (fun c198 => ?_) (fun c198 => ?_)
            · replace h := h.1 c198
              refine e_aload_n dX12_single_118 rfl rfl ?_
              refine e_dup dX12_single_119 rfl ?_
              refine e_getI dX12_single_120 fl_X12_195 (ob_11 hn) rfl ?_
              refine e_iconst dX12_single_123 ci_1 ?_
              refine e_isub dX12_single_124 ?_
              refine e_putI dX12_single_125 fl_X12_195 (ob_11 hn) rfl (fpI_12_17 _) (md_c (m := md_X12_single) (by decide)) ?_
              refine e_iconst dX12_single_128 ci_1 ?_
              exact e_zret dX12_single_129 rfl (nar_z (Or.inr rfl)) ⟨_, rfl, h⟩
            · replace h := h.2 c198
              refine e_iconst dX12_single_116 ci_0 ?_
              exact e_zret dX12_single_117 rfl (nar_z (Or.inl rfl)) ⟨_, rfl, h⟩
        · replace h := h.2 c184
          refine e_iconst dX12_single_88 ci_0 ?_
          exact e_zret dX12_single_89 rfl (nar_z (Or.inl rfl)) ⟨_, rfl, h⟩
  · replace h := h.2 c7
    refine e_aload_n dX12_single_11 rfl rfl ?_
    obtain ⟨Q199, hc200, h⟩ := h
    refine e_callV (M' := M_X12_opens) (as := []) (rest := []) dX12_single_12 ml_X12_206 mk_X12_opens (ob_11 hn) rfl rfl rfl (Nat.le_of_ble_eq_true rfl) (show 0 < d by omega) hc200 (Md_le (b := md_X12_single) (by decide)) (fun v σ201 hq hf => ?_)
    obtain ⟨v202, rfl, hq⟩ := hq
    replace h := h v202 σ201 hq hf
    refine e_if_ne (tgt := 20) dX12_single_15 (by decide) (fun c205 => ?_) (fun c205 => ?_)
    · replace h := h.1 c205
      refine e_aload_n dX12_single_20 rfl rfl ?_
      refine e_aload_n dX12_single_21 rfl rfl ?_
      refine e_getI dX12_single_22 fl_X12_170 (ob_11 hn) rfl ?_
      refine e_putI dX12_single_25 fl_X12_161 (ob_11 hn) rfl (fpI_12_16 _) (md_c (m := md_X12_single) (by decide)) ?_
      refine e_aload_n dX12_single_28 rfl rfl ?_
      obtain ⟨Q206, hc207, h⟩ := h
      refine e_callV (M' := M_X12_single) (as := []) (rest := []) dX12_single_29 ml_X12_234 mk_X12_single (ob_11 hn) rfl rfl rfl (Nat.le_of_ble_eq_true rfl) (show 0 < d by omega) hc207 (Md_le (b := md_X12_single) (by decide)) (fun v σ208 hq hf => ?_)
      obtain ⟨v209, rfl, hq⟩ := hq
      replace h := h v209 σ208 hq hf
      refine e_if_ne (tgt := 37) dX12_single_32 (by decide) (fun c212 => ?_) (fun c212 => ?_)
      · replace h := h.1 c212
        refine e_aload_n dX12_single_37 rfl rfl ?_
        refine e_dup dX12_single_38 rfl ?_
        refine e_getI dX12_single_39 fl_X12_195 (ob_11 hn) rfl ?_
        refine e_iconst dX12_single_42 ci_1 ?_
        refine e_isub dX12_single_43 ?_
        refine e_putI dX12_single_44 fl_X12_195 (ob_11 hn) rfl (fpI_12_17 _) (md_c (m := md_X12_single) (by decide)) ?_
        refine e_aload_n dX12_single_47 rfl rfl ?_
        refine e_bipush dX12_single_48 cb_12 ?_
        refine e_iconst dX12_single_50 ci_0 ?_
        obtain ⟨Q213, hc214, h⟩ := h
        refine e_callV (M' := M_X12_puts) (as := [.int 12, .int 0]) (rest := []) dX12_single_51 ml_X12_202 mk_X12_puts (ob_11 hn) rfl rfl rfl (Nat.le_of_ble_eq_true rfl) (show 0 < d by omega) hc214 (Md_le (b := md_X12_single) (by decide)) (fun v σ215 hq hf => ?_)
        obtain ⟨rfl, hq⟩ := hq
        replace h := h σ215 hq hf
        refine e_iconst dX12_single_54 ci_1 ?_
        exact e_zret dX12_single_55 rfl (nar_z (Or.inr rfl)) ⟨_, rfl, h⟩
      · replace h := h.2 c212
        refine e_iconst dX12_single_35 ci_0 ?_
        exact e_zret dX12_single_36 rfl (nar_z (Or.inl rfl)) ⟨_, rfl, h⟩
    · replace h := h.2 c205
      refine e_iconst dX12_single_18 ci_0 ?_
      exact e_zret dX12_single_19 rfl (nar_z (Or.inl rfl)) ⟨_, rfl, h⟩
