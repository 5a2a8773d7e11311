abbrev K_X10_fillBids_10 (d n : Nat) (σ0 : St) (Q : St → Prop) (σ : St) (x1 : Int32) : Prop := Ev (d, n, md_X10_fillBids, σ0, liV Q) M_X10_fillBids 10 [some (.ref 8), some (.int x1), none, none] [] σ
abbrev K_X10_fillBids_36 (d n : Nat) (σ0 : St) (Q : St → Prop) (σ : St) (x1 : Int32) (x2 : Nat) (x3 : Int32) : Prop := Ev (d, n, md_X10_fillBids, σ0, liV Q) M_X10_fillBids 36 [some (.ref 8), some (.int x1), some (.ref (x2 + 2)), some (.int x3)] [] σ
theorem B_X10_fillBids_10 {d n : Nat} {σ0 : St} {Q : St → Prop}  {σ : St} {x1 : Int32} (hn : FIX ≤ n) (hd : 1 ≤ d) (h : (((gI σ 3 2) ≤ x1 → Q σ) ∧ (¬ (gI σ 3 2) ≤ x1 → vp_in x1 8 ∧ ∃ pp2, gR σ x1.toNatClampNeg = some pp2 ∧ IsP n pp2 ∧ K_X10_fillBids_36 d n σ0 Q σ x1 pp2 0))) : K_X10_fillBids_10 d n σ0 Q σ x1 := by
  refine e_iload_n dX10_fillBids_10 rfl rfl ?_
  refine e_aload_n dX10_fillBids_11 rfl rfl ?_
  refine e_getR (y := 3) dX10_fillBids_12 fl_X10_31 (ob_8 hn) rfl rfl ?_
  refine e_getI dX10_fillBids_15 fl_X10_80 (ob_3 hn) rfl ?_
  refine e_icmp_ge (tgt := 79) dX10_fillBids_18 (by decide) (fun c1 => ?_) (fun c1 => ?_)
  · replace h := h.1 c1
    exact e_vret dX10_fillBids_79 rfl ⟨rfl, h⟩
  · replace h := h.2 c1
    refine e_aload_n dX10_fillBids_21 rfl rfl ?_
    refine e_getR (y := 3) dX10_fillBids_22 fl_X10_31 (ob_8 hn) rfl rfl ?_
    refine e_getR (y := 18) dX10_fillBids_25 fl_X10_98 (ob_3 hn) rfl rfl ?_
    refine e_iload_n dX10_fillBids_28 rfl rfl ?_
    obtain ⟨hi, pp2, hg, hp_pp2, h⟩ := h
    refine e_aldP dX10_fillBids_29 hn hi hg ?_
    refine e_getR (y := pp2 + 2) dX10_fillBids_30 fl_X10_139 (Ob.p hp_pp2) rfl (rf_p hp_pp2 (by decide)) ?_
    refine e_astore_n dX10_fillBids_33 rfl rfl (by decide) ?_
    refine e_iconst dX10_fillBids_34 ci_0 ?_
    refine e_istore_n dX10_fillBids_35 rfl rfl (by decide) ?_
    exact h
theorem B_X10_fillBids_36 {d n : Nat} {σ0 : St} {Q : St → Prop}  {σ : St} {x1 : Int32} {x2 : Nat} {x3 : Int32} (hn : FIX ≤ n) (hd : 1 ≤ d) (hp_x2 : IsP n x2) (h : (((gI σ 1 0) ≤ x3 → K_X10_fillBids_10 d n σ0 Q σ (x1 + 1)) ∧ (¬ (gI σ 1 0) ≤ x3 → vp_in ((1 : Int32) <<< (x3 &&& 31)) 1024 ∧ vp_in ((x1 * 10) + x3) 80 ∧ K_X10_fillBids_36 d n σ0 Q (sI σ 38 ((x1 * 10) + x3).toNatClampNeg ((gI σ (x2 + 2) ((1 : Int32) <<< (x3 &&& 31)).toNatClampNeg) - (gI σ (x2 + 2) 0))) x1 x2 (x3 + 1)))) : K_X10_fillBids_36 d n σ0 Q σ x1 x2 x3 := by
  refine e_iload_n dX10_fillBids_36 rfl rfl ?_
  refine e_aload_n dX10_fillBids_37 rfl rfl ?_
  refine e_getR (y := 1) dX10_fillBids_38 fl_X10_27 (ob_8 hn) rfl rfl ?_
  refine e_getI dX10_fillBids_41 fl_X10_71 (ob_1 hn) rfl ?_
  refine e_icmp_ge (tgt := 73) dX10_fillBids_44 (by decide) (fun c1 => ?_) (fun c1 => ?_)
  · replace h := h.1 c1
    refine e_iinc dX10_fillBids_73 rfl (ii_1 _) rfl (by decide) ?_
    refine e_goto (tgt := 10) dX10_fillBids_76 (by decide) ?_
    refine e_kill [true, true, false, false] ?_
    exact h
  · replace h := h.2 c1
    refine e_aload_n dX10_fillBids_47 rfl rfl ?_
    refine e_getR (y := 38) dX10_fillBids_48 fl_X10_24 (ob_8 hn) rfl rfl ?_
    refine e_iload_n dX10_fillBids_51 rfl rfl ?_
    refine e_bipush dX10_fillBids_52 cb_10 ?_
    refine e_imul dX10_fillBids_54 ?_
    refine e_iload_n dX10_fillBids_55 rfl rfl ?_
    refine e_iadd dX10_fillBids_56 ?_
    refine e_aload_n dX10_fillBids_57 rfl rfl ?_
    refine e_iconst dX10_fillBids_58 ci_1 ?_
    refine e_iload_n dX10_fillBids_59 rfl rfl ?_
    refine e_ishl dX10_fillBids_60 ?_
    refine e_iald dX10_fillBids_61 (Ar.p2 hp_x2) h.1 ?_
    replace h := h.2
    refine e_aload_n dX10_fillBids_62 rfl rfl ?_
    refine e_iconst dX10_fillBids_63 ci_0 ?_
    refine e_iald dX10_fillBids_64 (Ar.p2 hp_x2) (vp_lit (by decide) (by decide)) ?_
    refine e_isub dX10_fillBids_65 ?_
    refine e_iast dX10_fillBids_66 (ar_38 hn) h.1 (md_r (m := md_X10_fillBids) (by decide)) ?_
    replace h := h.2
    refine e_iinc dX10_fillBids_67 rfl (ii_1 _) rfl (by decide) ?_
    refine e_goto (tgt := 36) dX10_fillBids_70 (by decide) ?_
    exact h
theorem S_X10_fillBids {d n : Nat} {Q : St → Prop} {σ : St}  (hn : FIX ≤ n) (hd : 1 ≤ d) (h : ∃ Q1 : St → Prop, Cn (d - 1) n M_J7_fill_53178 (md_J7_fill_53178 38) [.ref 38, .int 0] σ (liV Q1) ∧ ∀ (σ3 : St), Q1 σ3 → Fr (md_J7_fill_53178 38) σ σ3 → K_X10_fillBids_10 d n σ Q σ3 0) : Cn d n M_X10_fillBids md_X10_fillBids [.ref 8] σ (liV Q) := by
  refine Cn.of (k0 := 3) (by decide) rfl ?_
  show Ev (d, n, md_X10_fillBids, σ, liV Q) M_X10_fillBids 0 [some (.ref 8), none, none, none] [] σ
  refine e_aload_n dX10_fillBids_0 rfl rfl ?_
  refine e_getR (y := 38) dX10_fillBids_1 fl_X10_24 (ob_8 hn) rfl rfl ?_
  refine e_iconst dX10_fillBids_4 ci_0 ?_
  obtain ⟨Q1, hc2, h⟩ := h
  refine e_callS (M' := M_J7_fill_53178) (as := [.ref 38, .int 0]) (rest := []) dX10_fillBids_5 ml_X10_44 mk_J7_fill_53178 rfl (Nat.le_of_ble_eq_true rfl) (show 0 < d by omega) hc2 (Md_le (b := md_X10_fillBids) (by decide)) (fun v σ3 hq hf => ?_)
  obtain ⟨rfl, hq⟩ := hq
  replace h := h σ3 hq hf
  refine e_iconst dX10_fillBids_8 ci_0 ?_
  refine e_istore_n dX10_fillBids_9 rfl rfl (by decide) ?_
  exact h
abbrev K_X10_take_12 (d n : Nat) (σ0 : St) (Q : St → Prop) (σ : St) (x2 : Int32) (x3 : Int32) : Prop := Ev (d, n, md_X10_take, σ0, liV Q) M_X10_take 12 [some (.ref 8), none, some (.int x2), some (.int x3)] [] σ
theorem B_X10_take_12 {d n : Nat} {σ0 : St} {Q : St → Prop}  {σ : St} {x2 : Int32} {x3 : Int32} (hn : FIX ≤ n) (hd : 1 ≤ d) (h : (((gI σ 1 0) ≤ x3 → Q σ) ∧ (¬ (gI σ 1 0) ≤ x3 → (((fn_X11_contains x2 x3) = 0 → K_X10_take_12 d n σ0 Q σ x2 (x3 + 1)) ∧ (¬ (fn_X11_contains x2 x3) = 0 → vp_in x3 10 ∧ vp_in x3 10 ∧ K_X10_take_12 d n σ0 Q (sI σ 35 x3.toNatClampNeg ((gI σ 35 x3.toNatClampNeg) - 1)) x2 (x3 + 1)))))) : K_X10_take_12 d n σ0 Q σ x2 x3 := by
  refine e_iload_n dX10_take_12 rfl rfl ?_
  refine e_aload_n dX10_take_13 rfl rfl ?_
  refine e_getR (y := 1) dX10_take_14 fl_X10_27 (ob_8 hn) rfl rfl ?_
  refine e_getI dX10_take_17 fl_X10_71 (ob_1 hn) rfl ?_
  refine e_icmp_ge (tgt := 47) dX10_take_20 (by decide) (fun c1 => ?_) (fun c1 => ?_)
  · replace h := h.1 c1
    exact e_vret dX10_take_47 rfl ⟨rfl, h⟩
  · replace h := h.2 c1
    refine e_iload_n dX10_take_23 rfl rfl ?_
    refine e_iload_n dX10_take_24 rfl rfl ?_
    refine e_callN (M' := M_X11_contains) (as := [.int x2, .int x3]) (rest := []) dX10_take_25 nl_X10_81 mk_X11_contains rfl (Nat.le_of_ble_eq_true rfl) (show 0 < d by omega) (sp_X11_contains) Md_nil (fun v σv hq hf => ?_)
    obtain ⟨v, rfl, rfl, rfl⟩ := hq
    refine e_if_eq (tgt := 41) dX10_take_28 (by decide) (fun c2 => ?_) (fun c2 => ?_)
    · replace h := h.1 c2
      refine e_iinc dX10_take_41 rfl (ii_1 _) rfl (by decide) ?_
      refine e_goto (tgt := 12) dX10_take_44 (by decide) ?_
      exact h
    · replace h := h.2 c2
      refine e_aload_n dX10_take_31 rfl rfl ?_
      refine e_getR (y := 35) dX10_take_32 fl_X10_15 (ob_8 hn) rfl rfl ?_
      refine e_iload_n dX10_take_35 rfl rfl ?_
      refine e_dup2 dX10_take_36 rfl rfl ?_
      refine e_iald dX10_take_37 (ar_35 hn) h.1 ?_
      replace h := h.2
      refine e_iconst dX10_take_38 ci_1 ?_
      refine e_isub dX10_take_39 ?_
      refine e_iast dX10_take_40 (ar_35 hn) h.1 (md_r (m := md_X10_take) (by decide)) ?_
      replace h := h.2
      refine e_iinc dX10_take_41 rfl (ii_1 _) rfl (by decide) ?_
      refine e_goto (tgt := 12) dX10_take_44 (by decide) ?_
      exact h
theorem S_X10_take {d n : Nat} {Q : St → Prop} {σ : St} {a1 : Int32} {a2 : Int32} (hn : FIX ≤ n) (hd : 1 ≤ d) (h : vp_in a1 8 ∧ vp_in a1 8 ∧ K_X10_take_12 d n σ Q (sI σ 34 a1.toNatClampNeg ((gI σ 34 a1.toNatClampNeg) ||| a2)) a2 0) : Cn d n M_X10_take md_X10_take [.ref 8, .int a1, .int a2] σ (liV Q) := by
  refine Cn.of (k0 := 1) (by decide) rfl ?_
  show Ev (d, n, md_X10_take, σ, liV Q) M_X10_take 0 [some (.ref 8), some (.int a1), some (.int a2), none] [] σ
  refine e_aload_n dX10_take_0 rfl rfl ?_
  refine e_getR (y := 34) dX10_take_1 fl_X10_9 (ob_8 hn) rfl rfl ?_
  refine e_iload_n dX10_take_4 rfl rfl ?_
  refine e_dup2 dX10_take_5 rfl rfl ?_
  refine e_iald dX10_take_6 (ar_34 hn) h.1 ?_
  replace h := h.2
  refine e_iload_n dX10_take_7 rfl rfl ?_
  refine e_ior dX10_take_8 ?_
  refine e_iast dX10_take_9 (ar_34 hn) h.1 (md_r (m := md_X10_take) (by decide)) ?_
  replace h := h.2
  refine e_iconst dX10_take_10 ci_0 ?_
  refine e_istore_n dX10_take_11 rfl rfl (by decide) ?_
  refine e_kill [true, false, true, true] ?_
  exact h
abbrev K_X10_byBids_6 (d n : Nat) (σ0 : St) (Q : St → Prop) (σ : St) (x1 : Int32) : Prop := Ev (d, n, md_X10_byBids, σ0, liV Q) M_X10_byBids 6 [some (.ref 8), some (.int x1), none, none, none] [] σ
abbrev K_X10_byBids_16 (d n : Nat) (σ0 : St) (Q : St → Prop) (σ : St) (x1 : Int32) (x2 : Int32) (x3 : Int32) : Prop := Ev (d, n, md_X10_byBids, σ0, liV Q) M_X10_byBids 16 [some (.ref 8), some (.int x1), some (.int x2), some (.int x3), none] [] σ
theorem B_X10_byBids_6 {d n : Nat} {σ0 : St} {Q : St → Prop}  {σ : St} {x1 : Int32} (hn : FIX ≤ n) (hd : 1 ≤ d) (h : (((80 : Int32) ≤ x1 → Q σ) ∧ (¬ (80 : Int32) ≤ x1 → K_X10_byBids_16 d n σ0 Q σ x1 0 1))) : K_X10_byBids_6 d n σ0 Q σ x1 := by
  refine e_iload_n dX10_byBids_6 rfl rfl ?_
  refine e_bipush dX10_byBids_7 cb_80 ?_
  refine e_icmp_ge (tgt := 98) dX10_byBids_9 (by decide) (fun c1 => ?_) (fun c1 => ?_)
  · replace h := h.1 c1
    exact e_vret dX10_byBids_98 rfl ⟨rfl, h⟩
  · replace h := h.2 c1
    refine e_iconst dX10_byBids_12 ci_0 ?_
    refine e_istore_n dX10_byBids_13 rfl rfl (by decide) ?_
    refine e_iconst dX10_byBids_14 ci_1 ?_
    refine e_istore_n dX10_byBids_15 rfl rfl (by decide) ?_
    exact h
theorem B_X10_byBids_16 {d n : Nat} {σ0 : St} {Q : St → Prop}  {σ : St} {x1 : Int32} {x2 : Int32} {x3 : Int32} (hn : FIX ≤ n) (hd : 1 ≤ d) (h : (((80 : Int32) ≤ x3 → vp_in x2 80 ∧ (((0 : Int32) < (gI σ 38 x2.toNatClampNeg) → vp_in x2 80 ∧ ∃ Q3 : Int32 → St → Prop, Cn (d - 1) n M_X10_canTake md_X10_canTake [.ref 8, .int (x2 / 10), .int (x2 - x2 / 10 * 10)] (sI σ 38 x2.toNatClampNeg 0) (liI Q3) ∧ ∀ (v6 : Int32) (σ5 : St), Q3 v6 σ5 → Fr md_X10_canTake (sI σ 38 x2.toNatClampNeg 0) σ5 → ((v6 = 0 → K_X10_byBids_6 d n σ0 Q σ5 (x1 + 1)) ∧ (¬ v6 = 0 → ∃ Q10 : St → Prop, Cn (d - 1) n M_X10_take md_X10_take [.ref 8, .int (x2 / 10), .int ((1 : Int32) <<< ((x2 - x2 / 10 * 10) &&& 31))] σ5 (liV Q10) ∧ ∀ (σ12 : St), Q10 σ12 → Fr md_X10_take σ5 σ12 → K_X10_byBids_6 d n σ0 Q σ12 (x1 + 1)))) ∧ (¬ (0 : Int32) < (gI σ 38 x2.toNatClampNeg) → Q σ))) ∧ (¬ (80 : Int32) ≤ x3 → vp_in x3 80 ∧ vp_in x2 80 ∧ (((gI σ 38 x3.toNatClampNeg) ≤ (gI σ 38 x2.toNatClampNeg) → K_X10_byBids_16 d n σ0 Q σ x1 x2 (x3 + 1)) ∧ (¬ (gI σ 38 x3.toNatClampNeg) ≤ (gI σ 38 x2.toNatClampNeg) → K_X10_byBids_16 d n σ0 Q σ x1 x3 (x3 + 1)))))) : K_X10_byBids_16 d n σ0 Q σ x1 x2 x3 := by
  refine e_iload_n dX10_byBids_16 rfl rfl ?_
  refine e_bipush dX10_byBids_17 cb_80 ?_
  refine e_icmp_ge (tgt := 45) dX10_byBids_19 (by decide) (fun c1 => ?_) (fun c1 => ?_)
  · replace h := h.1 c1
    refine e_aload_n dX10_byBids_45 rfl rfl ?_
    refine e_getR (y := 38) dX10_byBids_46 fl_X10_24 (ob_8 hn) rfl rfl ?_
    refine e_iload_n dX10_byBids_49 rfl rfl ?_
    refine e_iald dX10_byBids_50 (ar_38 hn) h.1 ?_
    replace h := h.2
    refine e_if_gt (tgt := 55) dX10_byBids_51 (by decide) (fun c2 => ?_) (fun c2 => ?_)
    · replace h := h.1 c2
      refine e_aload_n dX10_byBids_55 rfl rfl ?_
      refine e_getR (y := 38) dX10_byBids_56 fl_X10_24 (ob_8 hn) rfl rfl ?_
      refine e_iload_n dX10_byBids_59 rfl rfl ?_
      refine e_iconst dX10_byBids_60 ci_0 ?_
      refine e_iast dX10_byBids_61 (ar_38 hn) h.1 (md_r (m := md_X10_byBids) (by decide)) ?_
      replace h := h.2
      refine e_iload_n dX10_byBids_62 rfl rfl ?_
      refine e_bipush dX10_byBids_63 cb_10 ?_
      refine e_idiv dX10_byBids_65 (by decide) ?_
      refine e_istore_n dX10_byBids_66 rfl rfl (by decide) ?_
      refine e_iload_n dX10_byBids_67 rfl rfl ?_
      refine e_bipush dX10_byBids_68 cb_10 ?_
      refine e_irem dX10_byBids_70 (by decide) ?_
      refine e_istore dX10_byBids_71 rfl (by decide) ?_
      refine e_aload_n dX10_byBids_73 rfl rfl ?_
      refine e_iload_n dX10_byBids_74 rfl rfl ?_
      refine e_iload dX10_byBids_75 rfl ?_
      obtain ⟨Q3, hc4, h⟩ := h
      refine e_callV (M' := M_X10_canTake) (as := [.int (x2 / 10), .int (x2 - x2 / 10 * 10)]) (rest := []) dX10_byBids_77 ml_X10_142 mk_X10_canTake (ob_8 hn) rfl rfl rfl (Nat.le_of_ble_eq_true rfl) (show 0 < d by omega) hc4 (Md_le (b := md_X10_byBids) (by decide)) (fun v σ5 hq hf => ?_)
      obtain ⟨v6, rfl, hq⟩ := hq
      replace h := h v6 σ5 hq hf
      refine e_if_eq (tgt := 92) dX10_byBids_80 (by decide) (fun c9 => ?_) (fun c9 => ?_)
      · replace h := h.1 c9
        refine e_iinc dX10_byBids_92 rfl (ii_1 _) rfl (by decide) ?_
        refine e_goto (tgt := 6) dX10_byBids_95 (by decide) ?_
        refine e_kill [true, true, false, false, false] ?_
        exact h
      · replace h := h.2 c9
        refine e_aload_n dX10_byBids_83 rfl rfl ?_
        refine e_iload_n dX10_byBids_84 rfl rfl ?_
        refine e_iconst dX10_byBids_85 ci_1 ?_
        refine e_iload dX10_byBids_86 rfl ?_
        refine e_ishl dX10_byBids_88 ?_
        obtain ⟨Q10, hc11, h⟩ := h
        refine e_callV (M' := M_X10_take) (as := [.int (x2 / 10), .int ((1 : Int32) <<< ((x2 - x2 / 10 * 10) &&& 31))]) (rest := []) dX10_byBids_89 ml_X10_145 mk_X10_take (ob_8 hn) rfl rfl rfl (Nat.le_of_ble_eq_true rfl) (show 0 < d by omega) hc11 (Md_le (b := md_X10_byBids) (by decide)) (fun v σ12 hq hf => ?_)
        obtain ⟨rfl, hq⟩ := hq
        replace h := h σ12 hq hf
        refine e_iinc dX10_byBids_92 rfl (ii_1 _) rfl (by decide) ?_
        refine e_goto (tgt := 6) dX10_byBids_95 (by decide) ?_
        refine e_kill [true, true, false, false, false] ?_
        exact h
    · replace h := h.2 c2
      exact e_vret dX10_byBids_54 rfl ⟨rfl, h⟩
  · replace h := h.2 c1
    refine e_aload_n dX10_byBids_22 rfl rfl ?_
    refine e_getR (y := 38) dX10_byBids_23 fl_X10_24 (ob_8 hn) rfl rfl ?_
    refine e_iload_n dX10_byBids_26 rfl rfl ?_
    refine e_iald dX10_byBids_27 (ar_38 hn) h.1 ?_
    replace h := h.2
    refine e_aload_n dX10_byBids_28 rfl rfl ?_
    refine e_getR (y := 38) dX10_byBids_29 fl_X10_24 (ob_8 hn) rfl rfl ?_
    refine e_iload_n dX10_byBids_32 rfl rfl ?_
    refine e_iald dX10_byBids_33 (ar_38 hn) h.1 ?_
    replace h := h.2
    refine e_icmp_le (tgt := 39) dX10_byBids_34 (by decide) (fun c16 => ?_) (fun c16 => ?_)
    · replace h := h.1 c16
      refine e_iinc dX10_byBids_39 rfl (ii_1 _) rfl (by decide) ?_
      refine e_goto (tgt := 16) dX10_byBids_42 (by decide) ?_
      exact h
    · replace h := h.2 c16
      refine e_iload_n dX10_byBids_37 rfl rfl ?_
      refine e_istore_n dX10_byBids_38 rfl rfl (by decide) ?_
      refine e_iinc dX10_byBids_39 rfl (ii_1 _) rfl (by decide) ?_
      refine e_goto (tgt := 16) dX10_byBids_42 (by decide) ?_
      exact h
theorem S_X10_byBids {d n : Nat} {Q : St → Prop} {σ : St}  (hn : FIX ≤ n) (hd : 1 ≤ d) (h : ∃ Q1 : St → Prop, Cn (d - 1) n M_X10_fillBids md_X10_fillBids [.ref 8] σ (liV Q1) ∧ ∀ (σ3 : St), Q1 σ3 → Fr md_X10_fillBids σ σ3 → K_X10_byBids_6 d n σ Q σ3 0) : Cn d n M_X10_byBids md_X10_byBids [.ref 8] σ (liV Q) := by
  refine Cn.of (k0 := 4) (by decide) rfl ?_
  show Ev (d, n, md_X10_byBids, σ, liV Q) M_X10_byBids 0 [some (.ref 8), none, none, none, none] [] σ
  refine e_aload_n dX10_byBids_0 rfl rfl ?_
  obtain ⟨Q1, hc2, h⟩ := h
  refine e_callV (M' := M_X10_fillBids) (as := []) (rest := []) dX10_byBids_1 ml_X10_153 mk_X10_fillBids (ob_8 hn) rfl rfl rfl (Nat.le_of_ble_eq_true rfl) (show 0 < d by omega) hc2 (Md_le (b := md_X10_byBids) (by decide)) (fun v σ3 hq hf => ?_)
  obtain ⟨rfl, hq⟩ := hq
  replace h := h σ3 hq hf
  refine e_iconst dX10_byBids_4 ci_0 ?_
  refine e_istore_n dX10_byBids_5 rfl rfl (by decide) ?_
  exact h
abbrev K_X10_countSpare_2 (d n : Nat) (σ0 : St) (Q : St → Prop) (σ : St) (x1 : Int32) : Prop := Ev (d, n, md_X10_countSpare, σ0, liV Q) M_X10_countSpare 2 [some (.ref 8), some (.int x1), none] [] σ
abbrev K_X10_countSpare_30 (d n : Nat) (σ0 : St) (Q : St → Prop) (σ : St) (x1 : Int32) (x2 : Int32) : Prop := Ev (d, n, md_X10_countSpare, σ0, liV Q) M_X10_countSpare 30 [some (.ref 8), some (.int x1), some (.int x2)] [] σ
theorem B_X10_countSpare_2 {d n : Nat} {σ0 : St} {Q : St → Prop}  {σ : St} {x1 : Int32} (hn : FIX ≤ n) (hd : 1 ≤ d) (h : (((gI σ 1 0) ≤ x1 → Q σ) ∧ (¬ (gI σ 1 0) ≤ x1 → vp_in x1 10 ∧ vp_in x1 10 ∧ K_X10_countSpare_30 d n σ0 Q (sI σ 35 x1.toNatClampNeg (gI σ 12 x1.toNatClampNeg)) x1 0))) : K_X10_countSpare_2 d n σ0 Q σ x1 := by
  refine e_iload_n dX10_countSpare_2 rfl rfl ?_
  refine e_aload_n dX10_countSpare_3 rfl rfl ?_
  refine e_getR (y := 1) dX10_countSpare_4 fl_X10_27 (ob_8 hn) rfl rfl ?_
  refine e_getI dX10_countSpare_7 fl_X10_71 (ob_1 hn) rfl ?_
  refine e_icmp_ge (tgt := 76) dX10_countSpare_10 (by decide) (fun c1 => ?_) (fun c1 => ?_)
  · replace h := h.1 c1
    exact e_vret dX10_countSpare_76 rfl ⟨rfl, h⟩
  · replace h := h.2 c1
    refine e_aload_n dX10_countSpare_13 rfl rfl ?_
    refine e_getR (y := 35) dX10_countSpare_14 fl_X10_15 (ob_8 hn) rfl rfl ?_
    refine e_iload_n dX10_countSpare_17 rfl rfl ?_
    refine e_aload_n dX10_countSpare_18 rfl rfl ?_
    refine e_getR (y := 1) dX10_countSpare_19 fl_X10_27 (ob_8 hn) rfl rfl ?_
    refine e_getR (y := 12) dX10_countSpare_22 fl_X10_77 (ob_1 hn) rfl rfl ?_
    refine e_iload_n dX10_countSpare_25 rfl rfl ?_
    refine e_iald dX10_countSpare_26 (ar_12 hn) h.1 ?_
    replace h := h.2
    refine e_iast dX10_countSpare_27 (ar_35 hn) h.1 (md_r (m := md_X10_countSpare) (by decide)) ?_
    replace h := h.2
    refine e_iconst dX10_countSpare_28 ci_0 ?_
    refine e_istore_n dX10_countSpare_29 rfl rfl (by decide) ?_
    exact h
theorem B_X10_countSpare_30 {d n : Nat} {σ0 : St} {Q : St → Prop}  {σ : St} {x1 : Int32} {x2 : Int32} (hn : FIX ≤ n) (hd : 1 ≤ d) (h : (((gI σ 3 2) ≤ x2 → K_X10_countSpare_2 d n σ0 Q σ (x1 + 1)) ∧ (¬ (gI σ 3 2) ≤ x2 → vp_in x2 8 ∧ (((fn_X11_contains (gI σ 34 x2.toNatClampNeg) x1) = 0 → K_X10_countSpare_30 d n σ0 Q σ x1 (x2 + 1)) ∧ (¬ (fn_X11_contains (gI σ 34 x2.toNatClampNeg) x1) = 0 → vp_in x1 10 ∧ vp_in x1 10 ∧ K_X10_countSpare_30 d n σ0 Q (sI σ 35 x1.toNatClampNeg ((gI σ 35 x1.toNatClampNeg) - 1)) x1 (x2 + 1)))))) : K_X10_countSpare_30 d n σ0 Q σ x1 x2 := by
  refine e_iload_n dX10_countSpare_30 rfl rfl ?_
  refine e_aload_n dX10_countSpare_31 rfl rfl ?_
  refine e_getR (y := 3) dX10_countSpare_32 fl_X10_31 (ob_8 hn) rfl rfl ?_
  refine e_getI dX10_countSpare_35 fl_X10_80 (ob_3 hn) rfl ?_
  refine e_icmp_ge (tgt := 70) dX10_countSpare_38 (by decide) (fun c1 => ?_) (fun c1 => ?_)
  · replace h := h.1 c1
    refine e_iinc dX10_countSpare_70 rfl (ii_1 _) rfl (by decide) ?_
    refine e_goto (tgt := 2) dX10_countSpare_73 (by decide) ?_
    refine e_kill [true, true, false] ?_
    exact h
  · replace h := h.2 c1
    refine e_aload_n dX10_countSpare_41 rfl rfl ?_
    refine e_getR (y := 34) dX10_countSpare_42 fl_X10_9 (ob_8 hn) rfl rfl ?_
    refine e_iload_n dX10_countSpare_45 rfl rfl ?_
    refine e_iald dX10_countSpare_46 (ar_34 hn) h.1 ?_
    replace h := h.2
    refine e_iload_n dX10_countSpare_47 rfl rfl ?_
    refine e_callN (M' := M_X11_contains) (as := [.int (gI σ 34 x2.toNatClampNeg), .int x1]) (rest := []) dX10_countSpare_48 nl_X10_81 mk_X11_contains rfl (Nat.le_of_ble_eq_true rfl) (show 0 < d by omega) (sp_X11_contains) Md_nil (fun v σv hq hf => ?_)
    obtain ⟨v, rfl, rfl, rfl⟩ := hq
    refine e_if_eq (tgt := 64) dX10_countSpare_51 (by decide) (fun c2 => ?_) (fun c2 => ?_)
    · replace h := h.1 c2
      refine e_iinc dX10_countSpare_64 rfl (ii_1 _) rfl (by decide) ?_
      refine e_goto (tgt := 30) dX10_countSpare_67 (by decide) ?_
      exact h
    · replace h := h.2 c2
      refine e_aload_n dX10_countSpare_54 rfl rfl ?_
      refine e_getR (y := 35) dX10_countSpare_55 fl_X10_15 (ob_8 hn) rfl rfl ?_
      refine e_iload_n dX10_countSpare_58 rfl rfl ?_
      refine e_dup2 dX10_countSpare_59 rfl rfl ?_
      refine e_iald dX10_countSpare_60 (ar_35 hn) h.1 ?_
      replace h := h.2
      refine e_iconst dX10_countSpare_61 ci_1 ?_
      refine e_isub dX10_countSpare_62 ?_
      refine e_iast dX10_countSpare_63 (ar_35 hn) h.1 (md_r (m := md_X10_countSpare) (by decide)) ?_
      replace h := h.2
      refine e_iinc dX10_countSpare_64 rfl (ii_1 _) rfl (by decide) ?_
      refine e_goto (tgt := 30) dX10_countSpare_67 (by decide) ?_
      exact h
theorem S_X10_countSpare {d n : Nat} {Q : St → Prop} {σ : St}  (hn : FIX ≤ n) (hd : 1 ≤ d) (h : K_X10_countSpare_2 d n σ Q σ 0) : Cn d n M_X10_countSpare md_X10_countSpare [.ref 8] σ (liV Q) := by
  refine Cn.of (k0 := 2) (by decide) rfl ?_
  show Ev (d, n, md_X10_countSpare, σ, liV Q) M_X10_countSpare 0 [some (.ref 8), none, none] [] σ
  refine e_iconst dX10_countSpare_0 ci_0 ?_
  refine e_istore_n dX10_countSpare_1 rfl rfl (by decide) ?_
  exact h
abbrev K_X10_byHand_2 (d n : Nat) (σ0 : St) (Q : St → Prop) (σ : St) (x1 : Int32) : Prop := Ev (d, n, md_X10_byHand, σ0, liV Q) M_X10_byHand 2 [some (.ref 8), some (.int x1)] [] σ
theorem B_X10_byHand_2 {d n : Nat} {σ0 : St} {Q : St → Prop}  {σ : St} {x1 : Int32} (hn : FIX ≤ n) (hd : 1 ≤ d) (h : (((gI σ 3 2) ≤ x1 → ∃ Q2 : St → Prop, Cn (d - 1) n M_X10_countSpare md_X10_countSpare [.ref 8] σ (liV Q2) ∧ ∀ (σ4 : St), Q2 σ4 → Fr md_X10_countSpare σ σ4 → Q σ4) ∧ (¬ (gI σ 3 2) ≤ x1 → vp_in x1 8 ∧ ∃ pp8, gR σ x1.toNatClampNeg = some pp8 ∧ IsP n pp8 ∧ vp_in x1 8 ∧ K_X10_byHand_2 d n σ0 Q (sI σ 34 x1.toNatClampNeg (gI σ pp8 2)) (x1 + 1)))) : K_X10_byHand_2 d n σ0 Q σ x1 := by
  refine e_iload_n dX10_byHand_2 rfl rfl ?_
  refine e_aload_n dX10_byHand_3 rfl rfl ?_
  refine e_getR (y := 3) dX10_byHand_4 fl_X10_31 (ob_8 hn) rfl rfl ?_
  refine e_getI dX10_byHand_7 fl_X10_80 (ob_3 hn) rfl ?_
  refine e_icmp_ge (tgt := 37) dX10_byHand_10 (by decide) (fun c1 => ?_) (fun c1 => ?_)
  · replace h := h.1 c1
    refine e_aload_n dX10_byHand_37 rfl rfl ?_
    obtain ⟨Q2, hc3, h⟩ := h
    refine e_callV (M' := M_X10_countSpare) (as := []) (rest := []) dX10_byHand_38 ml_X10_50 mk_X10_countSpare (ob_8 hn) rfl rfl rfl (Nat.le_of_ble_eq_true rfl) (show 0 < d by omega) hc3 (Md_le (b := md_X10_byHand) (by decide)) (fun v σ4 hq hf => ?_)
    obtain ⟨rfl, hq⟩ := hq
    replace h := h σ4 hq hf
    exact e_vret dX10_byHand_41 rfl ⟨rfl, h⟩
  · replace h := h.2 c1
    refine e_aload_n dX10_byHand_13 rfl rfl ?_
    refine e_getR (y := 34) dX10_byHand_14 fl_X10_9 (ob_8 hn) rfl rfl ?_
    refine e_iload_n dX10_byHand_17 rfl rfl ?_
    refine e_aload_n dX10_byHand_18 rfl rfl ?_
    refine e_getR (y := 3) dX10_byHand_19 fl_X10_31 (ob_8 hn) rfl rfl ?_
    refine e_getR (y := 18) dX10_byHand_22 fl_X10_98 (ob_3 hn) rfl rfl ?_
    refine e_iload_n dX10_byHand_25 rfl rfl ?_
    obtain ⟨hi, pp8, hg, hp_pp8, h⟩ := h
    refine e_aldP dX10_byHand_26 hn hi hg ?_
    refine e_getI dX10_byHand_27 fl_X10_162 (Ob.p hp_pp8) rfl ?_
    refine e_iast dX10_byHand_30 (ar_34 hn) h.1 (md_r (m := md_X10_byHand) (by decide)) ?_
    replace h := h.2
    refine e_iinc dX10_byHand_31 rfl (ii_1 _) rfl (by decide) ?_
    refine e_goto (tgt := 2) dX10_byHand_34 (by decide) ?_
    exact h
theorem S_X10_byHand {d n : Nat} {Q : St → Prop} {σ : St}  (hn : FIX ≤ n) (hd : 1 ≤ d) (h : K_X10_byHand_2 d n σ Q σ 0) : Cn d n M_X10_byHand md_X10_byHand [.ref 8] σ (liV Q) := by
  refine Cn.of (k0 := 1) (by decide) rfl ?_
  show Ev (d, n, md_X10_byHand, σ, liV Q) M_X10_byHand 0 [some (.ref 8), none] [] σ
  refine e_iconst dX10_byHand_0 ci_0 ?_
  refine e_istore_n dX10_byHand_1 rfl rfl (by decide) ?_
  exact h
theorem S_X10_buyFor {d n : Nat} {Q : St → Prop} {σ : St} {a1 : Int32} (hn : FIX ≤ n) (hd : 1 ≤ d) (h : vp_in a1 8 ∧ ∃ pp1, gR σ a1.toNatClampNeg = some pp1 ∧ IsP n pp1 ∧ vp_in a1 8 ∧ ∃ Q2 : Int32 → St → Prop, Cn (d - 1) n M_X4_pick md_X4_pick [.ref 6, .ref pp1, .int (gI σ 37 a1.toNatClampNeg)] σ (liI Q2) ∧ ∀ (v5 : Int32) (σ4 : St), Q2 v5 σ4 → Fr md_X4_pick σ σ4 → pre_X5_bundleAt σ4 pp1 v5 ∧ vp_in a1 8 ∧ vp_in a1 8 ∧ Q (sI (sI σ4 34 a1.toNatClampNeg (fn_X5_bundleAt σ4 pp1 v5)) 37 a1.toNatClampNeg (gI (sI σ4 34 a1.toNatClampNeg (fn_X5_bundleAt σ4 pp1 v5)) 6 5))) : Cn d n M_X10_buyFor md_X10_buyFor [.ref 8, .int a1] σ (liV Q) := by
  refine Cn.of (k0 := 1) (by decide) rfl ?_
  show Ev (d, n, md_X10_buyFor, σ, liV Q) M_X10_buyFor 0 [some (.ref 8), some (.int a1), none] [] σ
  refine e_aload_n dX10_buyFor_0 rfl rfl ?_
  refine e_getR (y := 3) dX10_buyFor_1 fl_X10_31 (ob_8 hn) rfl rfl ?_
  refine e_getR (y := 18) dX10_buyFor_4 fl_X10_98 (ob_3 hn) rfl rfl ?_
  refine e_iload_n dX10_buyFor_7 rfl rfl ?_
  obtain ⟨hi, pp1, hg, hp_pp1, h⟩ := h
  refine e_aldP dX10_buyFor_8 hn hi hg ?_
  refine e_astore_n dX10_buyFor_9 rfl rfl (by decide) ?_
  refine e_aload_n dX10_buyFor_10 rfl rfl ?_
  refine e_getR (y := 34) dX10_buyFor_11 fl_X10_9 (ob_8 hn) rfl rfl ?_
  refine e_iload_n dX10_buyFor_14 rfl rfl ?_
  refine e_aload_n dX10_buyFor_15 rfl rfl ?_
  refine e_aload_n dX10_buyFor_16 rfl rfl ?_
  refine e_getR (y := 6) dX10_buyFor_17 fl_X10_35 (ob_8 hn) rfl rfl ?_
  refine e_aload_n dX10_buyFor_20 rfl rfl ?_
  refine e_aload_n dX10_buyFor_21 rfl rfl ?_
  refine e_getR (y := 37) dX10_buyFor_22 fl_X10_21 (ob_8 hn) rfl rfl ?_
  refine e_iload_n dX10_buyFor_25 rfl rfl ?_
  refine e_iald dX10_buyFor_26 (ar_37 hn) h.1 ?_
  replace h := h.2
  obtain ⟨Q2, hc3, h⟩ := h
  refine e_callV (M' := M_X4_pick) (as := [.ref pp1, .int (gI σ 37 a1.toNatClampNeg)]) (rest := [.ref pp1, .int a1, .ref 34]) dX10_buyFor_27 ml_X10_102 mk_X4_pick (ob_6 hn) rfl rfl rfl (Nat.le_of_ble_eq_true rfl) (show 0 < d by omega) hc3 (Md_le (b := md_X10_buyFor) (by decide)) (fun v σ4 hq hf => ?_)
  obtain ⟨v5, rfl, hq⟩ := hq
  replace h := h v5 σ4 hq hf
  refine e_callV (M' := M_X5_bundleAt) (as := [.int v5]) (rest := [.int a1, .ref 34]) dX10_buyFor_30 ml_X10_106 mk_X5_bundleAt (Ob.p hp_pp1) rfl rfl rfl (Nat.le_of_ble_eq_true rfl) (show 0 < d by omega) (sp_X5_bundleAt hp_pp1 h.1) Md_nil (fun v σv hq hf => ?_)
  obtain ⟨v, rfl, rfl, rfl⟩ := hq
  replace h := h.2
  refine e_iast dX10_buyFor_33 (ar_34 hn) h.1 (md_r (m := md_X10_buyFor) (by decide)) ?_
  replace h := h.2
  refine e_aload_n dX10_buyFor_34 rfl rfl ?_
  refine e_getR (y := 37) dX10_buyFor_35 fl_X10_21 (ob_8 hn) rfl rfl ?_
  refine e_iload_n dX10_buyFor_38 rfl rfl ?_
  refine e_aload_n dX10_buyFor_39 rfl rfl ?_
  refine e_getR (y := 6) dX10_buyFor_40 fl_X10_35 (ob_8 hn) rfl rfl ?_
  refine e_getI dX10_buyFor_43 fl_X10_112 (ob_6 hn) rfl ?_
  refine e_iast dX10_buyFor_46 (ar_37 hn) h.1 (md_r (m := md_X10_buyFor) (by decide)) ?_
  replace h := h.2
  exact e_vret dX10_buyFor_47 rfl ⟨rfl, h⟩
abbrev K_X10_byPrices_24 (d n : Nat) (σ0 : St) (Q : St → Prop) (σ : St) (x1 : Int32) : Prop := Ev (d, n, md_X10_byPrices, σ0, liV Q) M_X10_byPrices 24 [some (.ref 8), some (.int x1)] [] σ
theorem B_X10_byPrices_24 {d n : Nat} {σ0 : St} {Q : St → Prop}  {σ : St} {x1 : Int32} (hn : FIX ≤ n) (hd : 1 ≤ d) (h : (((gI σ 3 2) ≤ x1 → ∃ Q2 : St → Prop, Cn (d - 1) n M_X10_countSpare md_X10_countSpare [.ref 8] σ (liV Q2) ∧ ∀ (σ4 : St), Q2 σ4 → Fr md_X10_countSpare σ σ4 → Q σ4) ∧ (¬ (gI σ 3 2) ≤ x1 → ∃ Q8 : St → Prop, Cn (d - 1) n M_X10_buyFor md_X10_buyFor [.ref 8, .int x1] σ (liV Q8) ∧ ∀ (σ10 : St), Q8 σ10 → Fr md_X10_buyFor σ σ10 → K_X10_byPrices_24 d n σ0 Q σ10 (x1 + 1)))) : K_X10_byPrices_24 d n σ0 Q σ x1 := by
  refine e_iload_n dX10_byPrices_24 rfl rfl ?_
  refine e_aload_n dX10_byPrices_25 rfl rfl ?_
  refine e_getR (y := 3) dX10_byPrices_26 fl_X10_31 (ob_8 hn) rfl rfl ?_
  refine e_getI dX10_byPrices_29 fl_X10_80 (ob_3 hn) rfl ?_
  refine e_icmp_ge (tgt := 46) dX10_byPrices_32 (by decide) (fun c1 => ?_) (fun c1 => ?_)
  · replace h := h.1 c1
    refine e_aload_n dX10_byPrices_46 rfl rfl ?_
    obtain ⟨Q2, hc3, h⟩ := h
    refine e_callV (M' := M_X10_countSpare) (as := []) (rest := []) dX10_byPrices_47 ml_X10_50 mk_X10_countSpare (ob_8 hn) rfl rfl rfl (Nat.le_of_ble_eq_true rfl) (show 0 < d by omega) hc3 (Md_le (b := md_X10_byPrices) (by decide)) (fun v σ4 hq hf => ?_)
    obtain ⟨rfl, hq⟩ := hq
    replace h := h σ4 hq hf
    exact e_vret dX10_byPrices_50 rfl ⟨rfl, h⟩
  · replace h := h.2 c1
    refine e_aload_n dX10_byPrices_35 rfl rfl ?_
    refine e_iload_n dX10_byPrices_36 rfl rfl ?_
    obtain ⟨Q8, hc9, h⟩ := h
    refine e_callV (M' := M_X10_buyFor) (as := [.int x1]) (rest := []) dX10_byPrices_37 ml_X10_94 mk_X10_buyFor (ob_8 hn) rfl rfl rfl (Nat.le_of_ble_eq_true rfl) (show 0 < d by omega) hc9 (Md_le (b := md_X10_byPrices) (by decide)) (fun v σ10 hq hf => ?_)
    obtain ⟨rfl, hq⟩ := hq
    replace h := h σ10 hq hf
    refine e_iinc dX10_byPrices_40 rfl (ii_1 _) rfl (by decide) ?_
    refine e_goto (tgt := 24) dX10_byPrices_43 (by decide) ?_
    exact h
theorem S_X10_byPrices {d n : Nat} {Q : St → Prop} {σ : St}  (hn : FIX ≤ n) (hd : 1 ≤ d) (h : ∃ Q1 : St → Prop, Cn (d - 1) n M_X4_mark md_X4_mark [.ref 6, .ref 24] σ (liV Q1) ∧ ∀ (σ3 : St), Q1 σ3 → Fr md_X4_mark σ σ3 → ∃ Q7 : St → Prop, Cn (d - 1) n M_J7_fill_53178 (md_J7_fill_53178 37) [.ref 37, .int 0] σ3 (liV Q7) ∧ ∀ (σ9 : St), Q7 σ9 → Fr (md_J7_fill_53178 37) σ3 σ9 → K_X10_byPrices_24 d n σ Q σ9 0) : Cn d n M_X10_byPrices md_X10_byPrices [.ref 8] σ (liV Q) := by
  refine Cn.of (k0 := 1) (by decide) rfl ?_
  show Ev (d, n, md_X10_byPrices, σ, liV Q) M_X10_byPrices 0 [some (.ref 8), none] [] σ
  refine e_aload_n dX10_byPrices_0 rfl rfl ?_
  refine e_getR (y := 6) dX10_byPrices_1 fl_X10_35 (ob_8 hn) rfl rfl ?_
  refine e_aload_n dX10_byPrices_4 rfl rfl ?_
  refine e_getR (y := 6) dX10_byPrices_5 fl_X10_35 (ob_8 hn) rfl rfl ?_
  refine e_getR (y := 24) dX10_byPrices_8 fl_X10_85 (ob_6 hn) rfl rfl ?_
  obtain ⟨Q1, hc2, h⟩ := h
  refine e_callV (M' := M_X4_mark) (as := [.ref 24]) (rest := []) dX10_byPrices_11 ml_X10_90 mk_X4_mark (ob_6 hn) rfl rfl rfl (Nat.le_of_ble_eq_true rfl) (show 0 < d by omega) hc2 (Md_le (b := md_X10_byPrices) (by decide)) (fun v σ3 hq hf => ?_)
  obtain ⟨rfl, hq⟩ := hq
  replace h := h σ3 hq hf
  refine e_aload_n dX10_byPrices_14 rfl rfl ?_
  refine e_getR (y := 37) dX10_byPrices_15 fl_X10_21 (ob_8 hn) rfl rfl ?_
  refine e_iconst dX10_byPrices_18 ci_0 ?_
  obtain ⟨Q7, hc8, h⟩ := h
  refine e_callS (M' := M_J7_fill_53178) (as := [.ref 37, .int 0]) (rest := []) dX10_byPrices_19 ml_X10_44 mk_J7_fill_53178 rfl (Nat.le_of_ble_eq_true rfl) (show 0 < d by omega) hc8 (Md_le (b := md_X10_byPrices) (by decide)) (fun v σ9 hq hf => ?_)
  obtain ⟨rfl, hq⟩ := hq
  replace h := h σ9 hq hf
  refine e_iconst dX10_byPrices_22 ci_0 ?_
  refine e_istore_n dX10_byPrices_23 rfl rfl (by decide) ?_
  exact h
abbrev K_X10_addFor_28 (d n : Nat) (σ0 : St) (Q : Int32 → St → Prop) (σ : St) (x1 : Int32) (x2 : Nat) (x3 : Int32) (x4 : Int32) (x5 : Int32) : Prop := Ev (d, n, md_X10_addFor, σ0, liI Q) M_X10_addFor 28 [some (.ref 8), some (.int x1), some (.ref x2), some (.int x3), some (.int x4), some (.int x5), none] [] σ
theorem B_X10_addFor_28 {d n : Nat} {σ0 : St} {Q : Int32 → St → Prop}  {σ : St} {x1 : Int32} {x2 : Nat} {x3 : Int32} {x4 : Int32} {x5 : Int32} (hn : FIX ≤ n) (hd : 1 ≤ d) (hp_x2 : IsP n x2) (h : (((gI σ 1 0) ≤ x5 → ((x4 ≠ (-1) → ∃ Q3 : St → Prop, Cn (d - 1) n M_X10_take md_X10_take [.ref 8, .int x1, .int ((1 : Int32) <<< (x4 &&& 31))] σ (liV Q3) ∧ ∀ (σ5 : St), Q3 σ5 → Fr md_X10_take σ σ5 → Q 1 σ5) ∧ (x4 = (-1) → Q 0 σ))) ∧ (¬ (gI σ 1 0) ≤ x5 → vp_in x1 8 ∧ ∃ Q9 : Int32 → St → Prop, Cn (d - 1) n M_X10_canTake md_X10_canTake [.ref 8, .int x1, .int x5] σ (liI Q9) ∧ ∀ (v12 : Int32) (σ11 : St), Q9 v12 σ11 → Fr md_X10_canTake σ σ11 → ((v12 = 0 → K_X10_addFor_28 d n σ0 Q σ11 x1 x2 x3 x4 (x5 + 1)) ∧ (¬ v12 = 0 → vp_in ((gI σ 34 x1.toNatClampNeg) ||| ((1 : Int32) <<< (x5 &&& 31))) 1024 ∧ (((gI σ11 (x2 + 2) ((gI σ 34 x1.toNatClampNeg) ||| ((1 : Int32) <<< (x5 &&& 31))).toNatClampNeg) ≤ x3 → K_X10_addFor_28 d n σ0 Q σ11 x1 x2 x3 x4 (x5 + 1)) ∧ (¬ (gI σ11 (x2 + 2) ((gI σ 34 x1.toNatClampNeg) ||| ((1 : Int32) <<< (x5 &&& 31))).toNatClampNeg) ≤ x3 → vp_in ((gI σ 34 x1.toNatClampNeg) ||| ((1 : Int32) <<< (x5 &&& 31))) 1024 ∧ K_X10_addFor_28 d n σ0 Q σ11 x1 x2 (gI σ11 (x2 + 2) ((gI σ 34 x1.toNatClampNeg) ||| ((1 : Int32) <<< (x5 &&& 31))).toNatClampNeg) x5 (x5 + 1)))))))) : K_X10_addFor_28 d n σ0 Q σ x1 x2 x3 x4 x5 := by
  refine e_iload dX10_addFor_28 rfl ?_
  refine e_aload_n dX10_addFor_30 rfl rfl ?_
  refine e_getR (y := 1) dX10_addFor_31 fl_X10_27 (ob_8 hn) rfl rfl ?_
  refine e_getI dX10_addFor_34 fl_X10_71 (ob_1 hn) rfl ?_
  refine e_icmp_ge (tgt := 92) dX10_addFor_37 (by decide) (fun c1 => ?_) (fun c1 => ?_)
  · replace h := h.1 c1
    refine e_iload dX10_addFor_92 rfl ?_
    refine e_iconst dX10_addFor_94 ci_m1 ?_
    refine e_icmp_ne (tgt := 100) dX10_addFor_95 (by decide) (fun c2 => ?_) (fun c2 => ?_)
    · replace h := h.1 c2
      refine e_aload_n dX10_addFor_100 rfl rfl ?_
      refine e_iload_n dX10_addFor_101 rfl rfl ?_
      refine e_iconst dX10_addFor_102 ci_1 ?_
      refine e_iload dX10_addFor_103 rfl ?_
      refine e_ishl dX10_addFor_105 ?_
      obtain ⟨Q3, hc4, h⟩ := h
      refine e_callV (M' := M_X10_take) (as := [.int x1, .int ((1 : Int32) <<< (x4 &&& 31))]) (rest := []) dX10_addFor_106 ml_X10_145 mk_X10_take (ob_8 hn) rfl rfl rfl (Nat.le_of_ble_eq_true rfl) (show 0 < d by omega) hc4 (Md_le (b := md_X10_addFor) (by decide)) (fun v σ5 hq hf => ?_)
      obtain ⟨rfl, hq⟩ := hq
      replace h := h σ5 hq hf
      refine e_iconst dX10_addFor_109 ci_1 ?_
      exact e_zret dX10_addFor_110 rfl (nar_z (Or.inr rfl)) ⟨_, rfl, h⟩
    · replace h := h.2 c2
      refine e_iconst dX10_addFor_98 ci_0 ?_
      exact e_zret dX10_addFor_99 rfl (nar_z (Or.inl rfl)) ⟨_, rfl, h⟩
  · replace h := h.2 c1
    refine e_aload_n dX10_addFor_40 rfl rfl ?_
    refine e_getR (y := 34) dX10_addFor_41 fl_X10_9 (ob_8 hn) rfl rfl ?_
    refine e_iload_n dX10_addFor_44 rfl rfl ?_
    refine e_iald dX10_addFor_45 (ar_34 hn) h.1 ?_
    replace h := h.2
    refine e_iconst dX10_addFor_46 ci_1 ?_
    refine e_iload dX10_addFor_47 rfl ?_
    refine e_ishl dX10_addFor_49 ?_
    refine e_ior dX10_addFor_50 ?_
    refine e_istore dX10_addFor_51 rfl (by decide) ?_
    refine e_aload_n dX10_addFor_53 rfl rfl ?_
    refine e_iload_n dX10_addFor_54 rfl rfl ?_
    refine e_iload dX10_addFor_55 rfl ?_
    obtain ⟨Q9, hc10, h⟩ := h
    refine e_callV (M' := M_X10_canTake) (as := [.int x1, .int x5]) (rest := []) dX10_addFor_57 ml_X10_142 mk_X10_canTake (ob_8 hn) rfl rfl rfl (Nat.le_of_ble_eq_true rfl) (show 0 < d by omega) hc10 (Md_le (b := md_X10_addFor) (by decide)) (fun v σ11 hq hf => ?_)
    obtain ⟨v12, rfl, hq⟩ := hq
    replace h := h v12 σ11 hq hf
    refine e_if_eq (tgt := 86) dX10_addFor_60 (by decide) (fun c15 => ?_) (fun c15 => ?_)
    · replace h := h.1 c15
      refine e_iinc dX10_addFor_86 rfl (ii_1 _) rfl (by decide) ?_
      refine e_goto (tgt := 28) dX10_addFor_89 (by decide) ?_
      refine e_kill [true, true, true, true, true, true, false] ?_
      exact h
    · replace h := h.2 c15
      refine e_aload_n dX10_addFor_63 rfl rfl ?_
      refine e_getR (y := x2 + 2) dX10_addFor_64 fl_X10_139 (Ob.p hp_x2) rfl (rf_p hp_x2 (by decide)) ?_
      refine e_iload dX10_addFor_67 rfl ?_
      refine e_iald dX10_addFor_69 (Ar.p2 hp_x2) h.1 ?_
      replace h := h.2
      refine e_iload_n dX10_addFor_70 rfl rfl ?_
      refine e_icmp_le (tgt := 86) dX10_addFor_71 (by decide) (fun c16 => ?_) (fun c16 => ?_)
      · replace h := h.1 c16
        refine e_iinc dX10_addFor_86 rfl (ii_1 _) rfl (by decide) ?_
        refine e_goto (tgt := 28) dX10_addFor_89 (by decide) ?_
        refine e_kill [true, true, true, true, true, true, false] ?_
        exact h
      · replace h := h.2 c16
        refine e_aload_n dX10_addFor_74 rfl rfl ?_
        refine e_getR (y := x2 + 2) dX10_addFor_75 fl_X10_139 (Ob.p hp_x2) rfl (rf_p hp_x2 (by decide)) ?_
        refine e_iload dX10_addFor_78 rfl ?_
        refine e_iald dX10_addFor_80 (Ar.p2 hp_x2) h.1 ?_
        replace h := h.2
        refine e_istore_n dX10_addFor_81 rfl rfl (by decide) ?_
        refine e_iload dX10_addFor_82 rfl ?_
        refine e_istore dX10_addFor_84 rfl (by decide) ?_
        refine e_iinc dX10_addFor_86 rfl (ii_1 _) rfl (by decide) ?_
        refine e_goto (tgt := 28) dX10_addFor_89 (by decide) ?_
        refine e_kill [true, true, true, true, true, true, false] ?_
        exact h
theorem S_X10_addFor {d n : Nat} {Q : Int32 → St → Prop} {σ : St} {a1 : Int32} (hn : FIX ≤ n) (hd : 1 ≤ d) (h : vp_in a1 8 ∧ ∃ pp1, gR σ a1.toNatClampNeg = some pp1 ∧ IsP n pp1 ∧ vp_in a1 8 ∧ vp_in (gI σ 34 a1.toNatClampNeg) 1024 ∧ K_X10_addFor_28 d n σ Q σ a1 pp1 (gI σ (pp1 + 2) (gI σ 34 a1.toNatClampNeg).toNatClampNeg) (-1) 0) : Cn d n M_X10_addFor md_X10_addFor [.ref 8, .int a1] σ (liI Q) := by
  refine Cn.of (k0 := 5) (by decide) rfl ?_
  show Ev (d, n, md_X10_addFor, σ, liI Q) M_X10_addFor 0 [some (.ref 8), some (.int a1), none, none, none, none, none] [] σ
  refine e_aload_n dX10_addFor_0 rfl rfl ?_
  refine e_getR (y := 3) dX10_addFor_1 fl_X10_31 (ob_8 hn) rfl rfl ?_
  refine e_getR (y := 18) dX10_addFor_4 fl_X10_98 (ob_3 hn) rfl rfl ?_
  refine e_iload_n dX10_addFor_7 rfl rfl ?_
  obtain ⟨hi, pp1, hg, hp_pp1, h⟩ := h
  refine e_aldP dX10_addFor_8 hn hi hg ?_
  refine e_astore_n dX10_addFor_9 rfl rfl (by decide) ?_
  refine e_aload_n dX10_addFor_10 rfl rfl ?_
  refine e_getR (y := pp1 + 2) dX10_addFor_11 fl_X10_139 (Ob.p hp_pp1) rfl (rf_p hp_pp1 (by decide)) ?_
  refine e_aload_n dX10_addFor_14 rfl rfl ?_
  refine e_getR (y := 34) dX10_addFor_15 fl_X10_9 (ob_8 hn) rfl rfl ?_
  refine e_iload_n dX10_addFor_18 rfl rfl ?_
  refine e_iald dX10_addFor_19 (ar_34 hn) h.1 ?_
  replace h := h.2
  refine e_iald dX10_addFor_20 (Ar.p2 hp_pp1) h.1 ?_
  replace h := h.2
  refine e_istore_n dX10_addFor_21 rfl rfl (by decide) ?_
  refine e_iconst dX10_addFor_22 ci_m1 ?_
  refine e_istore dX10_addFor_23 rfl (by decide) ?_
  refine e_iconst dX10_addFor_25 ci_0 ?_
  refine e_istore dX10_addFor_26 rfl (by decide) ?_
  exact h
abbrev K_X10_roundOfAdding_4 (d n : Nat) (σ0 : St) (Q : Int32 → St → Prop) (σ : St) (x1 : Int32) (x2 : Int32) (x3 : Int32) : Prop := Ev (d, n, md_X10_roundOfAdding, σ0, liI Q) M_X10_roundOfAdding 4 [some (.ref 8), some (.int x1), some (.int x2), some (.int x3)] [] σ
theorem B_X10_roundOfAdding_4 {d n : Nat} {σ0 : St} {Q : Int32 → St → Prop}  {σ : St} {x1 : Int32} {x2 : Int32} {x3 : Int32} (hn : FIX ≤ n) (hd : 1 ≤ d) (h : (((gI σ 3 2) ≤ x3 → (x2 = 0 ∨ x2 = 1) ∧ Q x2 σ) ∧ (¬ (gI σ 3 2) ≤ x3 → ((x1 = 0 → ∃ Q3 : Int32 → St → Prop, Cn (d - 1) n M_X10_addFor md_X10_addFor [.ref 8, .int (((gI σ 3 2) - 1) - x3)] σ (liI Q3) ∧ ∀ (v6 : Int32) (σ5 : St), Q3 v6 σ5 → Fr md_X10_addFor σ σ5 → ((v6 = 0 → K_X10_roundOfAdding_4 d n σ0 Q σ5 x1 x2 (x3 + 1)) ∧ (¬ v6 = 0 → K_X10_roundOfAdding_4 d n σ0 Q σ5 x1 1 (x3 + 1)))) ∧ (¬ x1 = 0 → ∃ Q10 : Int32 → St → Prop, Cn (d - 1) n M_X10_addFor md_X10_addFor [.ref 8, .int x3] σ (liI Q10) ∧ ∀ (v13 : Int32) (σ12 : St), Q10 v13 σ12 → Fr md_X10_addFor σ σ12 → ((v13 = 0 → K_X10_roundOfAdding_4 d n σ0 Q σ12 x1 x2 (x3 + 1)) ∧ (¬ v13 = 0 → K_X10_roundOfAdding_4 d n σ0 Q σ12 x1 1 (x3 + 1)))))))) : K_X10_roundOfAdding_4 d n σ0 Q σ x1 x2 x3 := by
  refine e_iload_n dX10_roundOfAdding_4 rfl rfl ?_
  refine e_aload_n dX10_roundOfAdding_5 rfl rfl ?_
  refine e_getR (y := 3) dX10_roundOfAdding_6 fl_X10_31 (ob_8 hn) rfl rfl ?_
  refine e_getI dX10_roundOfAdding_9 fl_X10_80 (ob_3 hn) rfl ?_
  refine e_icmp_ge (tgt := 49) dX10_roundOfAdding_12 (by decide) (fun c1 => ?_) (fun c1 => ?_)
  · replace h := h.1 c1
    refine e_iload_n dX10_roundOfAdding_49 rfl rfl ?_
    exact e_zret dX10_roundOfAdding_50 rfl (nar_z h.1) ⟨_, rfl, h.2⟩
  · replace h := h.2 c1
    refine e_aload_n dX10_roundOfAdding_15 rfl rfl ?_
    refine e_iload_n dX10_roundOfAdding_16 rfl rfl ?_
    refine e_if_eq (tgt := 24) dX10_roundOfAdding_17 (by decide) (fun c2 => ?_) (fun c2 => ?_)
    · replace h := h.1 c2
      refine e_aload_n dX10_roundOfAdding_24 rfl rfl ?_
      refine e_getR (y := 3) dX10_roundOfAdding_25 fl_X10_31 (ob_8 hn) rfl rfl ?_
      refine e_getI dX10_roundOfAdding_28 fl_X10_80 (ob_3 hn) rfl ?_
      refine e_iconst dX10_roundOfAdding_31 ci_1 ?_
      refine e_isub dX10_roundOfAdding_32 ?_
      refine e_iload_n dX10_roundOfAdding_33 rfl rfl ?_
      refine e_isub dX10_roundOfAdding_34 ?_
      obtain ⟨Q3, hc4, h⟩ := h
      refine e_callV (M' := M_X10_addFor) (as := [.int (((gI σ 3 2) - 1) - x3)]) (rest := []) dX10_roundOfAdding_35 ml_X10_135 mk_X10_addFor (ob_8 hn) rfl rfl rfl (Nat.le_of_ble_eq_true rfl) (show 0 < d by omega) hc4 (Md_le (b := md_X10_roundOfAdding) (by decide)) (fun v σ5 hq hf => ?_)
      obtain ⟨v6, rfl, hq⟩ := hq
      replace h := h v6 σ5 hq hf
      refine e_if_eq (tgt := 43) dX10_roundOfAdding_38 (by decide) (fun c9 => ?_) (fun c9 => ?_)
      · replace h := h.1 c9
        refine e_iinc dX10_roundOfAdding_43 rfl (ii_1 _) rfl (by decide) ?_
        refine e_goto (tgt := 4) dX10_roundOfAdding_46 (by decide) ?_
        exact h
      · replace h := h.2 c9
        refine e_iconst dX10_roundOfAdding_41 ci_1 ?_
        refine e_istore_n dX10_roundOfAdding_42 rfl rfl (by decide) ?_
        refine e_iinc dX10_roundOfAdding_43 rfl (ii_1 _) rfl (by decide) ?_
        refine e_goto (tgt := 4) dX10_roundOfAdding_46 (by decide) ?_
        exact h
    · replace h := h.2 c2
      refine e_iload_n dX10_roundOfAdding_20 rfl rfl ?_
      refine e_goto (tgt := 35) dX10_roundOfAdding_21 (by decide) ?_
      obtain ⟨Q10, hc11, h⟩ := h
      refine e_callV (M' := M_X10_addFor) (as := [.int x3]) (rest := []) dX10_roundOfAdding_35 ml_X10_135 mk_X10_addFor (ob_8 hn) rfl rfl rfl (Nat.le_of_ble_eq_true rfl) (show 0 < d by omega) hc11 (Md_le (b := md_X10_roundOfAdding) (by decide)) (fun v σ12 hq hf => ?_)
      obtain ⟨v13, rfl, hq⟩ := hq
      replace h := h v13 σ12 hq hf
      refine e_if_eq (tgt := 43) dX10_roundOfAdding_38 (by decide) (fun c16 => ?_) (fun c16 => ?_)
      · replace h := h.1 c16
        refine e_iinc dX10_roundOfAdding_43 rfl (ii_1 _) rfl (by decide) ?_
        refine e_goto (tgt := 4) dX10_roundOfAdding_46 (by decide) ?_
        exact h
      · replace h := h.2 c16
        refine e_iconst dX10_roundOfAdding_41 ci_1 ?_
        refine e_istore_n dX10_roundOfAdding_42 rfl rfl (by decide) ?_
        refine e_iinc dX10_roundOfAdding_43 rfl (ii_1 _) rfl (by decide) ?_
        refine e_goto (tgt := 4) dX10_roundOfAdding_46 (by decide) ?_
        exact h
theorem S_X10_roundOfAdding {d n : Nat} {Q : Int32 → St → Prop} {σ : St} {a1 : Int32} (hn : FIX ≤ n) (hd : 1 ≤ d) (h : K_X10_roundOfAdding_4 d n σ Q σ a1 0 0) : Cn d n M_X10_roundOfAdding md_X10_roundOfAdding [.ref 8, .int a1] σ (liI Q) := by
  refine Cn.of (k0 := 2) (by decide) rfl ?_
  show Ev (d, n, md_X10_roundOfAdding, σ, liI Q) M_X10_roundOfAdding 0 [some (.ref 8), some (.int a1), none, none] [] σ
  refine e_iconst dX10_roundOfAdding_0 ci_0 ?_
  refine e_istore_n dX10_roundOfAdding_1 rfl rfl (by decide) ?_
  refine e_iconst dX10_roundOfAdding_2 ci_0 ?_
  refine e_istore_n dX10_roundOfAdding_3 rfl rfl (by decide) ?_
  exact h
abbrev K_X10_byTurns_4 (d n : Nat) (σ0 : St) (Q : St → Prop) (σ : St) (x1 : Int32) (x2 : Int32) : Prop := Ev (d, n, md_X10_byTurns, σ0, liV Q) M_X10_byTurns 4 [some (.ref 8), some (.int x1), some (.int x2)] [] σ
theorem B_X10_byTurns_4 {d n : Nat} {σ0 : St} {Q : St → Prop}  {σ : St} {x1 : Int32} {x2 : Int32} (hn : FIX ≤ n) (hd : 1 ≤ d) (h : (((80 : Int32) < x2 → Q σ) ∧ (¬ (80 : Int32) < x2 → ∃ Q2 : Int32 → St → Prop, Cn (d - 1) n M_X10_roundOfAdding md_X10_roundOfAdding [.ref 8, .int x1] σ (liI Q2) ∧ ∀ (v5 : Int32) (σ4 : St), Q2 v5 σ4 → Fr md_X10_roundOfAdding σ σ4 → ((v5 ≠ 0 → ((x1 ≠ 0 → K_X10_byTurns_4 d n σ0 Q σ4 0 (x2 + 1)) ∧ (x1 = 0 → K_X10_byTurns_4 d n σ0 Q σ4 1 (x2 + 1)))) ∧ (v5 = 0 → Q σ4))))) : K_X10_byTurns_4 d n σ0 Q σ x1 x2 := by
  refine e_iload_n dX10_byTurns_4 rfl rfl ?_
  refine e_bipush dX10_byTurns_5 cb_80 ?_
  refine e_icmp_gt (tgt := 35) dX10_byTurns_7 (by decide) (fun c1 => ?_) (fun c1 => ?_)
  · replace h := h.1 c1
    exact e_vret dX10_byTurns_35 rfl ⟨rfl, h⟩
  · replace h := h.2 c1
    refine e_aload_n dX10_byTurns_10 rfl rfl ?_
    refine e_iload_n dX10_byTurns_11 rfl rfl ?_
    obtain ⟨Q2, hc3, h⟩ := h
    refine e_callV (M' := M_X10_roundOfAdding) (as := [.int x1]) (rest := []) dX10_byTurns_12 ml_X10_128 mk_X10_roundOfAdding (ob_8 hn) rfl rfl rfl (Nat.le_of_ble_eq_true rfl) (show 0 < d by omega) hc3 (Md_le (b := md_X10_byTurns) (by decide)) (fun v σ4 hq hf => ?_)
    obtain ⟨v5, rfl, hq⟩ := hq
    replace h := h v5 σ4 hq hf
    refine e_if_ne (tgt := 19) dX10_byTurns_15 (by decide) (fun c8 => ?_) (fun c8 => ?_)
    · replace h := h.1 c8
      refine e_iload_n dX10_byTurns_19 rfl rfl ?_
      refine e_if_ne (tgt := 27) dX10_byTurns_20 (by decide) (fun c9 => ?_) (fun c9 => ?_)
      · replace h := h.1 c9
        refine e_iconst dX10_byTurns_27 ci_0 ?_
        refine e_istore_n dX10_byTurns_28 rfl rfl (by decide) ?_
        refine e_iinc dX10_byTurns_29 rfl (ii_1 _) rfl (by decide) ?_
        refine e_goto (tgt := 4) dX10_byTurns_32 (by decide) ?_
        exact h
      · replace h := h.2 c9
        refine e_iconst dX10_byTurns_23 ci_1 ?_
        refine e_goto (tgt := 28) dX10_byTurns_24 (by decide) ?_
        refine e_istore_n dX10_byTurns_28 rfl rfl (by decide) ?_
        refine e_iinc dX10_byTurns_29 rfl (ii_1 _) rfl (by decide) ?_
        refine e_goto (tgt := 4) dX10_byTurns_32 (by decide) ?_
        exact h
    · replace h := h.2 c8
      exact e_vret dX10_byTurns_18 rfl ⟨rfl, h⟩
theorem S_X10_byTurns {d n : Nat} {Q : St → Prop} {σ : St}  (hn : FIX ≤ n) (hd : 1 ≤ d) (h : K_X10_byTurns_4 d n σ Q σ 1 0) : Cn d n M_X10_byTurns md_X10_byTurns [.ref 8] σ (liV Q) := by
  refine Cn.of (k0 := 2) (by decide) rfl ?_
  show Ev (d, n, md_X10_byTurns, σ, liV Q) M_X10_byTurns 0 [some (.ref 8), none, none] [] σ
  refine e_iconst dX10_byTurns_0 ci_1 ?_
  refine e_istore_n dX10_byTurns_1 rfl rfl (by decide) ?_
  refine e_iconst dX10_byTurns_2 ci_0 ?_
  refine e_istore_n dX10_byTurns_3 rfl rfl (by decide) ?_
  exact h
abbrev K_X10_fullest_4 (d n : Nat) (σ0 : St) (Q : Int32 → St → Prop) (σ : St) (x1 : Int32) (x2 : Int32) : Prop := Ev (d, n, md_X10_fullest, σ0, liI Q) M_X10_fullest 4 [some (.ref 8), some (.int x1), some (.int x2)] [] σ
theorem B_X10_fullest_4 {d n : Nat} {σ0 : St} {Q : Int32 → St → Prop}  {σ : St} {x1 : Int32} {x2 : Int32} (hn : FIX ≤ n) (h : (((gI σ 1 0) ≤ x2 → Q x1 σ) ∧ (¬ (gI σ 1 0) ≤ x2 → vp_in x2 10 ∧ (((0 : Int32) ≤ (gI σ 35 x2.toNatClampNeg) → K_X10_fullest_4 d n σ0 Q σ x1 (x2 + 1)) ∧ (¬ (0 : Int32) ≤ (gI σ 35 x2.toNatClampNeg) → ((x1 = (-1) → K_X10_fullest_4 d n σ0 Q σ x2 (x2 + 1)) ∧ (¬ x1 = (-1) → vp_in x2 10 ∧ vp_in x1 10 ∧ (((gI σ 35 x1.toNatClampNeg) ≤ (gI σ 35 x2.toNatClampNeg) → K_X10_fullest_4 d n σ0 Q σ x1 (x2 + 1)) ∧ (¬ (gI σ 35 x1.toNatClampNeg) ≤ (gI σ 35 x2.toNatClampNeg) → K_X10_fullest_4 d n σ0 Q σ x2 (x2 + 1)))))))))) : K_X10_fullest_4 d n σ0 Q σ x1 x2 := by
  refine e_iload_n dX10_fullest_4 rfl rfl ?_
  refine e_aload_n dX10_fullest_5 rfl rfl ?_
  refine e_getR (y := 1) dX10_fullest_6 fl_X10_27 (ob_8 hn) rfl rfl ?_
  refine e_getI dX10_fullest_9 fl_X10_71 (ob_1 hn) rfl ?_
  refine e_icmp_ge (tgt := 52) dX10_fullest_12 (by decide) (fun c1 => ?_) (fun c1 => ?_)
  · replace h := h.1 c1
    refine e_iload_n dX10_fullest_52 rfl rfl ?_
    exact e_iret dX10_fullest_53 rfl ⟨_, rfl, h⟩
  · replace h := h.2 c1
    refine e_aload_n dX10_fullest_15 rfl rfl ?_
    refine e_getR (y := 35) dX10_fullest_16 fl_X10_15 (ob_8 hn) rfl rfl ?_
    refine e_iload_n dX10_fullest_19 rfl rfl ?_
    refine e_iald dX10_fullest_20 (ar_35 hn) h.1 ?_
    replace h := h.2
    refine e_if_ge (tgt := 46) dX10_fullest_21 (by decide) (fun c2 => ?_) (fun c2 => ?_)
    · replace h := h.1 c2
      refine e_iinc dX10_fullest_46 rfl (ii_1 _) rfl (by decide) ?_
      refine e_goto (tgt := 4) dX10_fullest_49 (by decide) ?_
      exact h
    · replace h := h.2 c2
      refine e_iload_n dX10_fullest_24 rfl rfl ?_
      refine e_iconst dX10_fullest_25 ci_m1 ?_
      refine e_icmp_eq (tgt := 44) dX10_fullest_26 (by decide) (fun c3 => ?_) (fun c3 => ?_)
      · replace h := h.1 c3
        refine e_iload_n dX10_fullest_44 rfl rfl ?_
        refine e_istore_n dX10_fullest_45 rfl rfl (by decide) ?_
        refine e_iinc dX10_fullest_46 rfl (ii_1 _) rfl (by decide) ?_
        refine e_goto (tgt := 4) dX10_fullest_49 (by decide) ?_
        exact h
      · replace h := h.2 c3
        refine e_aload_n dX10_fullest_29 rfl rfl ?_
        refine e_getR (y := 35) dX10_fullest_30 fl_X10_15 (ob_8 hn) rfl rfl ?_
        refine e_iload_n dX10_fullest_33 rfl rfl ?_
        refine e_iald dX10_fullest_34 (ar_35 hn) h.1 ?_
        replace h := h.2
        refine e_aload_n dX10_fullest_35 rfl rfl ?_
        refine e_getR (y := 35) dX10_fullest_36 fl_X10_15 (ob_8 hn) rfl rfl ?_
        refine e_iload_n dX10_fullest_39 rfl rfl ?_
        refine e_iald dX10_fullest_40 (ar_35 hn) h.1 ?_
        replace h := h.2
        refine e_icmp_ge (tgt := 46) dX10_fullest_41 (by decide) (fun c4 => ?_) (fun c4 => ?_)
        · replace h := h.1 c4
          refine e_iinc dX10_fullest_46 rfl (ii_1 _) rfl (by decide) ?_
          refine e_goto (tgt := 4) dX10_fullest_49 (by decide) ?_
          exact h
        · replace h := h.2 c4
          refine e_iload_n dX10_fullest_44 rfl rfl ?_
          refine e_istore_n dX10_fullest_45 rfl rfl (by decide) ?_
          refine e_iinc dX10_fullest_46 rfl (ii_1 _) rfl (by decide) ?_
          refine e_goto (tgt := 4) dX10_fullest_49 (by decide) ?_
          exact h
theorem S_X10_fullest {d n : Nat} {Q : Int32 → St → Prop} {σ : St}  (hn : FIX ≤ n) (h : K_X10_fullest_4 d n σ Q σ (-1) 0) : Cn d n M_X10_fullest md_X10_fullest [.ref 8] σ (liI Q) := by
  refine Cn.of (k0 := 2) (by decide) rfl ?_
  show Ev (d, n, md_X10_fullest, σ, liI Q) M_X10_fullest 0 [some (.ref 8), none, none] [] σ
  refine e_iconst dX10_fullest_0 ci_m1 ?_
  refine e_istore_n dX10_fullest_1 rfl rfl (by decide) ?_
  refine e_iconst dX10_fullest_2 ci_0 ?_
  refine e_istore_n dX10_fullest_3 rfl rfl (by decide) ?_
  exact h
abbrev K_X10_raise_29 (d n : Nat) (σ0 : St) (Q : St → Prop) (σ : St) (x1 : Int32) (x2 : Int32) : Prop := Ev (d, n, md_X10_raise, σ0, liV Q) M_X10_raise 29 [some (.ref 8), some (.int x1), some (.int x2)] [] σ
theorem B_X10_raise_29 {d n : Nat} {σ0 : St} {Q : St → Prop}  {σ : St} {x1 : Int32} {x2 : Int32} (hn : FIX ≤ n) (hd : 1 ≤ d) (h : (((gI σ 3 2) ≤ x2 → ∃ Q2 : St → Prop, Cn (d - 1) n M_X10_countSpare md_X10_countSpare [.ref 8] σ (liV Q2) ∧ ∀ (σ4 : St), Q2 σ4 → Fr md_X10_countSpare σ σ4 → Q σ4) ∧ (¬ (gI σ 3 2) ≤ x2 → vp_in x2 8 ∧ (((fn_X11_contains (gI σ 34 x2.toNatClampNeg) x1) = 0 → K_X10_raise_29 d n σ0 Q σ x1 (x2 + 1)) ∧ (¬ (fn_X11_contains (gI σ 34 x2.toNatClampNeg) x1) = 0 → ∃ Q9 : St → Prop, Cn (d - 1) n M_X10_buyFor md_X10_buyFor [.ref 8, .int x2] σ (liV Q9) ∧ ∀ (σ11 : St), Q9 σ11 → Fr md_X10_buyFor σ σ11 → K_X10_raise_29 d n σ0 Q σ11 x1 (x2 + 1)))))) : K_X10_raise_29 d n σ0 Q σ x1 x2 := by
  refine e_iload_n dX10_raise_29 rfl rfl ?_
  refine e_aload_n dX10_raise_30 rfl rfl ?_
  refine e_getR (y := 3) dX10_raise_31 fl_X10_31 (ob_8 hn) rfl rfl ?_
  refine e_getI dX10_raise_34 fl_X10_80 (ob_3 hn) rfl ?_
  refine e_icmp_ge (tgt := 64) dX10_raise_37 (by decide) (fun c1 => ?_) (fun c1 => ?_)
  · replace h := h.1 c1
    refine e_aload_n dX10_raise_64 rfl rfl ?_
    obtain ⟨Q2, hc3, h⟩ := h
    refine e_callV (M' := M_X10_countSpare) (as := []) (rest := []) dX10_raise_65 ml_X10_50 mk_X10_countSpare (ob_8 hn) rfl rfl rfl (Nat.le_of_ble_eq_true rfl) (show 0 < d by omega) hc3 (Md_le (b := md_X10_raise) (by decide)) (fun v σ4 hq hf => ?_)
    obtain ⟨rfl, hq⟩ := hq
    replace h := h σ4 hq hf
    exact e_vret dX10_raise_68 rfl ⟨rfl, h⟩
  · replace h := h.2 c1
    refine e_aload_n dX10_raise_40 rfl rfl ?_
    refine e_getR (y := 34) dX10_raise_41 fl_X10_9 (ob_8 hn) rfl rfl ?_
    refine e_iload_n dX10_raise_44 rfl rfl ?_
    refine e_iald dX10_raise_45 (ar_34 hn) h.1 ?_
    replace h := h.2
    refine e_iload_n dX10_raise_46 rfl rfl ?_
    refine e_callN (M' := M_X11_contains) (as := [.int (gI σ 34 x2.toNatClampNeg), .int x1]) (rest := []) dX10_raise_47 nl_X10_81 mk_X11_contains rfl (Nat.le_of_ble_eq_true rfl) (show 0 < d by omega) (sp_X11_contains) Md_nil (fun v σv hq hf => ?_)
    obtain ⟨v, rfl, rfl, rfl⟩ := hq
    refine e_if_eq (tgt := 58) dX10_raise_50 (by decide) (fun c8 => ?_) (fun c8 => ?_)
    · replace h := h.1 c8
      refine e_iinc dX10_raise_58 rfl (ii_1 _) rfl (by decide) ?_
      refine e_goto (tgt := 29) dX10_raise_61 (by decide) ?_
      exact h
    · replace h := h.2 c8
      refine e_aload_n dX10_raise_53 rfl rfl ?_
      refine e_iload_n dX10_raise_54 rfl rfl ?_
      obtain ⟨Q9, hc10, h⟩ := h
      refine e_callV (M' := M_X10_buyFor) (as := [.int x2]) (rest := []) dX10_raise_55 ml_X10_94 mk_X10_buyFor (ob_8 hn) rfl rfl rfl (Nat.le_of_ble_eq_true rfl) (show 0 < d by omega) hc10 (Md_le (b := md_X10_raise) (by decide)) (fun v σ11 hq hf => ?_)
      obtain ⟨rfl, hq⟩ := hq
      replace h := h σ11 hq hf
      refine e_iinc dX10_raise_58 rfl (ii_1 _) rfl (by decide) ?_
      refine e_goto (tgt := 29) dX10_raise_61 (by decide) ?_
      exact h
theorem S_X10_raise {d n : Nat} {Q : St → Prop} {σ : St} {a1 : Int32} (hn : FIX ≤ n) (hd : 1 ≤ d) (h : vp_in a1 10 ∧ vp_in a1 10 ∧ ∃ Q1 : St → Prop, Cn (d - 1) n M_X4_mark md_X4_mark [.ref 6, .ref 36] (sI σ 36 a1.toNatClampNeg ((gI σ 36 a1.toNatClampNeg) + (gI σ 6 3))) (liV Q1) ∧ ∀ (σ3 : St), Q1 σ3 → Fr md_X4_mark (sI σ 36 a1.toNatClampNeg ((gI σ 36 a1.toNatClampNeg) + (gI σ 6 3))) σ3 → K_X10_raise_29 d n σ Q σ3 a1 0) : Cn d n M_X10_raise md_X10_raise [.ref 8, .int a1] σ (liV Q) := by
  refine Cn.of (k0 := 1) (by decide) rfl ?_
  show Ev (d, n, md_X10_raise, σ, liV Q) M_X10_raise 0 [some (.ref 8), some (.int a1), none] [] σ
  refine e_aload_n dX10_raise_0 rfl rfl ?_
  refine e_getR (y := 36) dX10_raise_1 fl_X10_18 (ob_8 hn) rfl rfl ?_
  refine e_iload_n dX10_raise_4 rfl rfl ?_
  refine e_dup2 dX10_raise_5 rfl rfl ?_
  refine e_iald dX10_raise_6 (ar_36 hn) h.1 ?_
  replace h := h.2
  refine e_aload_n dX10_raise_7 rfl rfl ?_
  refine e_getR (y := 6) dX10_raise_8 fl_X10_35 (ob_8 hn) rfl rfl ?_
  refine e_getI dX10_raise_11 fl_X10_132 (ob_6 hn) rfl ?_
  refine e_iadd dX10_raise_14 ?_
  refine e_iast dX10_raise_15 (ar_36 hn) h.1 (md_r (m := md_X10_raise) (by decide)) ?_
  replace h := h.2
  refine e_aload_n dX10_raise_16 rfl rfl ?_
  refine e_getR (y := 6) dX10_raise_17 fl_X10_35 (ob_8 hn) rfl rfl ?_
  refine e_aload_n dX10_raise_20 rfl rfl ?_
  refine e_getR (y := 36) dX10_raise_21 fl_X10_18 (ob_8 hn) rfl rfl ?_
  obtain ⟨Q1, hc2, h⟩ := h
  refine e_callV (M' := M_X4_mark) (as := [.ref 36]) (rest := []) dX10_raise_24 ml_X10_90 mk_X4_mark (ob_6 hn) rfl rfl rfl (Nat.le_of_ble_eq_true rfl) (show 0 < d by omega) hc2 (Md_le (b := md_X10_raise) (by decide)) (fun v σ3 hq hf => ?_)
  obtain ⟨rfl, hq⟩ := hq
  replace h := h σ3 hq hf
  refine e_iconst dX10_raise_27 ci_0 ?_
  refine e_istore_n dX10_raise_28 rfl rfl (by decide) ?_
  exact h
abbrev K_X10_mended_24 (d n : Nat) (σ0 : St) (Q : St → Prop) (σ : St) (x1 : Int32) : Prop := Ev (d, n, md_X10_mended, σ0, liV Q) M_X10_mended 24 [some (.ref 8), some (.int x1), none] [] σ
abbrev K_X10_mended_57 (d n : Nat) (σ0 : St) (Q : St → Prop) (σ : St) (x1 : Int32) : Prop := Ev (d, n, md_X10_mended, σ0, liV Q) M_X10_mended 57 [some (.ref 8), some (.int x1), none] [] σ
theorem B_X10_mended_24 {d n : Nat} {σ0 : St} {Q : St → Prop}  {σ : St} {x1 : Int32} (hn : FIX ≤ n) (hd : 1 ≤ d) (h : (((2010 : Int32) ≤ x1 → K_X10_mended_57 d n σ0 Q σ 0) ∧ (¬ (2010 : Int32) ≤ x1 → ∃ Q2 : Int32 → St → Prop, Cn (d - 1) n M_X10_fullest md_X10_fullest [.ref 8] σ (liI Q2) ∧ ∀ (v5 : Int32) (σ4 : St), Q2 v5 σ4 → Fr md_X10_fullest σ σ4 → ((v5 ≠ (-1) → ∃ Q9 : St → Prop, Cn (d - 1) n M_X10_raise md_X10_raise [.ref 8, .int v5] σ4 (liV Q9) ∧ ∀ (σ11 : St), Q9 σ11 → Fr md_X10_raise σ4 σ11 → K_X10_mended_24 d n σ0 Q σ11 (x1 + 1)) ∧ (v5 = (-1) → K_X10_mended_57 d n σ0 Q σ4 0))))) : K_X10_mended_24 d n σ0 Q σ x1 := by
  refine e_iload_n dX10_mended_24 rfl rfl ?_
  refine e_sipush dX10_mended_25 cs_2010 ?_
  refine e_icmp_ge (tgt := 55) dX10_mended_28 (by decide) (fun c1 => ?_) (fun c1 => ?_)
  · replace h := h.1 c1
    refine e_iconst dX10_mended_55 ci_0 ?_
    refine e_istore_n dX10_mended_56 rfl rfl (by decide) ?_
    exact h
  · replace h := h.2 c1
    refine e_aload_n dX10_mended_31 rfl rfl ?_
    obtain ⟨Q2, hc3, h⟩ := h
    refine e_callV (M' := M_X10_fullest) (as := []) (rest := []) dX10_mended_32 ml_X10_121 mk_X10_fullest (ob_8 hn) rfl rfl rfl (Nat.le_of_ble_eq_true rfl) (show 0 < d by omega) hc3 (Md_le (b := md_X10_mended) (by decide)) (fun v σ4 hq hf => ?_)
    obtain ⟨v5, rfl, hq⟩ := hq
    replace h := h v5 σ4 hq hf
    refine e_istore_n dX10_mended_35 rfl rfl (by decide) ?_
    refine e_iload_n dX10_mended_36 rfl rfl ?_
    refine e_iconst dX10_mended_37 ci_m1 ?_
    refine e_icmp_ne (tgt := 44) dX10_mended_38 (by decide) (fun c8 => ?_) (fun c8 => ?_)
    · replace h := h.1 c8
      refine e_aload_n dX10_mended_44 rfl rfl ?_
      refine e_iload_n dX10_mended_45 rfl rfl ?_
      obtain ⟨Q9, hc10, h⟩ := h
      refine e_callV (M' := M_X10_raise) (as := [.int v5]) (rest := []) dX10_mended_46 ml_X10_125 mk_X10_raise (ob_8 hn) rfl rfl rfl (Nat.le_of_ble_eq_true rfl) (show 0 < d by omega) hc10 (Md_le (b := md_X10_mended) (by decide)) (fun v σ11 hq hf => ?_)
      obtain ⟨rfl, hq⟩ := hq
      replace h := h σ11 hq hf
      refine e_iinc dX10_mended_49 rfl (ii_1 _) rfl (by decide) ?_
      refine e_goto (tgt := 24) dX10_mended_52 (by decide) ?_
      refine e_kill [true, true, false] ?_
      exact h
    · replace h := h.2 c8
      refine e_goto (tgt := 55) dX10_mended_41 (by decide) ?_
      refine e_iconst dX10_mended_55 ci_0 ?_
      refine e_istore_n dX10_mended_56 rfl rfl (by decide) ?_
      refine e_kill [true, true, false] ?_
      exact h
theorem B_X10_mended_57 {d n : Nat} {σ0 : St} {Q : St → Prop}  {σ : St} {x1 : Int32} (hn : FIX ≤ n) (hd : 1 ≤ d) (h : (((80 : Int32) < x1 → Q σ) ∧ (¬ (80 : Int32) < x1 → ∃ Q2 : Int32 → St → Prop, Cn (d - 1) n M_X10_roundOfAdding md_X10_roundOfAdding [.ref 8, .int 1] σ (liI Q2) ∧ ∀ (v5 : Int32) (σ4 : St), Q2 v5 σ4 → Fr md_X10_roundOfAdding σ σ4 → ((v5 ≠ 0 → K_X10_mended_57 d n σ0 Q σ4 (x1 + 1)) ∧ (v5 = 0 → Q σ4))))) : K_X10_mended_57 d n σ0 Q σ x1 := by
  refine e_iload_n dX10_mended_57 rfl rfl ?_
  refine e_bipush dX10_mended_58 cb_80 ?_
  refine e_icmp_gt (tgt := 78) dX10_mended_60 (by decide) (fun c1 => ?_) (fun c1 => ?_)
  · replace h := h.1 c1
    exact e_vret dX10_mended_78 rfl ⟨rfl, h⟩
  · replace h := h.2 c1
    refine e_aload_n dX10_mended_63 rfl rfl ?_
    refine e_iconst dX10_mended_64 ci_1 ?_
    obtain ⟨Q2, hc3, h⟩ := h
    refine e_callV (M' := M_X10_roundOfAdding) (as := [.int 1]) (rest := []) dX10_mended_65 ml_X10_128 mk_X10_roundOfAdding (ob_8 hn) rfl rfl rfl (Nat.le_of_ble_eq_true rfl) (show 0 < d by omega) hc3 (Md_le (b := md_X10_mended) (by decide)) (fun v σ4 hq hf => ?_)
    obtain ⟨v5, rfl, hq⟩ := hq
    replace h := h v5 σ4 hq hf
    refine e_if_ne (tgt := 72) dX10_mended_68 (by decide) (fun c8 => ?_) (fun c8 => ?_)
    · replace h := h.1 c8
      refine e_iinc dX10_mended_72 rfl (ii_1 _) rfl (by decide) ?_
      refine e_goto (tgt := 57) dX10_mended_75 (by decide) ?_
      exact h
    · replace h := h.2 c8
      exact e_vret dX10_mended_71 rfl ⟨rfl, h⟩
theorem S_X10_mended {d n : Nat} {Q : St → Prop} {σ : St}  (hn : FIX ≤ n) (hd : 1 ≤ d) (h : ∃ Q1 : St → Prop, Cn (d - 1) n M_X10_byPrices md_X10_byPrices [.ref 8] σ (liV Q1) ∧ ∀ (σ3 : St), Q1 σ3 → Fr md_X10_byPrices σ σ3 → K_X10_mended_24 d n σ Q (sA σ3 36 (va_cpy (gI σ3 24) (gI σ3 36) 0 0 10)) 0) : Cn d n M_X10_mended md_X10_mended [.ref 8] σ (liV Q) := by
  refine Cn.of (k0 := 2) (by decide) rfl ?_
  show Ev (d, n, md_X10_mended, σ, liV Q) M_X10_mended 0 [some (.ref 8), none, none] [] σ
  refine e_aload_n dX10_mended_0 rfl rfl ?_
  obtain ⟨Q1, hc2, h⟩ := h
  refine e_callV (M' := M_X10_byPrices) (as := []) (rest := []) dX10_mended_1 ml_X10_53 mk_X10_byPrices (ob_8 hn) rfl rfl rfl (Nat.le_of_ble_eq_true rfl) (show 0 < d by omega) hc2 (Md_le (b := md_X10_mended) (by decide)) (fun v σ3 hq hf => ?_)
  obtain ⟨rfl, hq⟩ := hq
  replace h := h σ3 hq hf
  refine e_aload_n dX10_mended_4 rfl rfl ?_
  refine e_getR (y := 6) dX10_mended_5 fl_X10_35 (ob_8 hn) rfl rfl ?_
  refine e_getR (y := 24) dX10_mended_8 fl_X10_85 (ob_6 hn) rfl rfl ?_
  refine e_iconst dX10_mended_11 ci_0 ?_
  refine e_aload_n dX10_mended_12 rfl rfl ?_
  refine e_getR (y := 36) dX10_mended_13 fl_X10_18 (ob_8 hn) rfl rfl ?_
  refine e_iconst dX10_mended_16 ci_0 ?_
  refine e_bipush dX10_mended_17 cb_10 ?_
  refine e_copy dX10_mended_19 ml_X10_115 (ar_24 hn) (ar_36 hn) (by decide) (by decide) (by decide) (Nat.le_of_ble_eq_true rfl) (show 0 < d by omega) (fun _ => (md_r (m := md_X10_mended) (by decide))) ?_
  refine e_iconst dX10_mended_22 ci_0 ?_
  refine e_istore_n dX10_mended_23 rfl rfl (by decide) ?_
  exact h
abbrev K_X10_openLessons_4 (d n : Nat) (σ0 : St) (Q : Int32 → St → Prop) (σ : St) (x1 : Int32) (x2 : Int32) : Prop := Ev (d, n, md_X10_openLessons, σ0, liI Q) M_X10_openLessons 4 [some (.ref 8), some (.int x1), some (.int x2)] [] σ
theorem B_X10_openLessons_4 {d n : Nat} {σ0 : St} {Q : Int32 → St → Prop}  {σ : St} {x1 : Int32} {x2 : Int32} (hn : FIX ≤ n) (h : (((gI σ 1 0) ≤ x2 → Q x1 σ) ∧ (¬ (gI σ 1 0) ≤ x2 → vp_in x2 10 ∧ (((gI σ 35 x2.toNatClampNeg) ≤ 0 → K_X10_openLessons_4 d n σ0 Q σ x1 (x2 + 1)) ∧ (¬ (gI σ 35 x2.toNatClampNeg) ≤ 0 → K_X10_openLessons_4 d n σ0 Q σ (x1 ||| ((1 : Int32) <<< (x2 &&& 31))) (x2 + 1)))))) : K_X10_openLessons_4 d n σ0 Q σ x1 x2 := by
  refine e_iload_n dX10_openLessons_4 rfl rfl ?_
  refine e_aload_n dX10_openLessons_5 rfl rfl ?_
  refine e_getR (y := 1) dX10_openLessons_6 fl_X10_27 (ob_8 hn) rfl rfl ?_
  refine e_getI dX10_openLessons_9 fl_X10_71 (ob_1 hn) rfl ?_
  refine e_icmp_ge (tgt := 36) dX10_openLessons_12 (by decide) (fun c1 => ?_) (fun c1 => ?_)
  · replace h := h.1 c1
    refine e_iload_n dX10_openLessons_36 rfl rfl ?_
    exact e_iret dX10_openLessons_37 rfl ⟨_, rfl, h⟩
  · replace h := h.2 c1
    refine e_aload_n dX10_openLessons_15 rfl rfl ?_
    refine e_getR (y := 35) dX10_openLessons_16 fl_X10_15 (ob_8 hn) rfl rfl ?_
    refine e_iload_n dX10_openLessons_19 rfl rfl ?_
    refine e_iald dX10_openLessons_20 (ar_35 hn) h.1 ?_
    replace h := h.2
    refine e_if_le (tgt := 30) dX10_openLessons_21 (by decide) (fun c2 => ?_) (fun c2 => ?_)
    · replace h := h.1 c2
      refine e_iinc dX10_openLessons_30 rfl (ii_1 _) rfl (by decide) ?_
      refine e_goto (tgt := 4) dX10_openLessons_33 (by decide) ?_
      exact h
    · replace h := h.2 c2
      refine e_iload_n dX10_openLessons_24 rfl rfl ?_
      refine e_iconst dX10_openLessons_25 ci_1 ?_
      refine e_iload_n dX10_openLessons_26 rfl rfl ?_
      refine e_ishl dX10_openLessons_27 ?_
      refine e_ior dX10_openLessons_28 ?_
      refine e_istore_n dX10_openLessons_29 rfl rfl (by decide) ?_
      refine e_iinc dX10_openLessons_30 rfl (ii_1 _) rfl (by decide) ?_
      refine e_goto (tgt := 4) dX10_openLessons_33 (by decide) ?_
      exact h
theorem S_X10_openLessons {d n : Nat} {Q : Int32 → St → Prop} {σ : St}  (hn : FIX ≤ n) (h : K_X10_openLessons_4 d n σ Q σ 0 0) : Cn d n M_X10_openLessons md_X10_openLessons [.ref 8] σ (liI Q) := by
  refine Cn.of (k0 := 2) (by decide) rfl ?_
  show Ev (d, n, md_X10_openLessons, σ, liI Q) M_X10_openLessons 0 [some (.ref 8), none, none] [] σ
  refine e_iconst dX10_openLessons_0 ci_0 ?_
  refine e_istore_n dX10_openLessons_1 rfl rfl (by decide) ?_
  refine e_iconst dX10_openLessons_2 ci_0 ?_
  refine e_istore_n dX10_openLessons_3 rfl rfl (by decide) ?_
  exact h
abbrev K_X10_oneAfterAnother_2 (d n : Nat) (σ0 : St) (Q : St → Prop) (σ : St) (x1 : Int32) : Prop := Ev (d, n, md_X10_oneAfterAnother, σ0, liV Q) M_X10_oneAfterAnother 2 [some (.ref 8), some (.int x1), none] [] σ
theorem B_X10_oneAfterAnother_2 {d n : Nat} {σ0 : St} {Q : St → Prop}  {σ : St} {x1 : Int32} (hn : FIX ≤ n) (hd : 1 ≤ d) (h : (((gI σ 3 2) ≤ x1 → Q σ) ∧ (¬ (gI σ 3 2) ≤ x1 → vp_in x1 8 ∧ ∃ pp2, gR σ x1.toNatClampNeg = some pp2 ∧ IsP n pp2 ∧ ∃ Q3 : Int32 → St → Prop, Cn (d - 1) n M_X10_openLessons md_X10_openLessons [.ref 8] σ (liI Q3) ∧ ∀ (v6 : Int32) (σ5 : St), Q3 v6 σ5 → Fr md_X10_openLessons σ σ5 → ∃ Q9 : Int32 → St → Prop, Cn (d - 1) n M_X5_rankWithin md_X5_rankWithin [.ref pp2, .int v6] σ5 (liI Q9) ∧ ∀ (v12 : Int32) (σ11 : St), Q9 v12 σ11 → Fr md_X5_rankWithin σ5 σ11 → pre_X5_bundleAt σ11 pp2 v12 ∧ ∃ Q15 : St → Prop, Cn (d - 1) n M_X10_take md_X10_take [.ref 8, .int x1, .int (fn_X5_bundleAt σ11 pp2 v12)] σ11 (liV Q15) ∧ ∀ (σ17 : St), Q15 σ17 → Fr md_X10_take σ11 σ17 → K_X10_oneAfterAnother_2 d n σ0 Q σ17 (x1 + 1)))) : K_X10_oneAfterAnother_2 d n σ0 Q σ x1 := by
  refine e_iload_n dX10_oneAfterAnother_2 rfl rfl ?_
  refine e_aload_n dX10_oneAfterAnother_3 rfl rfl ?_
  refine e_getR (y := 3) dX10_oneAfterAnother_4 fl_X10_31 (ob_8 hn) rfl rfl ?_
  refine e_getI dX10_oneAfterAnother_7 fl_X10_80 (ob_3 hn) rfl ?_
  refine e_icmp_ge (tgt := 46) dX10_oneAfterAnother_10 (by decide) (fun c1 => ?_) (fun c1 => ?_)
  · replace h := h.1 c1
    exact e_vret dX10_oneAfterAnother_46 rfl ⟨rfl, h⟩
  · replace h := h.2 c1
    refine e_aload_n dX10_oneAfterAnother_13 rfl rfl ?_
    refine e_getR (y := 3) dX10_oneAfterAnother_14 fl_X10_31 (ob_8 hn) rfl rfl ?_
    refine e_getR (y := 18) dX10_oneAfterAnother_17 fl_X10_98 (ob_3 hn) rfl rfl ?_
    refine e_iload_n dX10_oneAfterAnother_20 rfl rfl ?_
    obtain ⟨hi, pp2, hg, hp_pp2, h⟩ := h
    refine e_aldP dX10_oneAfterAnother_21 hn hi hg ?_
    refine e_astore_n dX10_oneAfterAnother_22 rfl rfl (by decide) ?_
    refine e_aload_n dX10_oneAfterAnother_23 rfl rfl ?_
    refine e_iload_n dX10_oneAfterAnother_24 rfl rfl ?_
    refine e_aload_n dX10_oneAfterAnother_25 rfl rfl ?_
    refine e_aload_n dX10_oneAfterAnother_26 rfl rfl ?_
    refine e_aload_n dX10_oneAfterAnother_27 rfl rfl ?_
    obtain ⟨Q3, hc4, h⟩ := h
    refine e_callV (M' := M_X10_openLessons) (as := []) (rest := [.ref pp2, .ref pp2, .int x1, .ref 8]) dX10_oneAfterAnother_28 ml_X10_156 mk_X10_openLessons (ob_8 hn) rfl rfl rfl (Nat.le_of_ble_eq_true rfl) (show 0 < d by omega) hc4 (Md_le (b := md_X10_oneAfterAnother) (by decide)) (fun v σ5 hq hf => ?_)
    obtain ⟨v6, rfl, hq⟩ := hq
    replace h := h v6 σ5 hq hf
    obtain ⟨Q9, hc10, h⟩ := h
    refine e_callV (M' := M_X5_rankWithin) (as := [.int v6]) (rest := [.ref pp2, .int x1, .ref 8]) dX10_oneAfterAnother_31 ml_X10_159 mk_X5_rankWithin (Ob.p hp_pp2) rfl rfl rfl (Nat.le_of_ble_eq_true rfl) (show 0 < d by omega) hc10 (Md_le (b := md_X10_oneAfterAnother) (by decide)) (fun v σ11 hq hf => ?_)
    obtain ⟨v12, rfl, hq⟩ := hq
    replace h := h v12 σ11 hq hf
    refine e_callV (M' := M_X5_bundleAt) (as := [.int v12]) (rest := [.int x1, .ref 8]) dX10_oneAfterAnother_34 ml_X10_106 mk_X5_bundleAt (Ob.p hp_pp2) rfl rfl rfl (Nat.le_of_ble_eq_true rfl) (show 0 < d by omega) (sp_X5_bundleAt hp_pp2 h.1) Md_nil (fun v σv hq hf => ?_)
    obtain ⟨v, rfl, rfl, rfl⟩ := hq
    replace h := h.2
    obtain ⟨Q15, hc16, h⟩ := h
    refine e_callV (M' := M_X10_take) (as := [.int x1, .int (fn_X5_bundleAt σ11 pp2 v12)]) (rest := []) dX10_oneAfterAnother_37 ml_X10_145 mk_X10_take (ob_8 hn) rfl rfl rfl (Nat.le_of_ble_eq_true rfl) (show 0 < d by omega) hc16 (Md_le (b := md_X10_oneAfterAnother) (by decide)) (fun v σ17 hq hf => ?_)
    obtain ⟨rfl, hq⟩ := hq
    replace h := h σ17 hq hf
    refine e_iinc dX10_oneAfterAnother_40 rfl (ii_1 _) rfl (by decide) ?_
    refine e_goto (tgt := 2) dX10_oneAfterAnother_43 (by decide) ?_
    refine e_kill [true, true, false] ?_
    exact h
theorem S_X10_oneAfterAnother {d n : Nat} {Q : St → Prop} {σ : St}  (hn : FIX ≤ n) (hd : 1 ≤ d) (h : K_X10_oneAfterAnother_2 d n σ Q σ 0) : Cn d n M_X10_oneAfterAnother md_X10_oneAfterAnother [.ref 8] σ (liV Q) := by
  refine Cn.of (k0 := 2) (by decide) rfl ?_
  show Ev (d, n, md_X10_oneAfterAnother, σ, liV Q) M_X10_oneAfterAnother 0 [some (.ref 8), none, none] [] σ
  refine e_iconst dX10_oneAfterAnother_0 ci_0 ?_
  refine e_istore_n dX10_oneAfterAnother_1 rfl rfl (by decide) ?_
  exact h
theorem S_X10_run {d n : Nat} {Q : St → Prop} {σ : St} {a1 : Int32} (hn : FIX ≤ n) (hd : 1 ≤ d) (h : ∃ Q1 : St → Prop, Cn (d - 1) n M_X1_freshenAll md_X1_freshenAll [.ref 3] σ (liV Q1) ∧ ∀ (σ3 : St), Q1 σ3 → Fr md_X1_freshenAll σ σ3 → ∃ Q7 : St → Prop, Cn (d - 1) n M_J7_fill_53178 (md_J7_fill_53178 34) [.ref 34, .int 0] σ3 (liV Q7) ∧ ∀ (σ9 : St), Q7 σ9 → Fr (md_J7_fill_53178 34) σ3 σ9 → ∃ Q13 : St → Prop, Cn (d - 1) n M_X10_countSpare md_X10_countSpare [.ref 8] σ9 (liV Q13) ∧ ∀ (σ15 : St), Q13 σ15 → Fr md_X10_countSpare σ9 σ15 → ((a1.toInt = 0 → ∃ Q26 : St → Prop, Cn (d - 1) n M_X10_byPrices md_X10_byPrices [.ref 8] σ15 (liV Q26) ∧ ∀ (σ28 : St), Q26 σ28 → Fr md_X10_byPrices σ15 σ28 → Q σ28) ∧ (a1.toInt = 1 → ∃ Q32 : St → Prop, Cn (d - 1) n M_X10_mended md_X10_mended [.ref 8] σ15 (liV Q32) ∧ ∀ (σ34 : St), Q32 σ34 → Fr md_X10_mended σ15 σ34 → Q σ34) ∧ (a1.toInt = 2 → ∃ Q38 : St → Prop, Cn (d - 1) n M_X10_byTurns md_X10_byTurns [.ref 8] σ15 (liV Q38) ∧ ∀ (σ40 : St), Q38 σ40 → Fr md_X10_byTurns σ15 σ40 → Q σ40) ∧ (a1.toInt = 3 → ∃ Q44 : St → Prop, Cn (d - 1) n M_X10_byBids md_X10_byBids [.ref 8] σ15 (liV Q44) ∧ ∀ (σ46 : St), Q44 σ46 → Fr md_X10_byBids σ15 σ46 → Q σ46) ∧ (a1.toInt = 4 → ∃ Q50 : St → Prop, Cn (d - 1) n M_X10_oneAfterAnother md_X10_oneAfterAnother [.ref 8] σ15 (liV Q50) ∧ ∀ (σ52 : St), Q50 σ52 → Fr md_X10_oneAfterAnother σ15 σ52 → Q σ52) ∧ (a1.toInt < 0 ∨ 4 < a1.toInt → ∃ Q20 : St → Prop, Cn (d - 1) n M_X10_byHand md_X10_byHand [.ref 8] σ15 (liV Q20) ∧ ∀ (σ22 : St), Q20 σ22 → Fr md_X10_byHand σ15 σ22 → Q σ22))) : Cn d n M_X10_run md_X10_run [.ref 8, .int a1] σ (liV Q) := by
  refine Cn.of (k0 := 0) (by decide) rfl ?_
  show Ev (d, n, md_X10_run, σ, liV Q) M_X10_run 0 [some (.ref 8), some (.int a1)] [] σ
  refine e_aload_n dX10_run_0 rfl rfl ?_
  refine e_getR (y := 3) dX10_run_1 fl_X10_31 (ob_8 hn) rfl rfl ?_
  obtain ⟨Q1, hc2, h⟩ := h
  refine e_callV (M' := M_X1_freshenAll) (as := []) (rest := []) dX10_run_4 ml_X10_39 mk_X1_freshenAll (ob_3 hn) rfl rfl rfl (Nat.le_of_ble_eq_true rfl) (show 0 < d by omega) hc2 (Md_le (b := md_X10_run) (by decide)) (fun v σ3 hq hf => ?_)
  obtain ⟨rfl, hq⟩ := hq
  replace h := h σ3 hq hf
  refine e_aload_n dX10_run_7 rfl rfl ?_
  refine e_getR (y := 34) dX10_run_8 fl_X10_9 (ob_8 hn) rfl rfl ?_
  refine e_iconst dX10_run_11 ci_0 ?_
  obtain ⟨Q7, hc8, h⟩ := h
  refine e_callS (M' := M_J7_fill_53178) (as := [.ref 34, .int 0]) (rest := []) dX10_run_12 ml_X10_44 mk_J7_fill_53178 rfl (Nat.le_of_ble_eq_true rfl) (show 0 < d by omega) hc8 (Md_le (b := md_X10_run) (by decide)) (fun v σ9 hq hf => ?_)
  obtain ⟨rfl, hq⟩ := hq
  replace h := h σ9 hq hf
  refine e_aload_n dX10_run_15 rfl rfl ?_
  obtain ⟨Q13, hc14, h⟩ := h
  refine e_callV (M' := M_X10_countSpare) (as := []) (rest := []) dX10_run_16 ml_X10_50 mk_X10_countSpare (ob_8 hn) rfl rfl rfl (Nat.le_of_ble_eq_true rfl) (show 0 < d by omega) hc14 (Md_le (b := md_X10_run) (by decide)) (fun v σ15 hq hf => ?_)
  obtain ⟨rfl, hq⟩ := hq
  replace h := h σ15 hq hf
  refine e_iload_n dX10_run_19 rfl rfl ?_
  by_cases c19 : a1.toInt < 0 ∨ 4 < a1.toInt
  · refine e_tableOut (tgt := 91) dX10_run_20 c19 (by decide) ?_
    replace h := h.2.2.2.2.2 c19
    refine e_aload_n dX10_run_91 rfl rfl ?_
    obtain ⟨Q20, hc21, h⟩ := h
    refine e_callV (M' := M_X10_byHand) (as := []) (rest := []) dX10_run_92 ml_X10_68 mk_X10_byHand (ob_8 hn) rfl rfl rfl (Nat.le_of_ble_eq_true rfl) (show 0 < d by omega) hc21 (Md_le (b := md_X10_run) (by decide)) (fun v σ22 hq hf => ?_)
    obtain ⟨rfl, hq⟩ := hq
    replace h := h σ22 hq hf
    exact e_vret dX10_run_95 rfl ⟨rfl, h⟩
  · rcases (show a1.toInt = 0 ∨ a1.toInt = 1 ∨ a1.toInt = 2 ∨ a1.toInt = 3 ∨ a1.toInt = 4 by omega) with c19 | c19 | c19 | c19 | c19
    · refine e_tableIn (tgt := 56) (off := 36) dX10_run_20 (by omega) (by omega) (by rw [c19]; rfl) (by decide) ?_
      replace h := h.1 c19
      refine e_aload_n dX10_run_56 rfl rfl ?_
      obtain ⟨Q26, hc27, h⟩ := h
      refine e_callV (M' := M_X10_byPrices) (as := []) (rest := []) dX10_run_57 ml_X10_53 mk_X10_byPrices (ob_8 hn) rfl rfl rfl (Nat.le_of_ble_eq_true rfl) (show 0 < d by omega) hc27 (Md_le (b := md_X10_run) (by decide)) (fun v σ28 hq hf => ?_)
      obtain ⟨rfl, hq⟩ := hq
      replace h := h σ28 hq hf
      refine e_goto (tgt := 95) dX10_run_60 (by decide) ?_
      exact e_vret dX10_run_95 rfl ⟨rfl, h⟩
    · refine e_tableIn (tgt := 63) (off := 43) dX10_run_20 (by omega) (by omega) (by rw [c19]; rfl) (by decide) ?_
      replace h := h.2.1 c19
      refine e_aload_n dX10_run_63 rfl rfl ?_
      obtain ⟨Q32, hc33, h⟩ := h
      refine e_callV (M' := M_X10_mended) (as := []) (rest := []) dX10_run_64 ml_X10_56 mk_X10_mended (ob_8 hn) rfl rfl rfl (Nat.le_of_ble_eq_true rfl) (show 0 < d by omega) hc33 (Md_le (b := md_X10_run) (by decide)) (fun v σ34 hq hf => ?_)
      obtain ⟨rfl, hq⟩ := hq
      replace h := h σ34 hq hf
      refine e_goto (tgt := 95) dX10_run_67 (by decide) ?_
      exact e_vret dX10_run_95 rfl ⟨rfl, h⟩
    · refine e_tableIn (tgt := 70) (off := 50) dX10_run_20 (by omega) (by omega) (by rw [c19]; rfl) (by decide) ?_
      replace h := h.2.2.1 c19
      refine e_aload_n dX10_run_70 rfl rfl ?_
      obtain ⟨Q38, hc39, h⟩ := h
      refine e_callV (M' := M_X10_byTurns) (as := []) (rest := []) dX10_run_71 ml_X10_59 mk_X10_byTurns (ob_8 hn) rfl rfl rfl (Nat.le_of_ble_eq_true rfl) (show 0 < d by omega) hc39 (Md_le (b := md_X10_run) (by decide)) (fun v σ40 hq hf => ?_)
      obtain ⟨rfl, hq⟩ := hq
      replace h := h σ40 hq hf
      refine e_goto (tgt := 95) dX10_run_74 (by decide) ?_
      exact e_vret dX10_run_95 rfl ⟨rfl, h⟩
    · refine e_tableIn (tgt := 77) (off := 57) dX10_run_20 (by omega) (by omega) (by rw [c19]; rfl) (by decide) ?_
      replace h := h.2.2.2.1 c19
      refine e_aload_n dX10_run_77 rfl rfl ?_
      obtain ⟨Q44, hc45, h⟩ := h
      refine e_callV (M' := M_X10_byBids) (as := []) (rest := []) dX10_run_78 ml_X10_62 mk_X10_byBids (ob_8 hn) rfl rfl rfl (Nat.le_of_ble_eq_true rfl) (show 0 < d by omega) hc45 (Md_le (b := md_X10_run) (by decide)) (fun v σ46 hq hf => ?_)
      obtain ⟨rfl, hq⟩ := hq
      replace h := h σ46 hq hf
      refine e_goto (tgt := 95) dX10_run_81 (by decide) ?_
      exact e_vret dX10_run_95 rfl ⟨rfl, h⟩
    · refine e_tableIn (tgt := 84) (off := 64) dX10_run_20 (by omega) (by omega) (by rw [c19]; rfl) (by decide) ?_
      replace h := h.2.2.2.2.1 c19
      refine e_aload_n dX10_run_84 rfl rfl ?_
      obtain ⟨Q50, hc51, h⟩ := h
      refine e_callV (M' := M_X10_oneAfterAnother) (as := []) (rest := []) dX10_run_85 ml_X10_65 mk_X10_oneAfterAnother (ob_8 hn) rfl rfl rfl (Nat.le_of_ble_eq_true rfl) (show 0 < d by omega) hc51 (Md_le (b := md_X10_run) (by decide)) (fun v σ52 hq hf => ?_)
      obtain ⟨rfl, hq⟩ := hq
      replace h := h σ52 hq hf
      refine e_goto (tgt := 95) dX10_run_88 (by decide) ?_
      exact e_vret dX10_run_95 rfl ⟨rfl, h⟩
theorem S_X11_lesson {d n : Nat} {Q : Int32 → St → Prop} {σ : St} {a1 : Int32} {a2 : Int32} {a3 : Int32} (hn : FIX ≤ n) (hd : 1 ≤ d) (h : ∃ Q1 : Int32 → St → Prop, Cn (d - 1) n M_X6_addLesson md_X6_addLesson [.ref 1, .int a1, .int a2, .int a3] σ (liI Q1) ∧ ∀ (v4 : Int32) (σ3 : St), Q1 v4 σ3 → Fr md_X6_addLesson σ σ3 → ((v4 = (-1) → Q v4 σ3) ∧ (¬ v4 = (-1) → ∃ Q8 : St → Prop, Cn (d - 1) n M_X1_forgetAll md_X1_forgetAll [.ref 3] σ3 (liV Q8) ∧ ∀ (σ10 : St), Q8 σ10 → Fr md_X1_forgetAll σ3 σ10 → Q v4 σ10))) : Cn d n M_X11_lesson md_X11_lesson [.ref 0, .int a1, .int a2, .int a3] σ (liI Q) := by
  refine Cn.of (k0 := 1) (by decide) rfl ?_
  show Ev (d, n, md_X11_lesson, σ, liI Q) M_X11_lesson 0 [some (.ref 0), some (.int a1), some (.int a2), some (.int a3), none] [] σ
  refine e_aload_n dX11_lesson_0 rfl rfl ?_
  refine e_getR (y := 1) dX11_lesson_1 fl_X11_10 (ob_0 hn) rfl rfl ?_
  refine e_iload_n dX11_lesson_4 rfl rfl ?_
  refine e_iload_n dX11_lesson_5 rfl rfl ?_
  refine e_iload_n dX11_lesson_6 rfl rfl ?_
  obtain ⟨Q1, hc2, h⟩ := h
  refine e_callV (M' := M_X6_addLesson) (as := [.int a1, .int a2, .int a3]) (rest := []) dX11_lesson_7 ml_X11_106 mk_X6_addLesson (ob_1 hn) rfl rfl rfl (Nat.le_of_ble_eq_true rfl) (show 0 < d by omega) hc2 (Md_le (b := md_X11_lesson) (by decide)) (fun v σ3 hq hf => ?_)
  obtain ⟨v4, rfl, hq⟩ := hq
  replace h := h v4 σ3 hq hf
  refine e_istore dX11_lesson_10 rfl (by decide) ?_
  refine e_iload dX11_lesson_12 rfl ?_
  refine e_iconst dX11_lesson_14 ci_m1 ?_
  refine e_icmp_eq (tgt := 25) dX11_lesson_15 (by decide) (fun c7 => ?_) (fun c7 => ?_)
  · replace h := h.1 c7
    refine e_iload dX11_lesson_25 rfl ?_
    exact e_iret dX11_lesson_27 rfl ⟨_, rfl, h⟩
  · replace h := h.2 c7
    refine e_aload_n dX11_lesson_18 rfl rfl ?_
    refine e_getR (y := 3) dX11_lesson_19 fl_X11_30 (ob_0 hn) rfl rfl ?_
    obtain ⟨Q8, hc9, h⟩ := h
    refine e_callV (M' := M_X1_forgetAll) (as := []) (rest := []) dX11_lesson_22 ml_X11_110 mk_X1_forgetAll (ob_3 hn) rfl rfl rfl (Nat.le_of_ble_eq_true rfl) (show 0 < d by omega) hc9 (Md_le (b := md_X11_lesson) (by decide)) (fun v σ10 hq hf => ?_)
    obtain ⟨rfl, hq⟩ := hq
    replace h := h σ10 hq hf
    refine e_iload dX11_lesson_25 rfl ?_
    exact e_iret dX11_lesson_27 rfl ⟨_, rfl, h⟩
theorem S_X11_places {d n : Nat} {Q : Int32 → St → Prop} {σ : St} {a1 : Int32} {a2 : Int32} (hn : FIX ≤ n) (hd : 1 ≤ d) (h : (((fn_X6_isLesson σ a1) = 0 → Q 0 σ) ∧ (¬ (fn_X6_isLesson σ a1) = 0 → ((a2 < 0 → Q 0 σ) ∧ (¬ a2 < 0 → ((a2 ≤ 9 → vp_in a1 10 ∧ Q 1 (sI σ 12 a1.toNatClampNeg a2)) ∧ (¬ a2 ≤ 9 → Q 0 σ))))))) : Cn d n M_X11_places md_X11_places [.ref 0, .int a1, .int a2] σ (liI Q) := by
  refine Cn.of (k0 := 0) (by decide) rfl ?_
  show Ev (d, n, md_X11_places, σ, liI Q) M_X11_places 0 [some (.ref 0), some (.int a1), some (.int a2)] [] σ
  refine e_aload_n dX11_places_0 rfl rfl ?_
  refine e_getR (y := 1) dX11_places_1 fl_X11_10 (ob_0 hn) rfl rfl ?_
  refine e_iload_n dX11_places_4 rfl rfl ?_
  refine e_callV (M' := M_X6_isLesson) (as := [.int a1]) (rest := []) dX11_places_5 ml_X11_113 mk_X6_isLesson (ob_1 hn) rfl rfl rfl (Nat.le_of_ble_eq_true rfl) (show 0 < d by omega) (sp_X6_isLesson hn) Md_nil (fun v σv hq hf => ?_)
  obtain ⟨v, rfl, rfl, rfl⟩ := hq
  refine e_if_eq (tgt := 21) dX11_places_8 (by decide) (fun c1 => ?_) (fun c1 => ?_)
  · replace h := h.1 c1
    refine e_iconst dX11_places_21 ci_0 ?_
    exact e_zret dX11_places_22 rfl (nar_z (Or.inl rfl)) ⟨_, rfl, h⟩
  · replace h := h.2 c1
    refine e_iload_n dX11_places_11 rfl rfl ?_
    refine e_if_lt (tgt := 21) dX11_places_12 (by decide) (fun c2 => ?_) (fun c2 => ?_)
    · replace h := h.1 c2
      refine e_iconst dX11_places_21 ci_0 ?_
      exact e_zret dX11_places_22 rfl (nar_z (Or.inl rfl)) ⟨_, rfl, h⟩
    · replace h := h.2 c2
      refine e_iload_n dX11_places_15 rfl rfl ?_
      refine e_bipush dX11_places_16 cb_9 ?_
      refine e_icmp_le (tgt := 23) dX11_places_18 (by decide) (fun c3 => ?_) (fun c3 => ?_)
      · replace h := h.1 c3
        refine e_aload_n dX11_places_23 rfl rfl ?_
        refine e_getR (y := 1) dX11_places_24 fl_X11_10 (ob_0 hn) rfl rfl ?_
        refine e_getR (y := 12) dX11_places_27 fl_X11_117 (ob_1 hn) rfl rfl ?_
        refine e_iload_n dX11_places_30 rfl rfl ?_
        refine e_iload_n dX11_places_31 rfl rfl ?_
        refine e_iast dX11_places_32 (ar_12 hn) h.1 (md_r (m := md_X11_places) (by decide)) ?_
        replace h := h.2
        refine e_iconst dX11_places_33 ci_1 ?_
        exact e_zret dX11_places_34 rfl (nar_z (Or.inr rfl)) ⟨_, rfl, h⟩
      · replace h := h.2 c3
        refine e_iconst dX11_places_21 ci_0 ?_
        exact e_zret dX11_places_22 rfl (nar_z (Or.inl rfl)) ⟨_, rfl, h⟩
theorem S_X11_after {d n : Nat} {Q : Int32 → St → Prop} {σ : St} {a1 : Int32} {a2 : Int32} (hn : FIX ≤ n) (hd : 1 ≤ d) (h : ∃ Q1 : Int32 → St → Prop, Cn (d - 1) n M_X6_addCouple md_X6_addCouple [.ref 1, .int a1, .int a2] σ (liI Q1) ∧ ∀ (v4 : Int32) (σ3 : St), Q1 v4 σ3 → Fr md_X6_addCouple σ σ3 → ((v4 = (-1) → Q v4 σ3) ∧ (¬ v4 = (-1) → ∃ Q8 : St → Prop, Cn (d - 1) n M_X1_forgetAll md_X1_forgetAll [.ref 3] σ3 (liV Q8) ∧ ∀ (σ10 : St), Q8 σ10 → Fr md_X1_forgetAll σ3 σ10 → Q v4 σ10))) : Cn d n M_X11_after md_X11_after [.ref 0, .int a1, .int a2] σ (liI Q) := by
  refine Cn.of (k0 := 1) (by decide) rfl ?_
  show Ev (d, n, md_X11_after, σ, liI Q) M_X11_after 0 [some (.ref 0), some (.int a1), some (.int a2), none] [] σ
  refine e_aload_n dX11_after_0 rfl rfl ?_
  refine e_getR (y := 1) dX11_after_1 fl_X11_10 (ob_0 hn) rfl rfl ?_
  refine e_iload_n dX11_after_4 rfl rfl ?_
  refine e_iload_n dX11_after_5 rfl rfl ?_
  obtain ⟨Q1, hc2, h⟩ := h
  refine e_callV (M' := M_X6_addCouple) (as := [.int a1, .int a2]) (rest := []) dX11_after_6 ml_X11_121 mk_X6_addCouple (ob_1 hn) rfl rfl rfl (Nat.le_of_ble_eq_true rfl) (show 0 < d by omega) hc2 (Md_le (b := md_X11_after) (by decide)) (fun v σ3 hq hf => ?_)
  obtain ⟨v4, rfl, hq⟩ := hq
  replace h := h v4 σ3 hq hf
  refine e_istore_n dX11_after_9 rfl rfl (by decide) ?_
  refine e_iload_n dX11_after_10 rfl rfl ?_
  refine e_iconst dX11_after_11 ci_m1 ?_
  refine e_icmp_eq (tgt := 22) dX11_after_12 (by decide) (fun c7 => ?_) (fun c7 => ?_)
  · replace h := h.1 c7
    refine e_iload_n dX11_after_22 rfl rfl ?_
    exact e_iret dX11_after_23 rfl ⟨_, rfl, h⟩
  · replace h := h.2 c7
    refine e_aload_n dX11_after_15 rfl rfl ?_
    refine e_getR (y := 3) dX11_after_16 fl_X11_30 (ob_0 hn) rfl rfl ?_
    obtain ⟨Q8, hc9, h⟩ := h
    refine e_callV (M' := M_X1_forgetAll) (as := []) (rest := []) dX11_after_19 ml_X11_110 mk_X1_forgetAll (ob_3 hn) rfl rfl rfl (Nat.le_of_ble_eq_true rfl) (show 0 < d by omega) hc9 (Md_le (b := md_X11_after) (by decide)) (fun v σ10 hq hf => ?_)
    obtain ⟨rfl, hq⟩ := hq
    replace h := h σ10 hq hf
    refine e_iload_n dX11_after_22 rfl rfl ?_
    exact e_iret dX11_after_23 rfl ⟨_, rfl, h⟩
theorem S_X11_most {d n : Nat} {Q : Int32 → St → Prop} {σ : St} {a1 : Int32} (hn : FIX ≤ n) (hd : 1 ≤ d) (h : ((a1 < 1 → Q 0 σ) ∧ (¬ a1 < 1 → ((a1 ≤ 6 → ∃ Q3 : St → Prop, Cn (d - 1) n M_X1_forgetAll md_X1_forgetAll [.ref 3] (sI σ 1 1 a1) (liV Q3) ∧ ∀ (σ5 : St), Q3 σ5 → Fr md_X1_forgetAll (sI σ 1 1 a1) σ5 → Q 1 σ5) ∧ (¬ a1 ≤ 6 → Q 0 σ))))) : Cn d n M_X11_most md_X11_most [.ref 0, .int a1] σ (liI Q) := by
  refine Cn.of (k0 := 0) (by decide) rfl ?_
  show Ev (d, n, md_X11_most, σ, liI Q) M_X11_most 0 [some (.ref 0), some (.int a1)] [] σ
  refine e_iload_n dX11_most_0 rfl rfl ?_
  refine e_iconst dX11_most_1 ci_1 ?_
  refine e_icmp_lt (tgt := 11) dX11_most_2 (by decide) (fun c1 => ?_) (fun c1 => ?_)
  · replace h := h.1 c1
    refine e_iconst dX11_most_11 ci_0 ?_
    exact e_zret dX11_most_12 rfl (nar_z (Or.inl rfl)) ⟨_, rfl, h⟩
  · replace h := h.2 c1
    refine e_iload_n dX11_most_5 rfl rfl ?_
    refine e_bipush dX11_most_6 cb_6 ?_
    refine e_icmp_le (tgt := 13) dX11_most_8 (by decide) (fun c2 => ?_) (fun c2 => ?_)
    · replace h := h.1 c2
      refine e_aload_n dX11_most_13 rfl rfl ?_
      refine e_getR (y := 1) dX11_most_14 fl_X11_10 (ob_0 hn) rfl rfl ?_
      refine e_iload_n dX11_most_17 rfl rfl ?_
      refine e_putI dX11_most_18 fl_X11_125 (ob_1 hn) rfl (fpI_6_1 _) (md_c (m := md_X11_most) (by decide)) ?_
      refine e_aload_n dX11_most_21 rfl rfl ?_
      refine e_getR (y := 3) dX11_most_22 fl_X11_30 (ob_0 hn) rfl rfl ?_
      obtain ⟨Q3, hc4, h⟩ := h
      refine e_callV (M' := M_X1_forgetAll) (as := []) (rest := []) dX11_most_25 ml_X11_110 mk_X1_forgetAll (ob_3 hn) rfl rfl rfl (Nat.le_of_ble_eq_true rfl) (show 0 < d by omega) hc4 (Md_le (b := md_X11_most) (by decide)) (fun v σ5 hq hf => ?_)
      obtain ⟨rfl, hq⟩ := hq
      replace h := h σ5 hq hf
      refine e_iconst dX11_most_28 ci_1 ?_
      exact e_zret dX11_most_29 rfl (nar_z (Or.inr rfl)) ⟨_, rfl, h⟩
    · replace h := h.2 c2
      refine e_iconst dX11_most_11 ci_0 ?_
      exact e_zret dX11_most_12 rfl (nar_z (Or.inl rfl)) ⟨_, rfl, h⟩
theorem S_X11_purse {d n : Nat} {Q : Int32 → St → Prop} {σ : St} {a1 : Int32} {a2 : Int32} (hn : FIX ≤ n) (hd : 1 ≤ d) (h : (((fn_X1_isPerson σ a1) = 0 → Q 0 σ) ∧ (¬ (fn_X1_isPerson σ a1) = 0 → (((fn_X11_isPurse a2) ≠ 0 → vp_in a1 8 ∧ ∃ pp3, gR σ a1.toNatClampNeg = some pp3 ∧ IsP n pp3 ∧ Q 1 (sI (sI σ pp3 0 a2) pp3 5 0)) ∧ ((fn_X11_isPurse a2) = 0 → Q 0 σ))))) : Cn d n M_X11_purse md_X11_purse [.ref 0, .int a1, .int a2] σ (liI Q) := by
  refine Cn.of (k0 := 1) (by decide) rfl ?_
  show Ev (d, n, md_X11_purse, σ, liI Q) M_X11_purse 0 [some (.ref 0), some (.int a1), some (.int a2), none] [] σ
  refine e_aload_n dX11_purse_0 rfl rfl ?_
  refine e_getR (y := 3) dX11_purse_1 fl_X11_30 (ob_0 hn) rfl rfl ?_
  refine e_iload_n dX11_purse_4 rfl rfl ?_
  refine e_callV (M' := M_X1_isPerson) (as := [.int a1]) (rest := []) dX11_purse_5 ml_X11_137 mk_X1_isPerson (ob_3 hn) rfl rfl rfl (Nat.le_of_ble_eq_true rfl) (show 0 < d by omega) (sp_X1_isPerson hn) Md_nil (fun v σv hq hf => ?_)
  obtain ⟨v, rfl, rfl, rfl⟩ := hq
  refine e_if_eq (tgt := 18) dX11_purse_8 (by decide) (fun c1 => ?_) (fun c1 => ?_)
  · replace h := h.1 c1
    refine e_iconst dX11_purse_18 ci_0 ?_
    exact e_zret dX11_purse_19 rfl (nar_z (Or.inl rfl)) ⟨_, rfl, h⟩
  · replace h := h.2 c1
    refine e_iload_n dX11_purse_11 rfl rfl ?_
    refine e_callS (M' := M_X11_isPurse) (as := [.int a2]) (rest := []) dX11_purse_12 ml_X11_128 mk_X11_isPurse rfl (Nat.le_of_ble_eq_true rfl) (show 0 < d by omega) (sp_X11_isPurse) Md_nil (fun v σv hq hf => ?_)
    obtain ⟨v, rfl, rfl, rfl⟩ := hq
    refine e_if_ne (tgt := 20) dX11_purse_15 (by decide) (fun c2 => ?_) (fun c2 => ?_)
    · replace h := h.1 c2
      refine e_aload_n dX11_purse_20 rfl rfl ?_
      refine e_getR (y := 3) dX11_purse_21 fl_X11_30 (ob_0 hn) rfl rfl ?_
      refine e_getR (y := 18) dX11_purse_24 fl_X11_140 (ob_3 hn) rfl rfl ?_
      refine e_iload_n dX11_purse_27 rfl rfl ?_
      obtain ⟨hi, pp3, hg, hp_pp3, h⟩ := h
      refine e_aldP dX11_purse_28 hn hi hg ?_
      refine e_astore_n dX11_purse_29 rfl rfl (by decide) ?_
      refine e_aload_n dX11_purse_30 rfl rfl ?_
      refine e_iload_n dX11_purse_31 rfl rfl ?_
      refine e_putI dX11_purse_32 fl_X11_144 (Ob.p hp_pp3) rfl (fpI_5_0 _) (md_ac (m := md_X11_purse) hp_pp3 (by decide)) ?_
      refine e_aload_n dX11_purse_35 rfl rfl ?_
      refine e_iconst dX11_purse_36 ci_0 ?_
      refine e_putI dX11_purse_37 fl_X11_147 (Ob.p hp_pp3) rfl (fpZ_5_5 (Or.inl rfl)) (md_ac (m := md_X11_purse) hp_pp3 (by decide)) ?_
      refine e_iconst dX11_purse_40 ci_1 ?_
      exact e_zret dX11_purse_41 rfl (nar_z (Or.inr rfl)) ⟨_, rfl, h⟩
    · replace h := h.2 c2
      refine e_iconst dX11_purse_18 ci_0 ?_
      exact e_zret dX11_purse_19 rfl (nar_z (Or.inl rfl)) ⟨_, rfl, h⟩
theorem S_X11_feed {d n : Nat} {Q : Int32 → St → Prop} {σ : St} {a1 : Int32} {a2 : Int32} {a3 : Int32} {a4 : Int32} {a5 : Int32} (hn : FIX ≤ n) (hd : 1 ≤ d) (h : ((((gI σ 4 0) + 20) ≤ 400 → ∃ Q2 : St → Prop, Cn (d - 1) n M_X9_put md_X9_put [.ref 4, .int a1] σ (liV Q2) ∧ ∀ (σ4 : St), Q2 σ4 → Fr md_X9_put σ σ4 → ∃ Q8 : St → Prop, Cn (d - 1) n M_X9_put md_X9_put [.ref 4, .int a2] σ4 (liV Q8) ∧ ∀ (σ10 : St), Q8 σ10 → Fr md_X9_put σ4 σ10 → ∃ Q14 : St → Prop, Cn (d - 1) n M_X9_put md_X9_put [.ref 4, .int a3] σ10 (liV Q14) ∧ ∀ (σ16 : St), Q14 σ16 → Fr md_X9_put σ10 σ16 → ∃ Q20 : St → Prop, Cn (d - 1) n M_X9_put md_X9_put [.ref 4, .int a4] σ16 (liV Q20) ∧ ∀ (σ22 : St), Q20 σ22 → Fr md_X9_put σ16 σ22 → ∃ Q26 : St → Prop, Cn (d - 1) n M_X9_put md_X9_put [.ref 4, .int a5] σ22 (liV Q26) ∧ ∀ (σ28 : St), Q26 σ28 → Fr md_X9_put σ22 σ28 → Q (gI σ28 4 0) σ28) ∧ (¬ ((gI σ 4 0) + 20) ≤ 400 → Q (-1) σ))) : Cn d n M_X11_feed md_X11_feed [.ref 0, .int a1, .int a2, .int a3, .int a4, .int a5] σ (liI Q) := by
  refine Cn.of (k0 := 0) (by decide) rfl ?_
  show Ev (d, n, md_X11_feed, σ, liI Q) M_X11_feed 0 [some (.ref 0), some (.int a1), some (.int a2), some (.int a3), some (.int a4), some (.int a5)] [] σ
  refine e_aload_n dX11_feed_0 rfl rfl ?_
  refine e_getR (y := 4) dX11_feed_1 fl_X11_37 (ob_0 hn) rfl rfl ?_
  refine e_getI dX11_feed_4 fl_X11_151 (ob_4 hn) rfl ?_
  refine e_bipush dX11_feed_7 cb_20 ?_
  refine e_iadd dX11_feed_9 ?_
  refine e_sipush dX11_feed_10 cs_400 ?_
  refine e_icmp_le (tgt := 18) dX11_feed_13 (by decide) (fun c1 => ?_) (fun c1 => ?_)
  · replace h := h.1 c1
    refine e_aload_n dX11_feed_18 rfl rfl ?_
    refine e_getR (y := 4) dX11_feed_19 fl_X11_37 (ob_0 hn) rfl rfl ?_
    refine e_iload_n dX11_feed_22 rfl rfl ?_
    obtain ⟨Q2, hc3, h⟩ := h
    refine e_callV (M' := M_X9_put) (as := [.int a1]) (rest := []) dX11_feed_23 ml_X11_154 mk_X9_put (ob_4 hn) rfl rfl rfl (Nat.le_of_ble_eq_true rfl) (show 0 < d by omega) hc3 (Md_le (b := md_X11_feed) (by decide)) (fun v σ4 hq hf => ?_)
    obtain ⟨rfl, hq⟩ := hq
    replace h := h σ4 hq hf
    refine e_aload_n dX11_feed_26 rfl rfl ?_
    refine e_getR (y := 4) dX11_feed_27 fl_X11_37 (ob_0 hn) rfl rfl ?_
    refine e_iload_n dX11_feed_30 rfl rfl ?_
    obtain ⟨Q8, hc9, h⟩ := h
    refine e_callV (M' := M_X9_put) (as := [.int a2]) (rest := []) dX11_feed_31 ml_X11_154 mk_X9_put (ob_4 hn) rfl rfl rfl (Nat.le_of_ble_eq_true rfl) (show 0 < d by omega) hc9 (Md_le (b := md_X11_feed) (by decide)) (fun v σ10 hq hf => ?_)
    obtain ⟨rfl, hq⟩ := hq
    replace h := h σ10 hq hf
    refine e_aload_n dX11_feed_34 rfl rfl ?_
    refine e_getR (y := 4) dX11_feed_35 fl_X11_37 (ob_0 hn) rfl rfl ?_
    refine e_iload_n dX11_feed_38 rfl rfl ?_
    obtain ⟨Q14, hc15, h⟩ := h
    refine e_callV (M' := M_X9_put) (as := [.int a3]) (rest := []) dX11_feed_39 ml_X11_154 mk_X9_put (ob_4 hn) rfl rfl rfl (Nat.le_of_ble_eq_true rfl) (show 0 < d by omega) hc15 (Md_le (b := md_X11_feed) (by decide)) (fun v σ16 hq hf => ?_)
    obtain ⟨rfl, hq⟩ := hq
    replace h := h σ16 hq hf
    refine e_aload_n dX11_feed_42 rfl rfl ?_
    refine e_getR (y := 4) dX11_feed_43 fl_X11_37 (ob_0 hn) rfl rfl ?_
    refine e_iload dX11_feed_46 rfl ?_
    obtain ⟨Q20, hc21, h⟩ := h
    refine e_callV (M' := M_X9_put) (as := [.int a4]) (rest := []) dX11_feed_48 ml_X11_154 mk_X9_put (ob_4 hn) rfl rfl rfl (Nat.le_of_ble_eq_true rfl) (show 0 < d by omega) hc21 (Md_le (b := md_X11_feed) (by decide)) (fun v σ22 hq hf => ?_)
    obtain ⟨rfl, hq⟩ := hq
    replace h := h σ22 hq hf
    refine e_aload_n dX11_feed_51 rfl rfl ?_
    refine e_getR (y := 4) dX11_feed_52 fl_X11_37 (ob_0 hn) rfl rfl ?_
    refine e_iload dX11_feed_55 rfl ?_
    obtain ⟨Q26, hc27, h⟩ := h
    refine e_callV (M' := M_X9_put) (as := [.int a5]) (rest := []) dX11_feed_57 ml_X11_154 mk_X9_put (ob_4 hn) rfl rfl rfl (Nat.le_of_ble_eq_true rfl) (show 0 < d by omega) hc27 (Md_le (b := md_X11_feed) (by decide)) (fun v σ28 hq hf => ?_)
    obtain ⟨rfl, hq⟩ := hq
    replace h := h σ28 hq hf
    refine e_aload_n dX11_feed_60 rfl rfl ?_
    refine e_getR (y := 4) dX11_feed_61 fl_X11_37 (ob_0 hn) rfl rfl ?_
    refine e_getI dX11_feed_64 fl_X11_151 (ob_4 hn) rfl ?_
    exact e_iret dX11_feed_67 rfl ⟨_, rfl, h⟩
  · replace h := h.2 c1
    refine e_iconst dX11_feed_16 ci_m1 ?_
    exact e_iret dX11_feed_17 rfl ⟨_, rfl, h⟩
theorem S_X11_wish {d n : Nat} {Q : Int32 → St → Prop} {σ : St} {a1 : Int32} {a2 : Int32} (hn : FIX ≤ n) (hd : 1 ≤ d) (h : (((fn_X1_isPerson σ a1) = 0 → Q (-2) σ) ∧ (¬ (fn_X1_isPerson σ a1) = 0 → ((a2 < 0 → Q (-2) σ) ∧ (¬ a2 < 0 → ((a2 ≤ (gI σ 4 0) → ∃ Q4 : Int32 → St → Prop, Cn (d - 1) n M_X7_read md_X7_read [.ref 5, .int a2] σ (liI Q4) ∧ ∀ (v7 : Int32) (σ6 : St), Q4 v7 σ6 → Fr md_X7_read σ σ6 → ((v7 = (-1) → Q v7 (sI σ6 0 12 (gI σ6 5 4))) ∧ (¬ v7 = (-1) → vp_in a1 8 ∧ ∃ pp11, gR (sI σ6 0 12 (gI σ6 5 4)) a1.toNatClampNeg = some pp11 ∧ IsP n pp11 ∧ ∃ Q12 : St → Prop, Cn (d - 1) n M_X5_wishFor (md_X5_wishFor pp11) [.ref pp11, .ref 23, .int (gI (sI σ6 0 12 (gI σ6 5 4)) 5 3)] (sI σ6 0 12 (gI σ6 5 4)) (liV Q12) ∧ ∀ (σ14 : St), Q12 σ14 → Fr (md_X5_wishFor pp11) (sI σ6 0 12 (gI σ6 5 4)) σ14 → Q v7 σ14))) ∧ (¬ a2 ≤ (gI σ 4 0) → Q (-2) σ))))))) : Cn d n M_X11_wish md_X11_wish [.ref 0, .int a1, .int a2] σ (liI Q) := by
  refine Cn.of (k0 := 1) (by decide) rfl ?_
  show Ev (d, n, md_X11_wish, σ, liI Q) M_X11_wish 0 [some (.ref 0), some (.int a1), some (.int a2), none] [] σ
  refine e_aload_n dX11_wish_0 rfl rfl ?_
  refine e_getR (y := 3) dX11_wish_1 fl_X11_30 (ob_0 hn) rfl rfl ?_
  refine e_iload_n dX11_wish_4 rfl rfl ?_
  refine e_callV (M' := M_X1_isPerson) (as := [.int a1]) (rest := []) dX11_wish_5 ml_X11_137 mk_X1_isPerson (ob_3 hn) rfl rfl rfl (Nat.le_of_ble_eq_true rfl) (show 0 < d by omega) (sp_X1_isPerson hn) Md_nil (fun v σv hq hf => ?_)
  obtain ⟨v, rfl, rfl, rfl⟩ := hq
  refine e_if_eq (tgt := 26) dX11_wish_8 (by decide) (fun c1 => ?_) (fun c1 => ?_)
  · replace h := h.1 c1
    refine e_bipush dX11_wish_26 cb_m2 ?_
    exact e_iret dX11_wish_28 rfl ⟨_, rfl, h⟩
  · replace h := h.2 c1
    refine e_iload_n dX11_wish_11 rfl rfl ?_
    refine e_if_lt (tgt := 26) dX11_wish_12 (by decide) (fun c2 => ?_) (fun c2 => ?_)
    · replace h := h.1 c2
      refine e_bipush dX11_wish_26 cb_m2 ?_
      exact e_iret dX11_wish_28 rfl ⟨_, rfl, h⟩
    · replace h := h.2 c2
      refine e_iload_n dX11_wish_15 rfl rfl ?_
      refine e_aload_n dX11_wish_16 rfl rfl ?_
      refine e_getR (y := 4) dX11_wish_17 fl_X11_37 (ob_0 hn) rfl rfl ?_
      refine e_getI dX11_wish_20 fl_X11_151 (ob_4 hn) rfl ?_
      refine e_icmp_le (tgt := 29) dX11_wish_23 (by decide) (fun c3 => ?_) (fun c3 => ?_)
      · replace h := h.1 c3
        refine e_aload_n dX11_wish_29 rfl rfl ?_
        refine e_getR (y := 5) dX11_wish_30 fl_X11_46 (ob_0 hn) rfl rfl ?_
        refine e_iload_n dX11_wish_33 rfl rfl ?_
        obtain ⟨Q4, hc5, h⟩ := h
        refine e_callV (M' := M_X7_read) (as := [.int a2]) (rest := []) dX11_wish_34 ml_X11_158 mk_X7_read (ob_5 hn) rfl rfl rfl (Nat.le_of_ble_eq_true rfl) (show 0 < d by omega) hc5 (Md_le (b := md_X11_wish) (by decide)) (fun v σ6 hq hf => ?_)
        obtain ⟨v7, rfl, hq⟩ := hq
        replace h := h v7 σ6 hq hf
        refine e_istore_n dX11_wish_37 rfl rfl (by decide) ?_
        refine e_aload_n dX11_wish_38 rfl rfl ?_
        refine e_aload_n dX11_wish_39 rfl rfl ?_
        refine e_getR (y := 5) dX11_wish_40 fl_X11_46 (ob_0 hn) rfl rfl ?_
        refine e_getI dX11_wish_43 fl_X11_162 (ob_5 hn) rfl ?_
        refine e_putI dX11_wish_46 fl_X11_102 (ob_0 hn) rfl (fpI_11_12 _) (md_c (m := md_X11_wish) (by decide)) ?_
        refine e_iload_n dX11_wish_49 rfl rfl ?_
        refine e_iconst dX11_wish_50 ci_m1 ?_
        refine e_icmp_eq (tgt := 80) dX11_wish_51 (by decide) (fun c10 => ?_) (fun c10 => ?_)
        · replace h := h.1 c10
          refine e_iload_n dX11_wish_80 rfl rfl ?_
          exact e_iret dX11_wish_81 rfl ⟨_, rfl, h⟩
        · replace h := h.2 c10
          refine e_aload_n dX11_wish_54 rfl rfl ?_
          refine e_getR (y := 3) dX11_wish_55 fl_X11_30 (ob_0 hn) rfl rfl ?_
          refine e_getR (y := 18) dX11_wish_58 fl_X11_140 (ob_3 hn) rfl rfl ?_
          refine e_iload_n dX11_wish_61 rfl rfl ?_
          obtain ⟨hi, pp11, hg, hp_pp11, h⟩ := h
          refine e_aldP dX11_wish_62 hn hi hg ?_
          refine e_aload_n dX11_wish_63 rfl rfl ?_
          refine e_getR (y := 5) dX11_wish_64 fl_X11_46 (ob_0 hn) rfl rfl ?_
          refine e_getR (y := 23) dX11_wish_67 fl_X11_165 (ob_5 hn) rfl rfl ?_
          refine e_aload_n dX11_wish_70 rfl rfl ?_
          refine e_getR (y := 5) dX11_wish_71 fl_X11_46 (ob_0 hn) rfl rfl ?_
          refine e_getI dX11_wish_74 fl_X11_168 (ob_5 hn) rfl ?_
          obtain ⟨Q12, hc13, h⟩ := h
          refine e_callV (M' := M_X5_wishFor) (as := [.ref 23, .int (gI (sI σ6 0 12 (gI σ6 5 4)) 5 3)]) (rest := []) dX11_wish_77 ml_X11_169 mk_X5_wishFor (Ob.p hp_pp11) rfl rfl rfl (Nat.le_of_ble_eq_true rfl) (show 0 < d by omega) hc13 (Md_any (m := md_X11_wish) hp_pp11 (by decide)) (fun v σ14 hq hf => ?_)
          obtain ⟨rfl, hq⟩ := hq
          replace h := h σ14 hq hf
          refine e_iload_n dX11_wish_80 rfl rfl ?_
          exact e_iret dX11_wish_81 rfl ⟨_, rfl, h⟩
      · replace h := h.2 c3
        refine e_bipush dX11_wish_26 cb_m2 ?_
        exact e_iret dX11_wish_28 rfl ⟨_, rfl, h⟩
theorem S_X11_falsely {d n : Nat} {Q : Int32 → St → Prop} {σ : St} {a1 : Int32} (hn : FIX ≤ n) (hd : 1 ≤ d) (h : ((a1 < 0 → Q (-2) σ) ∧ (¬ a1 < 0 → ((a1 ≤ (gI σ 4 0) → ∃ Q3 : Int32 → St → Prop, Cn (d - 1) n M_X7_read md_X7_read [.ref 5, .int a1] σ (liI Q3) ∧ ∀ (v6 : Int32) (σ5 : St), Q3 v6 σ5 → Fr md_X7_read σ σ5 → ((v6 = (-1) → Q v6 (sI σ5 0 12 (gI σ5 5 4))) ∧ (¬ v6 = (-1) → ∃ Q10 : St → Prop, Cn (d - 1) n M_X5_wishFor (md_X5_wishFor 83) [.ref 83, .ref 23, .int (gI (sI σ5 0 12 (gI σ5 5 4)) 5 3)] (sI σ5 0 12 (gI σ5 5 4)) (liV Q10) ∧ ∀ (σ12 : St), Q10 σ12 → Fr (md_X5_wishFor 83) (sI σ5 0 12 (gI σ5 5 4)) σ12 → Q v6 (sI σ12 0 11 1)))) ∧ (¬ a1 ≤ (gI σ 4 0) → Q (-2) σ))))) : Cn d n M_X11_falsely md_X11_falsely [.ref 0, .int a1] σ (liI Q) := by
  refine Cn.of (k0 := 1) (by decide) rfl ?_
  show Ev (d, n, md_X11_falsely, σ, liI Q) M_X11_falsely 0 [some (.ref 0), some (.int a1), none] [] σ
  refine e_iload_n dX11_falsely_0 rfl rfl ?_
  refine e_if_lt (tgt := 15) dX11_falsely_1 (by decide) (fun c1 => ?_) (fun c1 => ?_)
  · replace h := h.1 c1
    refine e_bipush dX11_falsely_15 cb_m2 ?_
    exact e_iret dX11_falsely_17 rfl ⟨_, rfl, h⟩
  · replace h := h.2 c1
    refine e_iload_n dX11_falsely_4 rfl rfl ?_
    refine e_aload_n dX11_falsely_5 rfl rfl ?_
    refine e_getR (y := 4) dX11_falsely_6 fl_X11_37 (ob_0 hn) rfl rfl ?_
    refine e_getI dX11_falsely_9 fl_X11_151 (ob_4 hn) rfl ?_
    refine e_icmp_le (tgt := 18) dX11_falsely_12 (by decide) (fun c2 => ?_) (fun c2 => ?_)
    · replace h := h.1 c2
      refine e_aload_n dX11_falsely_18 rfl rfl ?_
      refine e_getR (y := 5) dX11_falsely_19 fl_X11_46 (ob_0 hn) rfl rfl ?_
      refine e_iload_n dX11_falsely_22 rfl rfl ?_
      obtain ⟨Q3, hc4, h⟩ := h
      refine e_callV (M' := M_X7_read) (as := [.int a1]) (rest := []) dX11_falsely_23 ml_X11_158 mk_X7_read (ob_5 hn) rfl rfl rfl (Nat.le_of_ble_eq_true rfl) (show 0 < d by omega) hc4 (Md_le (b := md_X11_falsely) (by decide)) (fun v σ5 hq hf => ?_)
      obtain ⟨v6, rfl, hq⟩ := hq
      replace h := h v6 σ5 hq hf
      refine e_istore_n dX11_falsely_26 rfl rfl (by decide) ?_
      refine e_aload_n dX11_falsely_27 rfl rfl ?_
      refine e_aload_n dX11_falsely_28 rfl rfl ?_
      refine e_getR (y := 5) dX11_falsely_29 fl_X11_46 (ob_0 hn) rfl rfl ?_
      refine e_getI dX11_falsely_32 fl_X11_162 (ob_5 hn) rfl ?_
      refine e_putI dX11_falsely_35 fl_X11_102 (ob_0 hn) rfl (fpI_11_12 _) (md_c (m := md_X11_falsely) (by decide)) ?_
      refine e_iload_n dX11_falsely_38 rfl rfl ?_
      refine e_iconst dX11_falsely_39 ci_m1 ?_
      refine e_icmp_eq (tgt := 69) dX11_falsely_40 (by decide) (fun c9 => ?_) (fun c9 => ?_)
      · replace h := h.1 c9
        refine e_iload_n dX11_falsely_69 rfl rfl ?_
        exact e_iret dX11_falsely_70 rfl ⟨_, rfl, h⟩
      · replace h := h.2 c9
        refine e_aload_n dX11_falsely_43 rfl rfl ?_
        refine e_getR (y := 83) dX11_falsely_44 fl_X11_98 (ob_0 hn) rfl rfl ?_
        refine e_aload_n dX11_falsely_47 rfl rfl ?_
        refine e_getR (y := 5) dX11_falsely_48 fl_X11_46 (ob_0 hn) rfl rfl ?_
        refine e_getR (y := 23) dX11_falsely_51 fl_X11_165 (ob_5 hn) rfl rfl ?_
        refine e_aload_n dX11_falsely_54 rfl rfl ?_
        refine e_getR (y := 5) dX11_falsely_55 fl_X11_46 (ob_0 hn) rfl rfl ?_
        refine e_getI dX11_falsely_58 fl_X11_168 (ob_5 hn) rfl ?_
        obtain ⟨Q10, hc11, h⟩ := h
        refine e_callV (M' := M_X5_wishFor) (as := [.ref 23, .int (gI (sI σ5 0 12 (gI σ5 5 4)) 5 3)]) (rest := []) dX11_falsely_61 ml_X11_169 mk_X5_wishFor (Ob.p (liar_p hn)) rfl rfl rfl (Nat.le_of_ble_eq_true rfl) (show 0 < d by omega) hc11 (Md_le (b := md_X11_falsely) (by decide)) (fun v σ12 hq hf => ?_)
        obtain ⟨rfl, hq⟩ := hq
        replace h := h σ12 hq hf
        refine e_aload_n dX11_falsely_64 rfl rfl ?_
        refine e_iconst dX11_falsely_65 ci_1 ?_
        refine e_putI dX11_falsely_66 fl_X11_173 (ob_0 hn) rfl (fpZ_11_11 (Or.inr rfl)) (md_c (m := md_X11_falsely) (by decide)) ?_
        refine e_iload_n dX11_falsely_69 rfl rfl ?_
        exact e_iret dX11_falsely_70 rfl ⟨_, rfl, h⟩
    · replace h := h.2 c2
      refine e_bipush dX11_falsely_15 cb_m2 ?_
      exact e_iret dX11_falsely_17 rfl ⟨_, rfl, h⟩
theorem S_X11_bars {d n : Nat} {Q : Int32 → St → Prop} {σ : St} {a1 : Int32} {a2 : Int32} (hn : FIX ≤ n) (hd : 1 ≤ d) (h : (((fn_X1_isPerson σ a1) = 0 → Q (-1) σ) ∧ (¬ (fn_X1_isPerson σ a1) = 0 → (((fn_X11_isBundle a2) ≠ 0 → vp_in a1 8 ∧ ∃ pp3, gR σ a1.toNatClampNeg = some pp3 ∧ IsP n pp3 ∧ ∃ Q4 : St → Prop, Cn (d - 1) n M_X0_ask md_X0_ask [.ref 2, .ref pp3, .int a2] σ (liV Q4) ∧ ∀ (σ6 : St), Q4 σ6 → Fr md_X0_ask σ σ6 → Q (gI σ6 2 2) σ6) ∧ ((fn_X11_isBundle a2) = 0 → Q (-1) σ))))) : Cn d n M_X11_bars md_X11_bars [.ref 0, .int a1, .int a2] σ (liI Q) := by
  refine Cn.of (k0 := 0) (by decide) rfl ?_
  show Ev (d, n, md_X11_bars, σ, liI Q) M_X11_bars 0 [some (.ref 0), some (.int a1), some (.int a2)] [] σ
  refine e_aload_n dX11_bars_0 rfl rfl ?_
  refine e_getR (y := 3) dX11_bars_1 fl_X11_30 (ob_0 hn) rfl rfl ?_
  refine e_iload_n dX11_bars_4 rfl rfl ?_
  refine e_callV (M' := M_X1_isPerson) (as := [.int a1]) (rest := []) dX11_bars_5 ml_X11_137 mk_X1_isPerson (ob_3 hn) rfl rfl rfl (Nat.le_of_ble_eq_true rfl) (show 0 < d by omega) (sp_X1_isPerson hn) Md_nil (fun v σv hq hf => ?_)
  obtain ⟨v, rfl, rfl, rfl⟩ := hq
  refine e_if_eq (tgt := 18) dX11_bars_8 (by decide) (fun c1 => ?_) (fun c1 => ?_)
  · replace h := h.1 c1
    refine e_iconst dX11_bars_18 ci_m1 ?_
    exact e_iret dX11_bars_19 rfl ⟨_, rfl, h⟩
  · replace h := h.2 c1
    refine e_iload_n dX11_bars_11 rfl rfl ?_
    refine e_callS (M' := M_X11_isBundle) (as := [.int a2]) (rest := []) dX11_bars_12 ml_X11_131 mk_X11_isBundle rfl (Nat.le_of_ble_eq_true rfl) (show 0 < d by omega) (sp_X11_isBundle) Md_nil (fun v σv hq hf => ?_)
    obtain ⟨v, rfl, rfl, rfl⟩ := hq
    refine e_if_ne (tgt := 20) dX11_bars_15 (by decide) (fun c2 => ?_) (fun c2 => ?_)
    · replace h := h.1 c2
      refine e_aload_n dX11_bars_20 rfl rfl ?_
      refine e_getR (y := 2) dX11_bars_21 fl_X11_21 (ob_0 hn) rfl rfl ?_
      refine e_aload_n dX11_bars_24 rfl rfl ?_
      refine e_getR (y := 3) dX11_bars_25 fl_X11_30 (ob_0 hn) rfl rfl ?_
      refine e_getR (y := 18) dX11_bars_28 fl_X11_140 (ob_3 hn) rfl rfl ?_
      refine e_iload_n dX11_bars_31 rfl rfl ?_
      obtain ⟨hi, pp3, hg, hp_pp3, h⟩ := h
      refine e_aldP dX11_bars_32 hn hi hg ?_
      refine e_iload_n dX11_bars_33 rfl rfl ?_
      obtain ⟨Q4, hc5, h⟩ := h
      refine e_callV (M' := M_X0_ask) (as := [.ref pp3, .int a2]) (rest := []) dX11_bars_34 ml_X11_176 mk_X0_ask (ob_2 hn) rfl rfl rfl (Nat.le_of_ble_eq_true rfl) (show 0 < d by omega) hc5 (Md_le (b := md_X11_bars) (by decide)) (fun v σ6 hq hf => ?_)
      obtain ⟨rfl, hq⟩ := hq
      replace h := h σ6 hq hf
      refine e_aload_n dX11_bars_37 rfl rfl ?_
      refine e_getR (y := 2) dX11_bars_38 fl_X11_21 (ob_0 hn) rfl rfl ?_
      refine e_getI dX11_bars_41 fl_X11_180 (ob_2 hn) rfl ?_
      exact e_iret dX11_bars_44 rfl ⟨_, rfl, h⟩
    · replace h := h.2 c2
      refine e_iconst dX11_bars_18 ci_m1 ?_
      exact e_iret dX11_bars_19 rfl ⟨_, rfl, h⟩
theorem S_X11_worth {d n : Nat} {Q : Int32 → St → Prop} {σ : St} {a1 : Int32} {a2 : Int32} (hn : FIX ≤ n) (hd : 1 ≤ d) (h : (((fn_X1_isPerson σ a1) = 0 → Q (-2000000) σ) ∧ (¬ (fn_X1_isPerson σ a1) = 0 → (((fn_X11_isBundle a2) ≠ 0 → vp_in a1 8 ∧ ∃ pp3, gR σ a1.toNatClampNeg = some pp3 ∧ IsP n pp3 ∧ ∃ Q4 : St → Prop, Cn (d - 1) n M_X0_ask md_X0_ask [.ref 2, .ref pp3, .int a2] σ (liV Q4) ∧ ∀ (σ6 : St), Q4 σ6 → Fr md_X0_ask σ σ6 → Q (gI σ6 2 1) σ6) ∧ ((fn_X11_isBundle a2) = 0 → Q (-2000000) σ))))) : Cn d n M_X11_worth md_X11_worth [.ref 0, .int a1, .int a2] σ (liI Q) := by
  refine Cn.of (k0 := 0) (by decide) rfl ?_
  show Ev (d, n, md_X11_worth, σ, liI Q) M_X11_worth 0 [some (.ref 0), some (.int a1), some (.int a2)] [] σ
  refine e_aload_n dX11_worth_0 rfl rfl ?_
  refine e_getR (y := 3) dX11_worth_1 fl_X11_30 (ob_0 hn) rfl rfl ?_
  refine e_iload_n dX11_worth_4 rfl rfl ?_
  refine e_callV (M' := M_X1_isPerson) (as := [.int a1]) (rest := []) dX11_worth_5 ml_X11_137 mk_X1_isPerson (ob_3 hn) rfl rfl rfl (Nat.le_of_ble_eq_true rfl) (show 0 < d by omega) (sp_X1_isPerson hn) Md_nil (fun v σv hq hf => ?_)
  obtain ⟨v, rfl, rfl, rfl⟩ := hq
  refine e_if_eq (tgt := 18) dX11_worth_8 (by decide) (fun c1 => ?_) (fun c1 => ?_)
  · replace h := h.1 c1
    refine e_ldc dX11_worth_18 ck_X11_183 ?_
    exact e_iret dX11_worth_20 rfl ⟨_, rfl, h⟩
  · replace h := h.2 c1
    refine e_iload_n dX11_worth_11 rfl rfl ?_
    refine e_callS (M' := M_X11_isBundle) (as := [.int a2]) (rest := []) dX11_worth_12 ml_X11_131 mk_X11_isBundle rfl (Nat.le_of_ble_eq_true rfl) (show 0 < d by omega) (sp_X11_isBundle) Md_nil (fun v σv hq hf => ?_)
    obtain ⟨v, rfl, rfl, rfl⟩ := hq
    refine e_if_ne (tgt := 21) dX11_worth_15 (by decide) (fun c2 => ?_) (fun c2 => ?_)
    · replace h := h.1 c2
      refine e_aload_n dX11_worth_21 rfl rfl ?_
      refine e_getR (y := 2) dX11_worth_22 fl_X11_21 (ob_0 hn) rfl rfl ?_
      refine e_aload_n dX11_worth_25 rfl rfl ?_
      refine e_getR (y := 3) dX11_worth_26 fl_X11_30 (ob_0 hn) rfl rfl ?_
      refine e_getR (y := 18) dX11_worth_29 fl_X11_140 (ob_3 hn) rfl rfl ?_
      refine e_iload_n dX11_worth_32 rfl rfl ?_
      obtain ⟨hi, pp3, hg, hp_pp3, h⟩ := h
      refine e_aldP dX11_worth_33 hn hi hg ?_
      refine e_iload_n dX11_worth_34 rfl rfl ?_
      obtain ⟨Q4, hc5, h⟩ := h
      refine e_callV (M' := M_X0_ask) (as := [.ref pp3, .int a2]) (rest := []) dX11_worth_35 ml_X11_176 mk_X0_ask (ob_2 hn) rfl rfl rfl (Nat.le_of_ble_eq_true rfl) (show 0 < d by omega) hc5 (Md_le (b := md_X11_worth) (by decide)) (fun v σ6 hq hf => ?_)
      obtain ⟨rfl, hq⟩ := hq
      replace h := h σ6 hq hf
      refine e_aload_n dX11_worth_38 rfl rfl ?_
      refine e_getR (y := 2) dX11_worth_39 fl_X11_21 (ob_0 hn) rfl rfl ?_
      refine e_getI dX11_worth_42 fl_X11_184 (ob_2 hn) rfl ?_
      exact e_iret dX11_worth_45 rfl ⟨_, rfl, h⟩
    · replace h := h.2 c2
      refine e_ldc dX11_worth_18 ck_X11_183 ?_
      exact e_iret dX11_worth_20 rfl ⟨_, rfl, h⟩
theorem S_X11_price {d n : Nat} {Q : Int32 → St → Prop} {σ : St} {a1 : Int32} {a2 : Int32} (hn : FIX ≤ n) (hd : 1 ≤ d) (h : (((fn_X6_isLesson σ a1) = 0 → Q 0 σ) ∧ (¬ (fn_X6_isLesson σ a1) = 0 → ((a2 < 0 → Q 0 σ) ∧ (¬ a2 < 0 → ((a2 ≤ 250 → vp_in a1 10 ∧ Q 1 (sI σ 24 a1.toNatClampNeg a2)) ∧ (¬ a2 ≤ 250 → Q 0 σ))))))) : Cn d n M_X11_price md_X11_price [.ref 0, .int a1, .int a2] σ (liI Q) := by
  refine Cn.of (k0 := 0) (by decide) rfl ?_
  show Ev (d, n, md_X11_price, σ, liI Q) M_X11_price 0 [some (.ref 0), some (.int a1), some (.int a2)] [] σ
  refine e_aload_n dX11_price_0 rfl rfl ?_
  refine e_getR (y := 1) dX11_price_1 fl_X11_10 (ob_0 hn) rfl rfl ?_
  refine e_iload_n dX11_price_4 rfl rfl ?_
  refine e_callV (M' := M_X6_isLesson) (as := [.int a1]) (rest := []) dX11_price_5 ml_X11_113 mk_X6_isLesson (ob_1 hn) rfl rfl rfl (Nat.le_of_ble_eq_true rfl) (show 0 < d by omega) (sp_X6_isLesson hn) Md_nil (fun v σv hq hf => ?_)
  obtain ⟨v, rfl, rfl, rfl⟩ := hq
  refine e_if_eq (tgt := 22) dX11_price_8 (by decide) (fun c1 => ?_) (fun c1 => ?_)
  · replace h := h.1 c1
    refine e_iconst dX11_price_22 ci_0 ?_
    exact e_zret dX11_price_23 rfl (nar_z (Or.inl rfl)) ⟨_, rfl, h⟩
  · replace h := h.2 c1
    refine e_iload_n dX11_price_11 rfl rfl ?_
    refine e_if_lt (tgt := 22) dX11_price_12 (by decide) (fun c2 => ?_) (fun c2 => ?_)
    · replace h := h.1 c2
      refine e_iconst dX11_price_22 ci_0 ?_
      exact e_zret dX11_price_23 rfl (nar_z (Or.inl rfl)) ⟨_, rfl, h⟩
    · replace h := h.2 c2
      refine e_iload_n dX11_price_15 rfl rfl ?_
      refine e_sipush dX11_price_16 cs_250 ?_
      refine e_icmp_le (tgt := 24) dX11_price_19 (by decide) (fun c3 => ?_) (fun c3 => ?_)
      · replace h := h.1 c3
        refine e_aload_n dX11_price_24 rfl rfl ?_
        refine e_getR (y := 6) dX11_price_25 fl_X11_55 (ob_0 hn) rfl rfl ?_
        refine e_getR (y := 24) dX11_price_28 fl_X11_187 (ob_6 hn) rfl rfl ?_
        refine e_iload_n dX11_price_31 rfl rfl ?_
        refine e_iload_n dX11_price_32 rfl rfl ?_
        refine e_iast dX11_price_33 (ar_24 hn) h.1 (md_r (m := md_X11_price) (by decide)) ?_
        replace h := h.2
        refine e_iconst dX11_price_34 ci_1 ?_
        exact e_zret dX11_price_35 rfl (nar_z (Or.inr rfl)) ⟨_, rfl, h⟩
      · replace h := h.2 c3
        refine e_iconst dX11_price_22 ci_0 ?_
        exact e_zret dX11_price_23 rfl (nar_z (Or.inl rfl)) ⟨_, rfl, h⟩
theorem S_X11_step {d n : Nat} {Q : Int32 → St → Prop} {σ : St} {a1 : Int32} (hn : FIX ≤ n) (h : ((a1 < 1 → Q 0 σ) ∧ (¬ a1 < 1 → ((a1 ≤ 50 → Q 1 (sI σ 6 3 a1)) ∧ (¬ a1 ≤ 50 → Q 0 σ))))) : Cn d n M_X11_step md_X11_step [.ref 0, .int a1] σ (liI Q) := by
  refine Cn.of (k0 := 0) (by decide) rfl ?_
  show Ev (d, n, md_X11_step, σ, liI Q) M_X11_step 0 [some (.ref 0), some (.int a1)] [] σ
  refine e_iload_n dX11_step_0 rfl rfl ?_
  refine e_iconst dX11_step_1 ci_1 ?_
  refine e_icmp_lt (tgt := 11) dX11_step_2 (by decide) (fun c1 => ?_) (fun c1 => ?_)
  · replace h := h.1 c1
    refine e_iconst dX11_step_11 ci_0 ?_
    exact e_zret dX11_step_12 rfl (nar_z (Or.inl rfl)) ⟨_, rfl, h⟩
  · replace h := h.2 c1
    refine e_iload_n dX11_step_5 rfl rfl ?_
    refine e_bipush dX11_step_6 cb_50 ?_
    refine e_icmp_le (tgt := 13) dX11_step_8 (by decide) (fun c2 => ?_) (fun c2 => ?_)
    · replace h := h.1 c2
      refine e_aload_n dX11_step_13 rfl rfl ?_
      refine e_getR (y := 6) dX11_step_14 fl_X11_55 (ob_0 hn) rfl rfl ?_
      refine e_iload_n dX11_step_17 rfl rfl ?_
      refine e_putI dX11_step_18 fl_X11_190 (ob_6 hn) rfl (fpI_4_3 _) (md_c (m := md_X11_step) (by decide)) ?_
      refine e_iconst dX11_step_21 ci_1 ?_
      exact e_zret dX11_step_22 rfl (nar_z (Or.inr rfl)) ⟨_, rfl, h⟩
    · replace h := h.2 c2
      refine e_iconst dX11_step_11 ci_0 ?_
      exact e_zret dX11_step_12 rfl (nar_z (Or.inl rfl)) ⟨_, rfl, h⟩
theorem S_X11_buys {d n : Nat} {Q : Int32 → St → Prop} {σ : St} {a1 : Int32} {a2 : Int32} (hn : FIX ≤ n) (hd : 1 ≤ d) (h : (((fn_X1_isPerson σ a1) = 0 → Q (-2000000) σ) ∧ (¬ (fn_X1_isPerson σ a1) = 0 → ((a2 < 0 → Q (-2000000) σ) ∧ (¬ a2 < 0 → ((a2 ≤ 2 → ∃ Q4 : Nat → St → Prop, Cn (d - 1) n M_X1_freshened md_X1_freshened [.ref 3, .int a1] σ (liR Q4) ∧ ∀ (v7 : Nat) (σ6 : St), Q4 v7 σ6 → Fr md_X1_freshened σ σ6 → IsP n v7 ∧ ∃ Q10 : St → Prop, Cn (d - 1) n M_X4_mark md_X4_mark [.ref 6, .ref 24] σ6 (liV Q10) ∧ ∀ (σ12 : St), Q10 σ12 → Fr md_X4_mark σ6 σ12 → ∃ Q16 : Int32 → St → Prop, Cn (d - 1) n M_X4_pick md_X4_pick [.ref 6, .ref v7, .int 0] σ12 (liI Q16) ∧ ∀ (v19 : Int32) (σ18 : St), Q16 v19 σ18 → Fr md_X4_pick σ12 σ18 → ((a2 ≠ 0 → ((a2 ≠ 1 → pre_X5_worthAt σ18 v7 v19 ∧ Q (fn_X5_worthAt σ18 v7 v19) σ18) ∧ (a2 = 1 → pre_X5_bundleAt σ18 v7 v19 ∧ pre_X4_costOf σ18 (fn_X5_bundleAt σ18 v7 v19) ∧ Q (fn_X4_costOf σ18 (fn_X5_bundleAt σ18 v7 v19)) σ18))) ∧ (a2 = 0 → pre_X5_bundleAt σ18 v7 v19 ∧ Q (fn_X5_bundleAt σ18 v7 v19) σ18))) ∧ (¬ a2 ≤ 2 → Q (-2000000) σ))))))) : Cn d n M_X11_buys md_X11_buys [.ref 0, .int a1, .int a2] σ (liI Q) := by
  refine Cn.of (k0 := 2) (by decide) rfl ?_
  show Ev (d, n, md_X11_buys, σ, liI Q) M_X11_buys 0 [some (.ref 0), some (.int a1), some (.int a2), none, none] [] σ
  refine e_aload_n dX11_buys_0 rfl rfl ?_
  refine e_getR (y := 3) dX11_buys_1 fl_X11_30 (ob_0 hn) rfl rfl ?_
  refine e_iload_n dX11_buys_4 rfl rfl ?_
  refine e_callV (M' := M_X1_isPerson) (as := [.int a1]) (rest := []) dX11_buys_5 ml_X11_137 mk_X1_isPerson (ob_3 hn) rfl rfl rfl (Nat.le_of_ble_eq_true rfl) (show 0 < d by omega) (sp_X1_isPerson hn) Md_nil (fun v σv hq hf => ?_)
  obtain ⟨v, rfl, rfl, rfl⟩ := hq
  refine e_if_eq (tgt := 20) dX11_buys_8 (by decide) (fun c1 => ?_) (fun c1 => ?_)
  · replace h := h.1 c1
    refine e_ldc dX11_buys_20 ck_X11_183 ?_
    exact e_iret dX11_buys_22 rfl ⟨_, rfl, h⟩
  · replace h := h.2 c1
    refine e_iload_n dX11_buys_11 rfl rfl ?_
    refine e_if_lt (tgt := 20) dX11_buys_12 (by decide) (fun c2 => ?_) (fun c2 => ?_)
    · replace h := h.1 c2
      refine e_ldc dX11_buys_20 ck_X11_183 ?_
      exact e_iret dX11_buys_22 rfl ⟨_, rfl, h⟩
    · replace h := h.2 c2
      refine e_iload_n dX11_buys_15 rfl rfl ?_
      refine e_iconst dX11_buys_16 ci_2 ?_
      refine e_icmp_le (tgt := 23) dX11_buys_17 (by decide) (fun c3 => ?_) (fun c3 => ?_)
      · replace h := h.1 c3
        refine e_aload_n dX11_buys_23 rfl rfl ?_
        refine e_getR (y := 3) dX11_buys_24 fl_X11_30 (ob_0 hn) rfl rfl ?_
        refine e_iload_n dX11_buys_27 rfl rfl ?_
        obtain ⟨Q4, hc5, h⟩ := h
        refine e_callV (M' := M_X1_freshened) (as := [.int a1]) (rest := []) dX11_buys_28 ml_X11_193 mk_X1_freshened (ob_3 hn) rfl rfl rfl (Nat.le_of_ble_eq_true rfl) (show 0 < d by omega) hc5 (Md_le (b := md_X11_buys) (by decide)) (fun v σ6 hq hf => ?_)
        obtain ⟨v7, rfl, hq⟩ := hq
        obtain ⟨hp_v7, h⟩ := h v7 σ6 hq hf
        refine e_astore_n dX11_buys_31 rfl rfl (by decide) ?_
        refine e_aload_n dX11_buys_32 rfl rfl ?_
        refine e_getR (y := 6) dX11_buys_33 fl_X11_55 (ob_0 hn) rfl rfl ?_
        refine e_aload_n dX11_buys_36 rfl rfl ?_
        refine e_getR (y := 6) dX11_buys_37 fl_X11_55 (ob_0 hn) rfl rfl ?_
        refine e_getR (y := 24) dX11_buys_40 fl_X11_187 (ob_6 hn) rfl rfl ?_
        obtain ⟨Q10, hc11, h⟩ := h
        refine e_callV (M' := M_X4_mark) (as := [.ref 24]) (rest := []) dX11_buys_43 ml_X11_197 mk_X4_mark (ob_6 hn) rfl rfl rfl (Nat.le_of_ble_eq_true rfl) (show 0 < d by omega) hc11 (Md_le (b := md_X11_buys) (by decide)) (fun v σ12 hq hf => ?_)
        obtain ⟨rfl, hq⟩ := hq
        replace h := h σ12 hq hf
        refine e_aload_n dX11_buys_46 rfl rfl ?_
        refine e_getR (y := 6) dX11_buys_47 fl_X11_55 (ob_0 hn) rfl rfl ?_
        refine e_aload_n dX11_buys_50 rfl rfl ?_
        refine e_iconst dX11_buys_51 ci_0 ?_
        obtain ⟨Q16, hc17, h⟩ := h
        refine e_callV (M' := M_X4_pick) (as := [.ref v7, .int 0]) (rest := []) dX11_buys_52 ml_X11_201 mk_X4_pick (ob_6 hn) rfl rfl rfl (Nat.le_of_ble_eq_true rfl) (show 0 < d by omega) hc17 (Md_le (b := md_X11_buys) (by decide)) (fun v σ18 hq hf => ?_)
        obtain ⟨v19, rfl, hq⟩ := hq
        replace h := h v19 σ18 hq hf
        refine e_istore dX11_buys_55 rfl (by decide) ?_
        refine e_iload_n dX11_buys_57 rfl rfl ?_
        refine e_if_ne (tgt := 68) dX11_buys_58 (by decide) (fun c22 => ?_) (fun c22 => ?_)
        · replace h := h.1 c22
          refine e_iload_n dX11_buys_68 rfl rfl ?_
          refine e_iconst dX11_buys_69 ci_1 ?_
          refine e_icmp_ne (tgt := 89) dX11_buys_70 (by decide) (fun c23 => ?_) (fun c23 => ?_)
          · replace h := h.1 c23
            refine e_aload_n dX11_buys_89 rfl rfl ?_
            refine e_iload dX11_buys_90 rfl ?_
            refine e_callV (M' := M_X5_worthAt) (as := [.int v19]) (rest := []) dX11_buys_92 ml_X11_211 mk_X5_worthAt (Ob.p hp_v7) rfl rfl rfl (Nat.le_of_ble_eq_true rfl) (show 0 < d by omega) (sp_X5_worthAt hp_v7 h.1) Md_nil (fun v σv hq hf => ?_)
            obtain ⟨v, rfl, rfl, rfl⟩ := hq
            replace h := h.2
            exact e_iret dX11_buys_95 rfl ⟨_, rfl, h⟩
          · replace h := h.2 c23
            refine e_aload_n dX11_buys_73 rfl rfl ?_
            refine e_getR (y := 6) dX11_buys_74 fl_X11_55 (ob_0 hn) rfl rfl ?_
            refine e_aload_n dX11_buys_77 rfl rfl ?_
            refine e_iload dX11_buys_78 rfl ?_
            refine e_callV (M' := M_X5_bundleAt) (as := [.int v19]) (rest := [.ref 6]) dX11_buys_80 ml_X11_205 mk_X5_bundleAt (Ob.p hp_v7) rfl rfl rfl (Nat.le_of_ble_eq_true rfl) (show 0 < d by omega) (sp_X5_bundleAt hp_v7 h.1) Md_nil (fun v σv hq hf => ?_)
            obtain ⟨v, rfl, rfl, rfl⟩ := hq
            replace h := h.2
            refine e_callV (M' := M_X4_costOf) (as := [.int (fn_X5_bundleAt σ18 v7 v19)]) (rest := []) dX11_buys_83 ml_X11_208 mk_X4_costOf (ob_6 hn) rfl rfl rfl (Nat.le_of_ble_eq_true rfl) (show 0 < d by omega) (sp_X4_costOf hn h.1) Md_nil (fun v σv hq hf => ?_)
            obtain ⟨v, rfl, rfl, rfl⟩ := hq
            replace h := h.2
            refine e_goto (tgt := 95) dX11_buys_86 (by decide) ?_
            exact e_iret dX11_buys_95 rfl ⟨_, rfl, h⟩
        · replace h := h.2 c22
          refine e_aload_n dX11_buys_61 rfl rfl ?_
          refine e_iload dX11_buys_62 rfl ?_
          refine e_callV (M' := M_X5_bundleAt) (as := [.int v19]) (rest := []) dX11_buys_64 ml_X11_205 mk_X5_bundleAt (Ob.p hp_v7) rfl rfl rfl (Nat.le_of_ble_eq_true rfl) (show 0 < d by omega) (sp_X5_bundleAt hp_v7 h.1) Md_nil (fun v σv hq hf => ?_)
          obtain ⟨v, rfl, rfl, rfl⟩ := hq
          replace h := h.2
          exact e_iret dX11_buys_67 rfl ⟨_, rfl, h⟩
      · replace h := h.2 c3
        refine e_ldc dX11_buys_20 ck_X11_183 ?_
        exact e_iret dX11_buys_22 rfl ⟨_, rfl, h⟩
theorem S_X11_dear {d n : Nat} {Q : Int32 → St → Prop} {σ : St} {a1 : Int32} (hn : FIX ≤ n) (hd : 1 ≤ d) (h : (((fn_X1_isPerson σ a1) ≠ 0 → ∃ Q2 : Nat → St → Prop, Cn (d - 1) n M_X1_freshened md_X1_freshened [.ref 3, .int a1] σ (liR Q2) ∧ ∀ (v5 : Nat) (σ4 : St), Q2 v5 σ4 → Fr md_X1_freshened σ σ4 → IsP n v5 ∧ ∃ Q8 : St → Prop, Cn (d - 1) n M_X4_mark md_X4_mark [.ref 6, .ref 24] σ4 (liV Q8) ∧ ∀ (σ10 : St), Q8 σ10 → Fr md_X4_mark σ4 σ10 → ∃ Q14 : Int32 → St → Prop, Cn (d - 1) n M_X4_leastBetter md_X4_leastBetter [.ref 6, .ref v5, .int 0] σ10 (liI Q14) ∧ ∀ (v17 : Int32) (σ16 : St), Q14 v17 σ16 → Fr md_X4_leastBetter σ10 σ16 → ((v17 ≠ (-1) → Q (v17 - (gI σ16 v5 0)) σ16) ∧ (v17 = (-1) → Q (-1) σ16))) ∧ ((fn_X1_isPerson σ a1) = 0 → Q (-2) σ))) : Cn d n M_X11_dear md_X11_dear [.ref 0, .int a1] σ (liI Q) := by
  refine Cn.of (k0 := 2) (by decide) rfl ?_
  show Ev (d, n, md_X11_dear, σ, liI Q) M_X11_dear 0 [some (.ref 0), some (.int a1), none, none] [] σ
  refine e_aload_n dX11_dear_0 rfl rfl ?_
  refine e_getR (y := 3) dX11_dear_1 fl_X11_30 (ob_0 hn) rfl rfl ?_
  refine e_iload_n dX11_dear_4 rfl rfl ?_
  refine e_callV (M' := M_X1_isPerson) (as := [.int a1]) (rest := []) dX11_dear_5 ml_X11_137 mk_X1_isPerson (ob_3 hn) rfl rfl rfl (Nat.le_of_ble_eq_true rfl) (show 0 < d by omega) (sp_X1_isPerson hn) Md_nil (fun v σv hq hf => ?_)
  obtain ⟨v, rfl, rfl, rfl⟩ := hq
  refine e_if_ne (tgt := 14) dX11_dear_8 (by decide) (fun c1 => ?_) (fun c1 => ?_)
  · replace h := h.1 c1
    refine e_aload_n dX11_dear_14 rfl rfl ?_
    refine e_getR (y := 3) dX11_dear_15 fl_X11_30 (ob_0 hn) rfl rfl ?_
    refine e_iload_n dX11_dear_18 rfl rfl ?_
    obtain ⟨Q2, hc3, h⟩ := h
    refine e_callV (M' := M_X1_freshened) (as := [.int a1]) (rest := []) dX11_dear_19 ml_X11_193 mk_X1_freshened (ob_3 hn) rfl rfl rfl (Nat.le_of_ble_eq_true rfl) (show 0 < d by omega) hc3 (Md_le (b := md_X11_dear) (by decide)) (fun v σ4 hq hf => ?_)
    obtain ⟨v5, rfl, hq⟩ := hq
    obtain ⟨hp_v5, h⟩ := h v5 σ4 hq hf
    refine e_astore_n dX11_dear_22 rfl rfl (by decide) ?_
    refine e_aload_n dX11_dear_23 rfl rfl ?_
    refine e_getR (y := 6) dX11_dear_24 fl_X11_55 (ob_0 hn) rfl rfl ?_
    refine e_aload_n dX11_dear_27 rfl rfl ?_
    refine e_getR (y := 6) dX11_dear_28 fl_X11_55 (ob_0 hn) rfl rfl ?_
    refine e_getR (y := 24) dX11_dear_31 fl_X11_187 (ob_6 hn) rfl rfl ?_
    obtain ⟨Q8, hc9, h⟩ := h
    refine e_callV (M' := M_X4_mark) (as := [.ref 24]) (rest := []) dX11_dear_34 ml_X11_197 mk_X4_mark (ob_6 hn) rfl rfl rfl (Nat.le_of_ble_eq_true rfl) (show 0 < d by omega) hc9 (Md_le (b := md_X11_dear) (by decide)) (fun v σ10 hq hf => ?_)
    obtain ⟨rfl, hq⟩ := hq
    replace h := h σ10 hq hf
    refine e_aload_n dX11_dear_37 rfl rfl ?_
    refine e_getR (y := 6) dX11_dear_38 fl_X11_55 (ob_0 hn) rfl rfl ?_
    refine e_aload_n dX11_dear_41 rfl rfl ?_
    refine e_iconst dX11_dear_42 ci_0 ?_
    obtain ⟨Q14, hc15, h⟩ := h
    refine e_callV (M' := M_X4_leastBetter) (as := [.ref v5, .int 0]) (rest := []) dX11_dear_43 ml_X11_214 mk_X4_leastBetter (ob_6 hn) rfl rfl rfl (Nat.le_of_ble_eq_true rfl) (show 0 < d by omega) hc15 (Md_le (b := md_X11_dear) (by decide)) (fun v σ16 hq hf => ?_)
    obtain ⟨v17, rfl, hq⟩ := hq
    replace h := h v17 σ16 hq hf
    refine e_istore_n dX11_dear_46 rfl rfl (by decide) ?_
    refine e_iload_n dX11_dear_47 rfl rfl ?_
    refine e_iconst dX11_dear_48 ci_m1 ?_
    refine e_icmp_ne (tgt := 56) dX11_dear_49 (by decide) (fun c20 => ?_) (fun c20 => ?_)
    · replace h := h.1 c20
      refine e_iload_n dX11_dear_56 rfl rfl ?_
      refine e_aload_n dX11_dear_57 rfl rfl ?_
      refine e_getI dX11_dear_58 fl_X11_144 (Ob.p hp_v5) rfl ?_
      refine e_isub dX11_dear_61 ?_
      exact e_iret dX11_dear_62 rfl ⟨_, rfl, h⟩
    · replace h := h.2 c20
      refine e_iconst dX11_dear_52 ci_m1 ?_
      refine e_goto (tgt := 62) dX11_dear_53 (by decide) ?_
      exact e_iret dX11_dear_62 rfl ⟨_, rfl, h⟩
  · replace h := h.2 c1
    refine e_bipush dX11_dear_11 cb_m2 ?_
    exact e_iret dX11_dear_13 rfl ⟨_, rfl, h⟩
theorem S_X11_over {d n : Nat} {Q : Int32 → St → Prop} {σ : St} {a1 : Int32} (hn : FIX ≤ n) (hd : 1 ≤ d) (h : (((fn_X6_isLesson σ a1) ≠ 0 → ∃ Q2 : St → Prop, Cn (d - 1) n M_X1_freshenAll md_X1_freshenAll [.ref 3] σ (liV Q2) ∧ ∀ (σ4 : St), Q2 σ4 → Fr md_X1_freshenAll σ σ4 → ∃ Q8 : Int32 → St → Prop, Cn (d - 1) n M_X4_squareAt md_X4_squareAt [.ref 6, .ref 24] σ4 (liI Q8) ∧ ∀ (v11 : Int32) (σ10 : St), Q8 v11 σ10 → Fr md_X4_squareAt σ4 σ10 → vp_in a1 10 ∧ Q (gI σ10 25 a1.toNatClampNeg) σ10) ∧ ((fn_X6_isLesson σ a1) = 0 → Q (-100) σ))) : Cn d n M_X11_over md_X11_over [.ref 0, .int a1] σ (liI Q) := by
  refine Cn.of (k0 := 0) (by decide) rfl ?_
  show Ev (d, n, md_X11_over, σ, liI Q) M_X11_over 0 [some (.ref 0), some (.int a1)] [] σ
  refine e_aload_n dX11_over_0 rfl rfl ?_
  refine e_getR (y := 1) dX11_over_1 fl_X11_10 (ob_0 hn) rfl rfl ?_
  refine e_iload_n dX11_over_4 rfl rfl ?_
  refine e_callV (M' := M_X6_isLesson) (as := [.int a1]) (rest := []) dX11_over_5 ml_X11_113 mk_X6_isLesson (ob_1 hn) rfl rfl rfl (Nat.le_of_ble_eq_true rfl) (show 0 < d by omega) (sp_X6_isLesson hn) Md_nil (fun v σv hq hf => ?_)
  obtain ⟨v, rfl, rfl, rfl⟩ := hq
  refine e_if_ne (tgt := 14) dX11_over_8 (by decide) (fun c1 => ?_) (fun c1 => ?_)
  · replace h := h.1 c1
    refine e_aload_n dX11_over_14 rfl rfl ?_
    refine e_getR (y := 3) dX11_over_15 fl_X11_30 (ob_0 hn) rfl rfl ?_
    obtain ⟨Q2, hc3, h⟩ := h
    refine e_callV (M' := M_X1_freshenAll) (as := []) (rest := []) dX11_over_18 ml_X11_217 mk_X1_freshenAll (ob_3 hn) rfl rfl rfl (Nat.le_of_ble_eq_true rfl) (show 0 < d by omega) hc3 (Md_le (b := md_X11_over) (by decide)) (fun v σ4 hq hf => ?_)
    obtain ⟨rfl, hq⟩ := hq
    replace h := h σ4 hq hf
    refine e_aload_n dX11_over_21 rfl rfl ?_
    refine e_getR (y := 6) dX11_over_22 fl_X11_55 (ob_0 hn) rfl rfl ?_
    refine e_aload_n dX11_over_25 rfl rfl ?_
    refine e_getR (y := 6) dX11_over_26 fl_X11_55 (ob_0 hn) rfl rfl ?_
    refine e_getR (y := 24) dX11_over_29 fl_X11_187 (ob_6 hn) rfl rfl ?_
    obtain ⟨Q8, hc9, h⟩ := h
    refine e_callV (M' := M_X4_squareAt) (as := [.ref 24]) (rest := []) dX11_over_32 ml_X11_220 mk_X4_squareAt (ob_6 hn) rfl rfl rfl (Nat.le_of_ble_eq_true rfl) (show 0 < d by omega) hc9 (Md_le (b := md_X11_over) (by decide)) (fun v σ10 hq hf => ?_)
    obtain ⟨v11, rfl, hq⟩ := hq
    replace h := h v11 σ10 hq hf
    refine e_pop dX11_over_35 rfl ?_
    refine e_aload_n dX11_over_36 rfl rfl ?_
    refine e_getR (y := 6) dX11_over_37 fl_X11_55 (ob_0 hn) rfl rfl ?_
    refine e_getR (y := 25) dX11_over_40 fl_X11_224 (ob_6 hn) rfl rfl ?_
    refine e_iload_n dX11_over_43 rfl rfl ?_
    refine e_iald dX11_over_44 (ar_25 hn) h.1 ?_
    replace h := h.2
    exact e_iret dX11_over_45 rfl ⟨_, rfl, h⟩
  · replace h := h.2 c1
    refine e_bipush dX11_over_11 cb_m100 ?_
    exact e_iret dX11_over_13 rfl ⟨_, rfl, h⟩
theorem S_X11_square {d n : Nat} {Q : Int32 → St → Prop} {σ : St}  (hn : FIX ≤ n) (hd : 1 ≤ d) (h : ∃ Q1 : St → Prop, Cn (d - 1) n M_X1_freshenAll md_X1_freshenAll [.ref 3] σ (liV Q1) ∧ ∀ (σ3 : St), Q1 σ3 → Fr md_X1_freshenAll σ σ3 → ∃ Q7 : Int32 → St → Prop, Cn (d - 1) n M_X4_squareAt md_X4_squareAt [.ref 6, .ref 24] σ3 (liI Q7) ∧ ∀ (v10 : Int32) (σ9 : St), Q7 v10 σ9 → Fr md_X4_squareAt σ3 σ9 → Q v10 σ9) : Cn d n M_X11_square md_X11_square [.ref 0] σ (liI Q) := by
  refine Cn.of (k0 := 0) (by decide) rfl ?_
  show Ev (d, n, md_X11_square, σ, liI Q) M_X11_square 0 [some (.ref 0)] [] σ
  refine e_aload_n dX11_square_0 rfl rfl ?_
  refine e_getR (y := 3) dX11_square_1 fl_X11_30 (ob_0 hn) rfl rfl ?_
  obtain ⟨Q1, hc2, h⟩ := h
  refine e_callV (M' := M_X1_freshenAll) (as := []) (rest := []) dX11_square_4 ml_X11_217 mk_X1_freshenAll (ob_3 hn) rfl rfl rfl (Nat.le_of_ble_eq_true rfl) (show 0 < d by omega) hc2 (Md_le (b := md_X11_square) (by decide)) (fun v σ3 hq hf => ?_)
  obtain ⟨rfl, hq⟩ := hq
  replace h := h σ3 hq hf
  refine e_aload_n dX11_square_7 rfl rfl ?_
  refine e_getR (y := 6) dX11_square_8 fl_X11_55 (ob_0 hn) rfl rfl ?_
  refine e_aload_n dX11_square_11 rfl rfl ?_
  refine e_getR (y := 6) dX11_square_12 fl_X11_55 (ob_0 hn) rfl rfl ?_
  refine e_getR (y := 24) dX11_square_15 fl_X11_187 (ob_6 hn) rfl rfl ?_
  obtain ⟨Q7, hc8, h⟩ := h
  refine e_callV (M' := M_X4_squareAt) (as := [.ref 24]) (rest := []) dX11_square_18 ml_X11_220 mk_X4_squareAt (ob_6 hn) rfl rfl rfl (Nat.le_of_ble_eq_true rfl) (show 0 < d by omega) hc8 (Md_le (b := md_X11_square) (by decide)) (fun v σ9 hq hf => ?_)
  obtain ⟨v10, rfl, hq⟩ := hq
  replace h := h v10 σ9 hq hf
  exact e_iret dX11_square_21 rfl ⟨_, rfl, h⟩
theorem S_X11_fit {d n : Nat} {Q : Int32 → St → Prop} {σ : St} {a1 : Int32} {a2 : Int32} (hn : FIX ≤ n) (hd : 1 ≤ d) (h : ((a2 = 0 → ((a1 < 1 → Q (-1) σ) ∧ (¬ a1 < 1 → (((60 : Int32) < a1 → Q (-1) σ) ∧ (¬ (60 : Int32) < a1 → (((1 : Int32) ≠ 0 → ∃ Q5 : St → Prop, Cn (d - 1) n M_X1_freshenAll md_X1_freshenAll [.ref 3] σ (liV Q5) ∧ ∀ (σ7 : St), Q5 σ7 → Fr md_X1_freshenAll σ σ7 → ∃ Q11 : St → Prop, Cn (d - 1) n M_X8_run md_X8_run [.ref 7, .int a1] σ7 (liV Q11) ∧ ∀ (σ13 : St), Q11 σ13 → Fr md_X8_run σ7 σ13 → ((a2 ≠ 0 → ((a2 ≠ 1 → vp_in (a2 - 10) 10 ∧ Q (gI σ13 28 (a2 - 10).toNatClampNeg) σ13) ∧ (a2 = 1 → Q (gI σ13 7 4) σ13))) ∧ (a2 = 0 → Q (gI σ13 7 3) σ13))) ∧ ((1 : Int32) = 0 → Q (-1) σ))))))) ∧ (¬ a2 = 0 → ((a2 = 1 → ((a1 < 1 → Q (-1) σ) ∧ (¬ a1 < 1 → (((60 : Int32) < a1 → Q (-1) σ) ∧ (¬ (60 : Int32) < a1 → (((1 : Int32) ≠ 0 → ∃ Q23 : St → Prop, Cn (d - 1) n M_X1_freshenAll md_X1_freshenAll [.ref 3] σ (liV Q23) ∧ ∀ (σ25 : St), Q23 σ25 → Fr md_X1_freshenAll σ σ25 → ∃ Q29 : St → Prop, Cn (d - 1) n M_X8_run md_X8_run [.ref 7, .int a1] σ25 (liV Q29) ∧ ∀ (σ31 : St), Q29 σ31 → Fr md_X8_run σ25 σ31 → ((a2 ≠ 0 → ((a2 ≠ 1 → vp_in (a2 - 10) 10 ∧ Q (gI σ31 28 (a2 - 10).toNatClampNeg) σ31) ∧ (a2 = 1 → Q (gI σ31 7 4) σ31))) ∧ (a2 = 0 → Q (gI σ31 7 3) σ31))) ∧ ((1 : Int32) = 0 → Q (-1) σ))))))) ∧ (¬ a2 = 1 → (((fn_X6_isLesson σ (a2 - 10)) = 0 → ((a1 < 1 → Q (-1) σ) ∧ (¬ a1 < 1 → (((60 : Int32) < a1 → Q (-1) σ) ∧ (¬ (60 : Int32) < a1 → (((0 : Int32) ≠ 0 → ∃ Q41 : St → Prop, Cn (d - 1) n M_X1_freshenAll md_X1_freshenAll [.ref 3] σ (liV Q41) ∧ ∀ (σ43 : St), Q41 σ43 → Fr md_X1_freshenAll σ σ43 → ∃ Q47 : St → Prop, Cn (d - 1) n M_X8_run md_X8_run [.ref 7, .int a1] σ43 (liV Q47) ∧ ∀ (σ49 : St), Q47 σ49 → Fr md_X8_run σ43 σ49 → ((a2 ≠ 0 → ((a2 ≠ 1 → vp_in (a2 - 10) 10 ∧ Q (gI σ49 28 (a2 - 10).toNatClampNeg) σ49) ∧ (a2 = 1 → Q (gI σ49 7 4) σ49))) ∧ (a2 = 0 → Q (gI σ49 7 3) σ49))) ∧ ((0 : Int32) = 0 → Q (-1) σ))))))) ∧ (¬ (fn_X6_isLesson σ (a2 - 10)) = 0 → ((a1 < 1 → Q (-1) σ) ∧ (¬ a1 < 1 → (((60 : Int32) < a1 → Q (-1) σ) ∧ (¬ (60 : Int32) < a1 → (((1 : Int32) ≠ 0 → ∃ Q58 : St → Prop, Cn (d - 1) n M_X1_freshenAll md_X1_freshenAll [.ref 3] σ (liV Q58) ∧ ∀ (σ60 : St), Q58 σ60 → Fr md_X1_freshenAll σ σ60 → ∃ Q64 : St → Prop, Cn (d - 1) n M_X8_run md_X8_run [.ref 7, .int a1] σ60 (liV Q64) ∧ ∀ (σ66 : St), Q64 σ66 → Fr md_X8_run σ60 σ66 → ((a2 ≠ 0 → ((a2 ≠ 1 → vp_in (a2 - 10) 10 ∧ Q (gI σ66 28 (a2 - 10).toNatClampNeg) σ66) ∧ (a2 = 1 → Q (gI σ66 7 4) σ66))) ∧ (a2 = 0 → Q (gI σ66 7 3) σ66))) ∧ ((1 : Int32) = 0 → Q (-1) σ))))))))))))) : Cn d n M_X11_fit md_X11_fit [.ref 0, .int a1, .int a2] σ (liI Q) := by
  refine Cn.of (k0 := 1) (by decide) rfl ?_
  show Ev (d, n, md_X11_fit, σ, liI Q) M_X11_fit 0 [some (.ref 0), some (.int a1), some (.int a2), none] [] σ
  refine e_iload_n dX11_fit_0 rfl rfl ?_
  refine e_if_eq (tgt := 23) dX11_fit_1 (by decide) (fun c1 => ?_) (fun c1 => ?_)
  · replace h := h.1 c1
    refine e_iconst dX11_fit_23 ci_1 ?_
    refine e_goto (tgt := 28) dX11_fit_24 (by decide) ?_
    refine e_istore_n dX11_fit_28 rfl rfl (by decide) ?_
    refine e_iload_n dX11_fit_29 rfl rfl ?_
    refine e_iconst dX11_fit_30 ci_1 ?_
    refine e_icmp_lt (tgt := 44) dX11_fit_31 (by decide) (fun c2 => ?_) (fun c2 => ?_)
    · replace h := h.1 c2
      refine e_iconst dX11_fit_44 ci_m1 ?_
      exact e_iret dX11_fit_45 rfl ⟨_, rfl, h⟩
    · replace h := h.2 c2
      refine e_iload_n dX11_fit_34 rfl rfl ?_
      refine e_bipush dX11_fit_35 cb_60 ?_
      refine e_icmp_gt (tgt := 44) dX11_fit_37 (by decide) (fun c3 => ?_) (fun c3 => ?_)
      · replace h := h.1 c3
        refine e_iconst dX11_fit_44 ci_m1 ?_
        exact e_iret dX11_fit_45 rfl ⟨_, rfl, h⟩
      · replace h := h.2 c3
        refine e_iload_n dX11_fit_40 rfl rfl ?_
        refine e_if_ne (tgt := 46) dX11_fit_41 (by decide) (fun c4 => ?_) (fun c4 => ?_)
        · replace h := h.1 c4
          refine e_aload_n dX11_fit_46 rfl rfl ?_
          refine e_getR (y := 3) dX11_fit_47 fl_X11_30 (ob_0 hn) rfl rfl ?_
          obtain ⟨Q5, hc6, h⟩ := h
          refine e_callV (M' := M_X1_freshenAll) (as := []) (rest := []) dX11_fit_50 ml_X11_217 mk_X1_freshenAll (ob_3 hn) rfl rfl rfl (Nat.le_of_ble_eq_true rfl) (show 0 < d by omega) hc6 (Md_le (b := md_X11_fit) (by decide)) (fun v σ7 hq hf => ?_)
          obtain ⟨rfl, hq⟩ := hq
          replace h := h σ7 hq hf
          refine e_aload_n dX11_fit_53 rfl rfl ?_
          refine e_getR (y := 7) dX11_fit_54 fl_X11_64 (ob_0 hn) rfl rfl ?_
          refine e_iload_n dX11_fit_57 rfl rfl ?_
          obtain ⟨Q11, hc12, h⟩ := h
          refine e_callV (M' := M_X8_run) (as := [.int a1]) (rest := []) dX11_fit_58 ml_X11_227 mk_X8_run (ob_7 hn) rfl rfl rfl (Nat.le_of_ble_eq_true rfl) (show 0 < d by omega) hc12 (Md_le (b := md_X11_fit) (by decide)) (fun v σ13 hq hf => ?_)
          obtain ⟨rfl, hq⟩ := hq
          replace h := h σ13 hq hf
          refine e_iload_n dX11_fit_61 rfl rfl ?_
          refine e_if_ne (tgt := 73) dX11_fit_62 (by decide) (fun c17 => ?_) (fun c17 => ?_)
          · replace h := h.1 c17
            refine e_iload_n dX11_fit_73 rfl rfl ?_
            refine e_iconst dX11_fit_74 ci_1 ?_
            refine e_icmp_ne (tgt := 88) dX11_fit_75 (by decide) (fun c18 => ?_) (fun c18 => ?_)
            · replace h := h.1 c18
              refine e_aload_n dX11_fit_88 rfl rfl ?_
              refine e_getR (y := 7) dX11_fit_89 fl_X11_64 (ob_0 hn) rfl rfl ?_
              refine e_getR (y := 28) dX11_fit_92 fl_X11_236 (ob_7 hn) rfl rfl ?_
              refine e_iload_n dX11_fit_95 rfl rfl ?_
              refine e_bipush dX11_fit_96 cb_10 ?_
              refine e_isub dX11_fit_98 ?_
              refine e_iald dX11_fit_99 (ar_28 hn) h.1 ?_
              replace h := h.2
              exact e_iret dX11_fit_100 rfl ⟨_, rfl, h⟩
            · replace h := h.2 c18
              refine e_aload_n dX11_fit_78 rfl rfl ?_
              refine e_getR (y := 7) dX11_fit_79 fl_X11_64 (ob_0 hn) rfl rfl ?_
              refine e_getI dX11_fit_82 fl_X11_233 (ob_7 hn) rfl ?_
              refine e_goto (tgt := 100) dX11_fit_85 (by decide) ?_
              exact e_iret dX11_fit_100 rfl ⟨_, rfl, h⟩
          · replace h := h.2 c17
            refine e_aload_n dX11_fit_65 rfl rfl ?_
            refine e_getR (y := 7) dX11_fit_66 fl_X11_64 (ob_0 hn) rfl rfl ?_
            refine e_getI dX11_fit_69 fl_X11_230 (ob_7 hn) rfl ?_
            exact e_iret dX11_fit_72 rfl ⟨_, rfl, h⟩
        · replace h := h.2 c4
          refine e_iconst dX11_fit_44 ci_m1 ?_
          exact e_iret dX11_fit_45 rfl ⟨_, rfl, h⟩
  · replace h := h.2 c1
    refine e_iload_n dX11_fit_4 rfl rfl ?_
    refine e_iconst dX11_fit_5 ci_1 ?_
    refine e_icmp_eq (tgt := 23) dX11_fit_6 (by decide) (fun c19 => ?_) (fun c19 => ?_)
    · replace h := h.1 c19
      refine e_iconst dX11_fit_23 ci_1 ?_
      refine e_goto (tgt := 28) dX11_fit_24 (by decide) ?_
      refine e_istore_n dX11_fit_28 rfl rfl (by decide) ?_
      refine e_iload_n dX11_fit_29 rfl rfl ?_
      refine e_iconst dX11_fit_30 ci_1 ?_
      refine e_icmp_lt (tgt := 44) dX11_fit_31 (by decide) (fun c20 => ?_) (fun c20 => ?_)
      · replace h := h.1 c20
        refine e_iconst dX11_fit_44 ci_m1 ?_
        exact e_iret dX11_fit_45 rfl ⟨_, rfl, h⟩
      · replace h := h.2 c20
        refine e_iload_n dX11_fit_34 rfl rfl ?_
        refine e_bipush dX11_fit_35 cb_60 ?_
        refine e_icmp_gt (tgt := 44) dX11_fit_37 (by decide) (fun c21 => ?_) (fun c21 => ?_)
        · replace h := h.1 c21
          refine e_iconst dX11_fit_44 ci_m1 ?_
          exact e_iret dX11_fit_45 rfl ⟨_, rfl, h⟩
        · replace h := h.2 c21
          refine e_iload_n dX11_fit_40 rfl rfl ?_
          refine e_if_ne (tgt := 46) dX11_fit_41 (by decide) (fun c22 => ?_) (fun c22 => ?_)
          · replace h := h.1 c22
            refine e_aload_n dX11_fit_46 rfl rfl ?_
            refine e_getR (y := 3) dX11_fit_47 fl_X11_30 (ob_0 hn) rfl rfl ?_
            obtain ⟨Q23, hc24, h⟩ := h
            refine e_callV (M' := M_X1_freshenAll) (as := []) (rest := []) dX11_fit_50 ml_X11_217 mk_X1_freshenAll (ob_3 hn) rfl rfl rfl (Nat.le_of_ble_eq_true rfl) (show 0 < d by omega) hc24 (Md_le (b := md_X11_fit) (by decide)) (fun v σ25 hq hf => ?_)
            obtain ⟨rfl, hq⟩ := hq
            replace h := h σ25 hq hf
            refine e_aload_n dX11_fit_53 rfl rfl ?_
            refine e_getR (y := 7) dX11_fit_54 fl_X11_64 (ob_0 hn) rfl rfl ?_
            refine e_iload_n dX11_fit_57 rfl rfl ?_
            obtain ⟨Q29, hc30, h⟩ := h
            refine e_callV (M' := M_X8_run) (as := [.int a1]) (rest := []) dX11_fit_58 ml_X11_227 mk_X8_run (ob_7 hn) rfl rfl rfl (Nat.le_of_ble_eq_true rfl) (show 0 < d by omega) hc30 (Md_le (b := md_X11_fit) (by decide)) (fun v σ31 hq hf => ?_)
            obtain ⟨rfl, hq⟩ := hq
            replace h := h σ31 hq hf
            refine e_iload_n dX11_fit_61 rfl rfl ?_
            refine e_if_ne (tgt := 73) dX11_fit_62 (by decide) (fun c35 => ?_) (fun c35 => ?_)
            · replace h := h.1 c35
              refine e_iload_n dX11_fit_73 rfl rfl ?_
              refine e_iconst dX11_fit_74 ci_1 ?_
              refine e_icmp_ne (tgt := 88) dX11_fit_75 (by decide) (fun c36 => ?_) (fun c36 => ?_)
              · replace h := h.1 c36
                refine e_aload_n dX11_fit_88 rfl rfl ?_
                refine e_getR (y := 7) dX11_fit_89 fl_X11_64 (ob_0 hn) rfl rfl ?_
                refine e_getR (y := 28) dX11_fit_92 fl_X11_236 (ob_7 hn) rfl rfl ?_
                refine e_iload_n dX11_fit_95 rfl rfl ?_
                refine e_bipush dX11_fit_96 cb_10 ?_
                refine e_isub dX11_fit_98 ?_
                refine e_iald dX11_fit_99 (ar_28 hn) h.1 ?_
                replace h := h.2
                exact e_iret dX11_fit_100 rfl ⟨_, rfl, h⟩
              · replace h := h.2 c36
                refine e_aload_n dX11_fit_78 rfl rfl ?_
                refine e_getR (y := 7) dX11_fit_79 fl_X11_64 (ob_0 hn) rfl rfl ?_
                refine e_getI dX11_fit_82 fl_X11_233 (ob_7 hn) rfl ?_
                refine e_goto (tgt := 100) dX11_fit_85 (by decide) ?_
                exact e_iret dX11_fit_100 rfl ⟨_, rfl, h⟩
            · replace h := h.2 c35
              refine e_aload_n dX11_fit_65 rfl rfl ?_
              refine e_getR (y := 7) dX11_fit_66 fl_X11_64 (ob_0 hn) rfl rfl ?_
              refine e_getI dX11_fit_69 fl_X11_230 (ob_7 hn) rfl ?_
              exact e_iret dX11_fit_72 rfl ⟨_, rfl, h⟩
          · replace h := h.2 c22
            refine e_iconst dX11_fit_44 ci_m1 ?_
            exact e_iret dX11_fit_45 rfl ⟨_, rfl, h⟩
    · replace h := h.2 c19
      refine e_aload_n dX11_fit_9 rfl rfl ?_
      refine e_getR (y := 1) dX11_fit_10 fl_X11_10 (ob_0 hn) rfl rfl ?_
      refine e_iload_n dX11_fit_13 rfl rfl ?_
      refine e_bipush dX11_fit_14 cb_10 ?_
      refine e_isub dX11_fit_16 ?_
      refine e_callV (M' := M_X6_isLesson) (as := [.int (a2 - 10)]) (rest := []) dX11_fit_17 ml_X11_113 mk_X6_isLesson (ob_1 hn) rfl rfl rfl (Nat.le_of_ble_eq_true rfl) (show 0 < d by omega) (sp_X6_isLesson hn) Md_nil (fun v σv hq hf => ?_)
      obtain ⟨v, rfl, rfl, rfl⟩ := hq
      refine e_if_eq (tgt := 27) dX11_fit_20 (by decide) (fun c37 => ?_) (fun c37 => ?_)
      · replace h := h.1 c37
        refine e_iconst dX11_fit_27 ci_0 ?_
        refine e_istore_n dX11_fit_28 rfl rfl (by decide) ?_
        refine e_iload_n dX11_fit_29 rfl rfl ?_
        refine e_iconst dX11_fit_30 ci_1 ?_
        refine e_icmp_lt (tgt := 44) dX11_fit_31 (by decide) (fun c38 => ?_) (fun c38 => ?_)
        · replace h := h.1 c38
          refine e_iconst dX11_fit_44 ci_m1 ?_
          exact e_iret dX11_fit_45 rfl ⟨_, rfl, h⟩
        · replace h := h.2 c38
          refine e_iload_n dX11_fit_34 rfl rfl ?_
          refine e_bipush dX11_fit_35 cb_60 ?_
          refine e_icmp_gt (tgt := 44) dX11_fit_37 (by decide) (fun c39 => ?_) (fun c39 => ?_)
          · replace h := h.1 c39
            refine e_iconst dX11_fit_44 ci_m1 ?_
            exact e_iret dX11_fit_45 rfl ⟨_, rfl, h⟩
          · replace h := h.2 c39
            refine e_iload_n dX11_fit_40 rfl rfl ?_
            refine e_if_ne (tgt := 46) dX11_fit_41 (by decide) (fun c40 => ?_) (fun c40 => ?_)
            · replace h := h.1 c40
              refine e_aload_n dX11_fit_46 rfl rfl ?_
              refine e_getR (y := 3) dX11_fit_47 fl_X11_30 (ob_0 hn) rfl rfl ?_
              obtain ⟨Q41, hc42, h⟩ := h
              refine e_callV (M' := M_X1_freshenAll) (as := []) (rest := []) dX11_fit_50 ml_X11_217 mk_X1_freshenAll (ob_3 hn) rfl rfl rfl (Nat.le_of_ble_eq_true rfl) (show 0 < d by omega) hc42 (Md_le (b := md_X11_fit) (by decide)) (fun v σ43 hq hf => ?_)
              obtain ⟨rfl, hq⟩ := hq
              replace h := h σ43 hq hf
              refine e_aload_n dX11_fit_53 rfl rfl ?_
              refine e_getR (y := 7) dX11_fit_54 fl_X11_64 (ob_0 hn) rfl rfl ?_
              refine e_iload_n dX11_fit_57 rfl rfl ?_
              obtain ⟨Q47, hc48, h⟩ := h
              refine e_callV (M' := M_X8_run) (as := [.int a1]) (rest := []) dX11_fit_58 ml_X11_227 mk_X8_run (ob_7 hn) rfl rfl rfl (Nat.le_of_ble_eq_true rfl) (show 0 < d by omega) hc48 (Md_le (b := md_X11_fit) (by decide)) (fun v σ49 hq hf => ?_)
              obtain ⟨rfl, hq⟩ := hq
              replace h := h σ49 hq hf
              refine e_iload_n dX11_fit_61 rfl rfl ?_
              refine e_if_ne (tgt := 73) dX11_fit_62 (by decide) (fun c53 => ?_) (fun c53 => ?_)
              · replace h := h.1 c53
                refine e_iload_n dX11_fit_73 rfl rfl ?_
                refine e_iconst dX11_fit_74 ci_1 ?_
                refine e_icmp_ne (tgt := 88) dX11_fit_75 (by decide) (fun c54 => ?_) (fun c54 => ?_)
                · replace h := h.1 c54
                  refine e_aload_n dX11_fit_88 rfl rfl ?_
                  refine e_getR (y := 7) dX11_fit_89 fl_X11_64 (ob_0 hn) rfl rfl ?_
                  refine e_getR (y := 28) dX11_fit_92 fl_X11_236 (ob_7 hn) rfl rfl ?_
                  refine e_iload_n dX11_fit_95 rfl rfl ?_
                  refine e_bipush dX11_fit_96 cb_10 ?_
                  refine e_isub dX11_fit_98 ?_
                  refine e_iald dX11_fit_99 (ar_28 hn) h.1 ?_
                  replace h := h.2
                  exact e_iret dX11_fit_100 rfl ⟨_, rfl, h⟩
                · replace h := h.2 c54
                  refine e_aload_n dX11_fit_78 rfl rfl ?_
                  refine e_getR (y := 7) dX11_fit_79 fl_X11_64 (ob_0 hn) rfl rfl ?_
                  refine e_getI dX11_fit_82 fl_X11_233 (ob_7 hn) rfl ?_
                  refine e_goto (tgt := 100) dX11_fit_85 (by decide) ?_
                  exact e_iret dX11_fit_100 rfl ⟨_, rfl, h⟩
              · replace h := h.2 c53
                refine e_aload_n dX11_fit_65 rfl rfl ?_
                refine e_getR (y := 7) dX11_fit_66 fl_X11_64 (ob_0 hn) rfl rfl ?_
                refine e_getI dX11_fit_69 fl_X11_230 (ob_7 hn) rfl ?_
                exact e_iret dX11_fit_72 rfl ⟨_, rfl, h⟩
            · replace h := h.2 c40
              refine e_iconst dX11_fit_44 ci_m1 ?_
              exact e_iret dX11_fit_45 rfl ⟨_, rfl, h⟩
      · replace h := h.2 c37
        refine e_iconst dX11_fit_23 ci_1 ?_
        refine e_goto (tgt := 28) dX11_fit_24 (by decide) ?_
        refine e_istore_n dX11_fit_28 rfl rfl (by decide) ?_
        refine e_iload_n dX11_fit_29 rfl rfl ?_
        refine e_iconst dX11_fit_30 ci_1 ?_
        refine e_icmp_lt (tgt := 44) dX11_fit_31 (by decide) (fun c55 => ?_) (fun c55 => ?_)
        · replace h := h.1 c55
          refine e_iconst dX11_fit_44 ci_m1 ?_
          exact e_iret dX11_fit_45 rfl ⟨_, rfl, h⟩
        · replace h := h.2 c55
          refine e_iload_n dX11_fit_34 rfl rfl ?_
          refine e_bipush dX11_fit_35 cb_60 ?_
          refine e_icmp_gt (tgt := 44) dX11_fit_37 (by decide) (fun c56 => ?_) (fun c56 => ?_)
          · replace h := h.1 c56
            refine e_iconst dX11_fit_44 ci_m1 ?_
            exact e_iret dX11_fit_45 rfl ⟨_, rfl, h⟩
          · replace h := h.2 c56
            refine e_iload_n dX11_fit_40 rfl rfl ?_
            refine e_if_ne (tgt := 46) dX11_fit_41 (by decide) (fun c57 => ?_) (fun c57 => ?_)
            · replace h := h.1 c57
              refine e_aload_n dX11_fit_46 rfl rfl ?_
              refine e_getR (y := 3) dX11_fit_47 fl_X11_30 (ob_0 hn) rfl rfl ?_
              obtain ⟨Q58, hc59, h⟩ := h
              refine e_callV (M' := M_X1_freshenAll) (as := []) (rest := []) dX11_fit_50 ml_X11_217 mk_X1_freshenAll (ob_3 hn) rfl rfl rfl (Nat.le_of_ble_eq_true rfl) (show 0 < d by omega) hc59 (Md_le (b := md_X11_fit) (by decide)) (fun v σ60 hq hf => ?_)
              obtain ⟨rfl, hq⟩ := hq
              replace h := h σ60 hq hf
              refine e_aload_n dX11_fit_53 rfl rfl ?_
              refine e_getR (y := 7) dX11_fit_54 fl_X11_64 (ob_0 hn) rfl rfl ?_
              refine e_iload_n dX11_fit_57 rfl rfl ?_
              obtain ⟨Q64, hc65, h⟩ := h
              refine e_callV (M' := M_X8_run) (as := [.int a1]) (rest := []) dX11_fit_58 ml_X11_227 mk_X8_run (ob_7 hn) rfl rfl rfl (Nat.le_of_ble_eq_true rfl) (show 0 < d by omega) hc65 (Md_le (b := md_X11_fit) (by decide)) (fun v σ66 hq hf => ?_)
              obtain ⟨rfl, hq⟩ := hq
              replace h := h σ66 hq hf
              refine e_iload_n dX11_fit_61 rfl rfl ?_
              refine e_if_ne (tgt := 73) dX11_fit_62 (by decide) (fun c70 => ?_) (fun c70 => ?_)
              · replace h := h.1 c70
                refine e_iload_n dX11_fit_73 rfl rfl ?_
                refine e_iconst dX11_fit_74 ci_1 ?_
                refine e_icmp_ne (tgt := 88) dX11_fit_75 (by decide) (fun c71 => ?_) (fun c71 => ?_)
                · replace h := h.1 c71
                  refine e_aload_n dX11_fit_88 rfl rfl ?_
                  refine e_getR (y := 7) dX11_fit_89 fl_X11_64 (ob_0 hn) rfl rfl ?_
                  refine e_getR (y := 28) dX11_fit_92 fl_X11_236 (ob_7 hn) rfl rfl ?_
                  refine e_iload_n dX11_fit_95 rfl rfl ?_
                  refine e_bipush dX11_fit_96 cb_10 ?_
                  refine e_isub dX11_fit_98 ?_
                  refine e_iald dX11_fit_99 (ar_28 hn) h.1 ?_
                  replace h := h.2
                  exact e_iret dX11_fit_100 rfl ⟨_, rfl, h⟩
                · replace h := h.2 c71
                  refine e_aload_n dX11_fit_78 rfl rfl ?_
                  refine e_getR (y := 7) dX11_fit_79 fl_X11_64 (ob_0 hn) rfl rfl ?_
                  refine e_getI dX11_fit_82 fl_X11_233 (ob_7 hn) rfl ?_
                  refine e_goto (tgt := 100) dX11_fit_85 (by decide) ?_
                  exact e_iret dX11_fit_100 rfl ⟨_, rfl, h⟩
              · replace h := h.2 c70
                refine e_aload_n dX11_fit_65 rfl rfl ?_
                refine e_getR (y := 7) dX11_fit_66 fl_X11_64 (ob_0 hn) rfl rfl ?_
                refine e_getI dX11_fit_69 fl_X11_230 (ob_7 hn) rfl ?_
                exact e_iret dX11_fit_72 rfl ⟨_, rfl, h⟩
            · replace h := h.2 c57
              refine e_iconst dX11_fit_44 ci_m1 ?_
              exact e_iret dX11_fit_45 rfl ⟨_, rfl, h⟩
theorem S_X11_settle {d n : Nat} {Q : Int32 → St → Prop} {σ : St} {a1 : Int32} (hn : FIX ≤ n) (hd : 1 ≤ d) (h : ((a1 < 1 → Q 0 σ) ∧ (¬ a1 < 1 → ((a1 ≤ 60 → ∃ Q3 : St → Prop, Cn (d - 1) n M_X1_freshenAll md_X1_freshenAll [.ref 3] σ (liV Q3) ∧ ∀ (σ5 : St), Q3 σ5 → Fr md_X1_freshenAll σ σ5 → ∃ Q9 : St → Prop, Cn (d - 1) n M_X8_run md_X8_run [.ref 7, .int a1] σ5 (liV Q9) ∧ ∀ (σ11 : St), Q9 σ11 → Fr md_X8_run σ5 σ11 → Q 1 (sA σ11 24 (va_cpy (gI σ11 28) (gI σ11 24) 0 0 10))) ∧ (¬ a1 ≤ 60 → Q 0 σ))))) : Cn d n M_X11_settle md_X11_settle [.ref 0, .int a1] σ (liI Q) := by
  refine Cn.of (k0 := 0) (by decide) rfl ?_
  show Ev (d, n, md_X11_settle, σ, liI Q) M_X11_settle 0 [some (.ref 0), some (.int a1)] [] σ
  refine e_iload_n dX11_settle_0 rfl rfl ?_
  refine e_iconst dX11_settle_1 ci_1 ?_
  refine e_icmp_lt (tgt := 11) dX11_settle_2 (by decide) (fun c1 => ?_) (fun c1 => ?_)
  · replace h := h.1 c1
    refine e_iconst dX11_settle_11 ci_0 ?_
    exact e_zret dX11_settle_12 rfl (nar_z (Or.inl rfl)) ⟨_, rfl, h⟩
  · replace h := h.2 c1
    refine e_iload_n dX11_settle_5 rfl rfl ?_
    refine e_bipush dX11_settle_6 cb_60 ?_
    refine e_icmp_le (tgt := 13) dX11_settle_8 (by decide) (fun c2 => ?_) (fun c2 => ?_)
    · replace h := h.1 c2
      refine e_aload_n dX11_settle_13 rfl rfl ?_
      refine e_getR (y := 3) dX11_settle_14 fl_X11_30 (ob_0 hn) rfl rfl ?_
      obtain ⟨Q3, hc4, h⟩ := h
      refine e_callV (M' := M_X1_freshenAll) (as := []) (rest := []) dX11_settle_17 ml_X11_217 mk_X1_freshenAll (ob_3 hn) rfl rfl rfl (Nat.le_of_ble_eq_true rfl) (show 0 < d by omega) hc4 (Md_le (b := md_X11_settle) (by decide)) (fun v σ5 hq hf => ?_)
      obtain ⟨rfl, hq⟩ := hq
      replace h := h σ5 hq hf
      refine e_aload_n dX11_settle_20 rfl rfl ?_
      refine e_getR (y := 7) dX11_settle_21 fl_X11_64 (ob_0 hn) rfl rfl ?_
      refine e_iload_n dX11_settle_24 rfl rfl ?_
      obtain ⟨Q9, hc10, h⟩ := h
      refine e_callV (M' := M_X8_run) (as := [.int a1]) (rest := []) dX11_settle_25 ml_X11_227 mk_X8_run (ob_7 hn) rfl rfl rfl (Nat.le_of_ble_eq_true rfl) (show 0 < d by omega) hc10 (Md_le (b := md_X11_settle) (by decide)) (fun v σ11 hq hf => ?_)
      obtain ⟨rfl, hq⟩ := hq
      replace h := h σ11 hq hf
      refine e_aload_n dX11_settle_28 rfl rfl ?_
      refine e_getR (y := 7) dX11_settle_29 fl_X11_64 (ob_0 hn) rfl rfl ?_
      refine e_getR (y := 28) dX11_settle_32 fl_X11_236 (ob_7 hn) rfl rfl ?_
      refine e_iconst dX11_settle_35 ci_0 ?_
      refine e_aload_n dX11_settle_36 rfl rfl ?_
      refine e_getR (y := 6) dX11_settle_37 fl_X11_55 (ob_0 hn) rfl rfl ?_
      refine e_getR (y := 24) dX11_settle_40 fl_X11_187 (ob_6 hn) rfl rfl ?_
      refine e_iconst dX11_settle_43 ci_0 ?_
      refine e_bipush dX11_settle_44 cb_10 ?_
      refine e_copy dX11_settle_46 ml_X11_239 (ar_28 hn) (ar_24 hn) (by decide) (by decide) (by decide) (Nat.le_of_ble_eq_true rfl) (show 0 < d by omega) (fun _ => (md_r (m := md_X11_settle) (by decide))) ?_
      refine e_iconst dX11_settle_49 ci_1 ?_
      exact e_zret dX11_settle_50 rfl (nar_z (Or.inr rfl)) ⟨_, rfl, h⟩
    · replace h := h.2 c2
      refine e_iconst dX11_settle_11 ci_0 ?_
      exact e_zret dX11_settle_12 rfl (nar_z (Or.inl rfl)) ⟨_, rfl, h⟩
theorem S_X11_must {d n : Nat} {Q : Int32 → St → Prop} {σ : St} {a1 : Int32} (hn : FIX ≤ n) (hd : 1 ≤ d) (h : (((gI σ 1 0) < 1 → Q (-1) σ) ∧ (¬ (gI σ 1 0) < 1 → (((3 : Int32) < (gI σ 1 0) → Q (-1) σ) ∧ (¬ (3 : Int32) < (gI σ 1 0) → ((a1 < 1 → Q (-1) σ) ∧ (¬ a1 < 1 → ((a1 ≤ 250 → ∃ Q5 : St → Prop, Cn (d - 1) n M_X1_freshenAll md_X1_freshenAll [.ref 3] σ (liV Q5) ∧ ∀ (σ7 : St), Q5 σ7 → Fr md_X1_freshenAll σ σ7 → ∃ Q11 : Int32 → St → Prop, Cn (d - 1) n M_X8_leastSquare md_X8_leastSquare [.ref 7, .int a1] σ7 (liI Q11) ∧ ∀ (v14 : Int32) (σ13 : St), Q11 v14 σ13 → Fr md_X8_leastSquare σ7 σ13 → Q v14 σ13) ∧ (¬ a1 ≤ 250 → Q (-1) σ))))))))) : Cn d n M_X11_must md_X11_must [.ref 0, .int a1] σ (liI Q) := by
  refine Cn.of (k0 := 0) (by decide) rfl ?_
  show Ev (d, n, md_X11_must, σ, liI Q) M_X11_must 0 [some (.ref 0), some (.int a1)] [] σ
  refine e_aload_n dX11_must_0 rfl rfl ?_
  refine e_getR (y := 1) dX11_must_1 fl_X11_10 (ob_0 hn) rfl rfl ?_
  refine e_getI dX11_must_4 fl_X11_245 (ob_1 hn) rfl ?_
  refine e_iconst dX11_must_7 ci_1 ?_
  refine e_icmp_lt (tgt := 34) dX11_must_8 (by decide) (fun c1 => ?_) (fun c1 => ?_)
  · replace h := h.1 c1
    refine e_iconst dX11_must_34 ci_m1 ?_
    exact e_iret dX11_must_35 rfl ⟨_, rfl, h⟩
  · replace h := h.2 c1
    refine e_aload_n dX11_must_11 rfl rfl ?_
    refine e_getR (y := 1) dX11_must_12 fl_X11_10 (ob_0 hn) rfl rfl ?_
    refine e_getI dX11_must_15 fl_X11_245 (ob_1 hn) rfl ?_
    refine e_iconst dX11_must_18 ci_3 ?_
    refine e_icmp_gt (tgt := 34) dX11_must_19 (by decide) (fun c2 => ?_) (fun c2 => ?_)
    · replace h := h.1 c2
      refine e_iconst dX11_must_34 ci_m1 ?_
      exact e_iret dX11_must_35 rfl ⟨_, rfl, h⟩
    · replace h := h.2 c2
      refine e_iload_n dX11_must_22 rfl rfl ?_
      refine e_iconst dX11_must_23 ci_1 ?_
      refine e_icmp_lt (tgt := 34) dX11_must_24 (by decide) (fun c3 => ?_) (fun c3 => ?_)
      · replace h := h.1 c3
        refine e_iconst dX11_must_34 ci_m1 ?_
        exact e_iret dX11_must_35 rfl ⟨_, rfl, h⟩
      · replace h := h.2 c3
        refine e_iload_n dX11_must_27 rfl rfl ?_
        refine e_sipush dX11_must_28 cs_250 ?_
        refine e_icmp_le (tgt := 36) dX11_must_31 (by decide) (fun c4 => ?_) (fun c4 => ?_)
        · replace h := h.1 c4
          refine e_aload_n dX11_must_36 rfl rfl ?_
          refine e_getR (y := 3) dX11_must_37 fl_X11_30 (ob_0 hn) rfl rfl ?_
          obtain ⟨Q5, hc6, h⟩ := h
          refine e_callV (M' := M_X1_freshenAll) (as := []) (rest := []) dX11_must_40 ml_X11_217 mk_X1_freshenAll (ob_3 hn) rfl rfl rfl (Nat.le_of_ble_eq_true rfl) (show 0 < d by omega) hc6 (Md_le (b := md_X11_must) (by decide)) (fun v σ7 hq hf => ?_)
          obtain ⟨rfl, hq⟩ := hq
          replace h := h σ7 hq hf
          refine e_aload_n dX11_must_43 rfl rfl ?_
          refine e_getR (y := 7) dX11_must_44 fl_X11_64 (ob_0 hn) rfl rfl ?_
          refine e_iload_n dX11_must_47 rfl rfl ?_
          obtain ⟨Q11, hc12, h⟩ := h
          refine e_callV (M' := M_X8_leastSquare) (as := [.int a1]) (rest := []) dX11_must_48 ml_X11_246 mk_X8_leastSquare (ob_7 hn) rfl rfl rfl (Nat.le_of_ble_eq_true rfl) (show 0 < d by omega) hc12 (Md_le (b := md_X11_must) (by decide)) (fun v σ13 hq hf => ?_)
          obtain ⟨v14, rfl, hq⟩ := hq
          replace h := h v14 σ13 hq hf
          exact e_iret dX11_must_51 rfl ⟨_, rfl, h⟩
        · replace h := h.2 c4
          refine e_iconst dX11_must_34 ci_m1 ?_
          exact e_iret dX11_must_35 rfl ⟨_, rfl, h⟩
theorem S_X11_why {d n : Nat} {Q : Int32 → St → Prop} {σ : St} {a1 : Int32} {a2 : Int32} {a3 : Int32} (hn : FIX ≤ n) (hd : 1 ≤ d) (h : (((fn_X1_isPerson σ a1) = 0 → Q (-1) σ) ∧ (¬ (fn_X1_isPerson σ a1) = 0 → (((fn_X6_isLesson σ a2) = 0 → Q (-1) σ) ∧ (¬ (fn_X6_isLesson σ a2) = 0 → ((a3 < 0 → Q (-1) σ) ∧ (¬ a3 < 0 → ((a3 ≤ 1 → ∃ Q5 : Nat → St → Prop, Cn (d - 1) n M_X1_freshened md_X1_freshened [.ref 3, .int a1] σ (liR Q5) ∧ ∀ (v8 : Nat) (σ7 : St), Q5 v8 σ7 → Fr md_X1_freshened σ σ7 → IsP n v8 ∧ ∃ Q11 : St → Prop, Cn (d - 1) n M_X4_mark md_X4_mark [.ref 6, .ref 24] σ7 (liV Q11) ∧ ∀ (σ13 : St), Q11 σ13 → Fr md_X4_mark σ7 σ13 → ∃ Q17 : Int32 → St → Prop, Cn (d - 1) n M_X4_leastBetter md_X4_leastBetter [.ref 6, .ref v8, .int ((1 : Int32) <<< (a2 &&& 31))] σ13 (liI Q17) ∧ ∀ (v20 : Int32) (σ19 : St), Q17 v20 σ19 → Fr md_X4_leastBetter σ13 σ19 → ∃ Q23 : Int32 → St → Prop, Cn (d - 1) n M_X4_pick md_X4_pick [.ref 6, .ref v8, .int 0] σ19 (liI Q23) ∧ ∀ (v26 : Int32) (σ25 : St), Q23 v26 σ25 → Fr md_X4_pick σ19 σ25 → pre_X5_bundleAt σ25 v8 v26 ∧ ((a3 ≠ 1 → (((fn_X11_contains (fn_X5_bundleAt σ25 v8 v26) a2) = 0 → ∃ Q31 : Int32 → St → Prop, Cn (d - 1) n M_X5_hasLawfulWith md_X5_hasLawfulWith [.ref v8, .int ((1 : Int32) <<< (a2 &&& 31))] σ25 (liI Q31) ∧ ∀ (v34 : Int32) (σ33 : St), Q31 v34 σ33 → Fr md_X5_hasLawfulWith σ25 σ33 → ((v34 ≠ 0 → ((v20 ≠ (-1) → Q 3 σ33) ∧ (v20 = (-1) → Q 2 σ33))) ∧ (v34 = 0 → Q 1 σ33))) ∧ (¬ (fn_X11_contains (fn_X5_bundleAt σ25 v8 v26) a2) = 0 → Q 0 σ25))) ∧ (a3 = 1 → (((fn_X11_contains (fn_X5_bundleAt σ25 v8 v26) a2) ≠ 0 → Q (-1) σ25) ∧ ((fn_X11_contains (fn_X5_bundleAt σ25 v8 v26) a2) = 0 → ((v20 ≠ (-1) → Q (v20 - (gI σ25 v8 0)) σ25) ∧ (v20 = (-1) → Q (-1) σ25))))))) ∧ (¬ a3 ≤ 1 → Q (-1) σ))))))))) : Cn d n M_X11_why md_X11_why [.ref 0, .int a1, .int a2, .int a3] σ (liI Q) := by
  refine Cn.of (k0 := 3) (by decide) rfl ?_
  show Ev (d, n, md_X11_why, σ, liI Q) M_X11_why 0 [some (.ref 0), some (.int a1), some (.int a2), some (.int a3), none, none, none] [] σ
  refine e_aload_n dX11_why_0 rfl rfl ?_
  refine e_getR (y := 3) dX11_why_1 fl_X11_30 (ob_0 hn) rfl rfl ?_
  refine e_iload_n dX11_why_4 rfl rfl ?_
  refine e_callV (M' := M_X1_isPerson) (as := [.int a1]) (rest := []) dX11_why_5 ml_X11_137 mk_X1_isPerson (ob_3 hn) rfl rfl rfl (Nat.le_of_ble_eq_true rfl) (show 0 < d by omega) (sp_X1_isPerson hn) Md_nil (fun v σv hq hf => ?_)
  obtain ⟨v, rfl, rfl, rfl⟩ := hq
  refine e_if_eq (tgt := 31) dX11_why_8 (by decide) (fun c1 => ?_) (fun c1 => ?_)
  · replace h := h.1 c1
    refine e_iconst dX11_why_31 ci_m1 ?_
    exact e_iret dX11_why_32 rfl ⟨_, rfl, h⟩
  · replace h := h.2 c1
    refine e_aload_n dX11_why_11 rfl rfl ?_
    refine e_getR (y := 1) dX11_why_12 fl_X11_10 (ob_0 hn) rfl rfl ?_
    refine e_iload_n dX11_why_15 rfl rfl ?_
    refine e_callV (M' := M_X6_isLesson) (as := [.int a2]) (rest := []) dX11_why_16 ml_X11_113 mk_X6_isLesson (ob_1 hn) rfl rfl rfl (Nat.le_of_ble_eq_true rfl) (show 0 < d by omega) (sp_X6_isLesson hn) Md_nil (fun v σv hq hf => ?_)
    obtain ⟨v, rfl, rfl, rfl⟩ := hq
    refine e_if_eq (tgt := 31) dX11_why_19 (by decide) (fun c2 => ?_) (fun c2 => ?_)
    · replace h := h.1 c2
      refine e_iconst dX11_why_31 ci_m1 ?_
      exact e_iret dX11_why_32 rfl ⟨_, rfl, h⟩
    · replace h := h.2 c2
      refine e_iload_n dX11_why_22 rfl rfl ?_
      refine e_if_lt (tgt := 31) dX11_why_23 (by decide) (fun c3 => ?_) (fun c3 => ?_)
      · replace h := h.1 c3
        refine e_iconst dX11_why_31 ci_m1 ?_
        exact e_iret dX11_why_32 rfl ⟨_, rfl, h⟩
      · replace h := h.2 c3
        refine e_iload_n dX11_why_26 rfl rfl ?_
        refine e_iconst dX11_why_27 ci_1 ?_
        refine e_icmp_le (tgt := 33) dX11_why_28 (by decide) (fun c4 => ?_) (fun c4 => ?_)
        · replace h := h.1 c4
          refine e_aload_n dX11_why_33 rfl rfl ?_
          refine e_getR (y := 3) dX11_why_34 fl_X11_30 (ob_0 hn) rfl rfl ?_
          refine e_iload_n dX11_why_37 rfl rfl ?_
          obtain ⟨Q5, hc6, h⟩ := h
          refine e_callV (M' := M_X1_freshened) (as := [.int a1]) (rest := []) dX11_why_38 ml_X11_193 mk_X1_freshened (ob_3 hn) rfl rfl rfl (Nat.le_of_ble_eq_true rfl) (show 0 < d by omega) hc6 (Md_le (b := md_X11_why) (by decide)) (fun v σ7 hq hf => ?_)
          obtain ⟨v8, rfl, hq⟩ := hq
          obtain ⟨hp_v8, h⟩ := h v8 σ7 hq hf
          refine e_astore dX11_why_41 rfl (by decide) ?_
          refine e_aload_n dX11_why_43 rfl rfl ?_
          refine e_getR (y := 6) dX11_why_44 fl_X11_55 (ob_0 hn) rfl rfl ?_
          refine e_aload_n dX11_why_47 rfl rfl ?_
          refine e_getR (y := 6) dX11_why_48 fl_X11_55 (ob_0 hn) rfl rfl ?_
          refine e_getR (y := 24) dX11_why_51 fl_X11_187 (ob_6 hn) rfl rfl ?_
          obtain ⟨Q11, hc12, h⟩ := h
          refine e_callV (M' := M_X4_mark) (as := [.ref 24]) (rest := []) dX11_why_54 ml_X11_197 mk_X4_mark (ob_6 hn) rfl rfl rfl (Nat.le_of_ble_eq_true rfl) (show 0 < d by omega) hc12 (Md_le (b := md_X11_why) (by decide)) (fun v σ13 hq hf => ?_)
          obtain ⟨rfl, hq⟩ := hq
          replace h := h σ13 hq hf
          refine e_aload_n dX11_why_57 rfl rfl ?_
          refine e_getR (y := 6) dX11_why_58 fl_X11_55 (ob_0 hn) rfl rfl ?_
          refine e_aload dX11_why_61 rfl ?_
          refine e_iconst dX11_why_63 ci_1 ?_
          refine e_iload_n dX11_why_64 rfl rfl ?_
          refine e_ishl dX11_why_65 ?_
          obtain ⟨Q17, hc18, h⟩ := h
          refine e_callV (M' := M_X4_leastBetter) (as := [.ref v8, .int ((1 : Int32) <<< (a2 &&& 31))]) (rest := []) dX11_why_66 ml_X11_214 mk_X4_leastBetter (ob_6 hn) rfl rfl rfl (Nat.le_of_ble_eq_true rfl) (show 0 < d by omega) hc18 (Md_le (b := md_X11_why) (by decide)) (fun v σ19 hq hf => ?_)
          obtain ⟨v20, rfl, hq⟩ := hq
          replace h := h v20 σ19 hq hf
          refine e_istore dX11_why_69 rfl (by decide) ?_
          refine e_aload dX11_why_71 rfl ?_
          refine e_aload_n dX11_why_73 rfl rfl ?_
          refine e_getR (y := 6) dX11_why_74 fl_X11_55 (ob_0 hn) rfl rfl ?_
          refine e_aload dX11_why_77 rfl ?_
          refine e_iconst dX11_why_79 ci_0 ?_
          obtain ⟨Q23, hc24, h⟩ := h
          refine e_callV (M' := M_X4_pick) (as := [.ref v8, .int 0]) (rest := [.ref v8]) dX11_why_80 ml_X11_201 mk_X4_pick (ob_6 hn) rfl rfl rfl (Nat.le_of_ble_eq_true rfl) (show 0 < d by omega) hc24 (Md_le (b := md_X11_why) (by decide)) (fun v σ25 hq hf => ?_)
          obtain ⟨v26, rfl, hq⟩ := hq
          replace h := h v26 σ25 hq hf
          refine e_callV (M' := M_X5_bundleAt) (as := [.int v26]) (rest := []) dX11_why_83 ml_X11_205 mk_X5_bundleAt (Ob.p hp_v8) rfl rfl rfl (Nat.le_of_ble_eq_true rfl) (show 0 < d by omega) (sp_X5_bundleAt hp_v8 h.1) Md_nil (fun v σv hq hf => ?_)
          obtain ⟨v, rfl, rfl, rfl⟩ := hq
          replace h := h.2
          refine e_iload_n dX11_why_86 rfl rfl ?_
          refine e_callS (M' := M_X11_contains) (as := [.int (fn_X5_bundleAt σ25 v8 v26), .int a2]) (rest := []) dX11_why_87 ml_X11_249 mk_X11_contains rfl (Nat.le_of_ble_eq_true rfl) (show 0 < d by omega) (sp_X11_contains) Md_nil (fun v σv hq hf => ?_)
          obtain ⟨v, rfl, rfl, rfl⟩ := hq
          refine e_istore dX11_why_90 rfl (by decide) ?_
          refine e_iload_n dX11_why_92 rfl rfl ?_
          refine e_iconst dX11_why_93 ci_1 ?_
          refine e_icmp_ne (tgt := 121) dX11_why_94 (by decide) (fun c29 => ?_) (fun c29 => ?_)
          · replace h := h.1 c29
            refine e_iload dX11_why_121 rfl ?_
            refine e_if_eq (tgt := 128) dX11_why_123 (by decide) (fun c30 => ?_) (fun c30 => ?_)
            · replace h := h.1 c30
              refine e_aload dX11_why_128 rfl ?_
              refine e_iconst dX11_why_130 ci_1 ?_
              refine e_iload_n dX11_why_131 rfl rfl ?_
              refine e_ishl dX11_why_132 ?_
              obtain ⟨Q31, hc32, h⟩ := h
              refine e_callV (M' := M_X5_hasLawfulWith) (as := [.int ((1 : Int32) <<< (a2 &&& 31))]) (rest := []) dX11_why_133 ml_X11_253 mk_X5_hasLawfulWith (Ob.p hp_v8) rfl rfl rfl (Nat.le_of_ble_eq_true rfl) (show 0 < d by omega) hc32 (Md_le (b := md_X11_why) (by decide)) (fun v σ33 hq hf => ?_)
              obtain ⟨v34, rfl, hq⟩ := hq
              replace h := h v34 σ33 hq hf
              refine e_if_ne (tgt := 141) dX11_why_136 (by decide) (fun c37 => ?_) (fun c37 => ?_)
              · replace h := h.1 c37
                refine e_iload dX11_why_141 rfl ?_
                refine e_iconst dX11_why_143 ci_m1 ?_
                refine e_icmp_ne (tgt := 151) dX11_why_144 (by decide) (fun c38 => ?_) (fun c38 => ?_)
                · replace h := h.1 c38
                  refine e_iconst dX11_why_151 ci_3 ?_
                  exact e_iret dX11_why_152 rfl ⟨_, rfl, h⟩
                · replace h := h.2 c38
                  refine e_iconst dX11_why_147 ci_2 ?_
                  refine e_goto (tgt := 152) dX11_why_148 (by decide) ?_
                  exact e_iret dX11_why_152 rfl ⟨_, rfl, h⟩
              · replace h := h.2 c37
                refine e_iconst dX11_why_139 ci_1 ?_
                exact e_iret dX11_why_140 rfl ⟨_, rfl, h⟩
            · replace h := h.2 c30
              refine e_iconst dX11_why_126 ci_0 ?_
              exact e_iret dX11_why_127 rfl ⟨_, rfl, h⟩
          · replace h := h.2 c29
            refine e_iload dX11_why_97 rfl ?_
            refine e_if_ne (tgt := 108) dX11_why_99 (by decide) (fun c39 => ?_) (fun c39 => ?_)
            · replace h := h.1 c39
              refine e_iconst dX11_why_108 ci_m1 ?_
              refine e_goto (tgt := 120) dX11_why_109 (by decide) ?_
              exact e_iret dX11_why_120 rfl ⟨_, rfl, h⟩
            · replace h := h.2 c39
              refine e_iload dX11_why_102 rfl ?_
              refine e_iconst dX11_why_104 ci_m1 ?_
              refine e_icmp_ne (tgt := 112) dX11_why_105 (by decide) (fun c40 => ?_) (fun c40 => ?_)
              · replace h := h.1 c40
                refine e_iload dX11_why_112 rfl ?_
                refine e_aload dX11_why_114 rfl ?_
                refine e_getI dX11_why_116 fl_X11_144 (Ob.p hp_v8) rfl ?_
                refine e_isub dX11_why_119 ?_
                exact e_iret dX11_why_120 rfl ⟨_, rfl, h⟩
              · replace h := h.2 c40
                refine e_iconst dX11_why_108 ci_m1 ?_
                refine e_goto (tgt := 120) dX11_why_109 (by decide) ?_
                exact e_iret dX11_why_120 rfl ⟨_, rfl, h⟩
        · replace h := h.2 c4
          refine e_iconst dX11_why_31 ci_m1 ?_
          exact e_iret dX11_why_32 rfl ⟨_, rfl, h⟩
theorem S_X11_give {d n : Nat} {Q : Int32 → St → Prop} {σ : St} {a1 : Int32} {a2 : Int32} (hn : FIX ≤ n) (hd : 1 ≤ d) (h : (((fn_X1_isPerson σ a1) = 0 → Q 0 σ) ∧ (¬ (fn_X1_isPerson σ a1) = 0 → (((fn_X11_isBundle a2) = 0 → Q 0 σ) ∧ (¬ (fn_X11_isBundle a2) = 0 → (((a2 >>> ((gI σ 1 0) &&& 31)) = 0 → vp_in a1 8 ∧ ∃ pp4, gR σ a1.toNatClampNeg = some pp4 ∧ IsP n pp4 ∧ Q 1 (sI σ pp4 2 a2)) ∧ (¬ (a2 >>> ((gI σ 1 0) &&& 31)) = 0 → Q 0 σ))))))) : Cn d n M_X11_give md_X11_give [.ref 0, .int a1, .int a2] σ (liI Q) := by
  refine Cn.of (k0 := 0) (by decide) rfl ?_
  show Ev (d, n, md_X11_give, σ, liI Q) M_X11_give 0 [some (.ref 0), some (.int a1), some (.int a2)] [] σ
  refine e_aload_n dX11_give_0 rfl rfl ?_
  refine e_getR (y := 3) dX11_give_1 fl_X11_30 (ob_0 hn) rfl rfl ?_
  refine e_iload_n dX11_give_4 rfl rfl ?_
  refine e_callV (M' := M_X1_isPerson) (as := [.int a1]) (rest := []) dX11_give_5 ml_X11_137 mk_X1_isPerson (ob_3 hn) rfl rfl rfl (Nat.le_of_ble_eq_true rfl) (show 0 < d by omega) (sp_X1_isPerson hn) Md_nil (fun v σv hq hf => ?_)
  obtain ⟨v, rfl, rfl, rfl⟩ := hq
  refine e_if_eq (tgt := 30) dX11_give_8 (by decide) (fun c1 => ?_) (fun c1 => ?_)
  · replace h := h.1 c1
    refine e_iconst dX11_give_30 ci_0 ?_
    exact e_zret dX11_give_31 rfl (nar_z (Or.inl rfl)) ⟨_, rfl, h⟩
  · replace h := h.2 c1
    refine e_iload_n dX11_give_11 rfl rfl ?_
    refine e_callS (M' := M_X11_isBundle) (as := [.int a2]) (rest := []) dX11_give_12 ml_X11_131 mk_X11_isBundle rfl (Nat.le_of_ble_eq_true rfl) (show 0 < d by omega) (sp_X11_isBundle) Md_nil (fun v σv hq hf => ?_)
    obtain ⟨v, rfl, rfl, rfl⟩ := hq
    refine e_if_eq (tgt := 30) dX11_give_15 (by decide) (fun c2 => ?_) (fun c2 => ?_)
    · replace h := h.1 c2
      refine e_iconst dX11_give_30 ci_0 ?_
      exact e_zret dX11_give_31 rfl (nar_z (Or.inl rfl)) ⟨_, rfl, h⟩
    · replace h := h.2 c2
      refine e_iload_n dX11_give_18 rfl rfl ?_
      refine e_aload_n dX11_give_19 rfl rfl ?_
      refine e_getR (y := 1) dX11_give_20 fl_X11_10 (ob_0 hn) rfl rfl ?_
      refine e_getI dX11_give_23 fl_X11_245 (ob_1 hn) rfl ?_
      refine e_ishr dX11_give_26 ?_
      refine e_if_eq (tgt := 32) dX11_give_27 (by decide) (fun c3 => ?_) (fun c3 => ?_)
      · replace h := h.1 c3
        refine e_aload_n dX11_give_32 rfl rfl ?_
        refine e_getR (y := 3) dX11_give_33 fl_X11_30 (ob_0 hn) rfl rfl ?_
        refine e_getR (y := 18) dX11_give_36 fl_X11_140 (ob_3 hn) rfl rfl ?_
        refine e_iload_n dX11_give_39 rfl rfl ?_
        obtain ⟨hi, pp4, hg, hp_pp4, h⟩ := h
        refine e_aldP dX11_give_40 hn hi hg ?_
        refine e_iload_n dX11_give_41 rfl rfl ?_
        refine e_putI dX11_give_42 fl_X11_256 (Ob.p hp_pp4) rfl (fpI_5_2 _) (md_ac (m := md_X11_give) hp_pp4 (by decide)) ?_
        refine e_iconst dX11_give_45 ci_1 ?_
        exact e_zret dX11_give_46 rfl (nar_z (Or.inr rfl)) ⟨_, rfl, h⟩
      · replace h := h.2 c3
        refine e_iconst dX11_give_30 ci_0 ?_
        exact e_zret dX11_give_31 rfl (nar_z (Or.inl rfl)) ⟨_, rfl, h⟩
theorem S_X11_has {d n : Nat} {Q : Int32 → St → Prop} {σ : St} {a1 : Int32} {a2 : Int32} (hn : FIX ≤ n) (hd : 1 ≤ d) (h : (((fn_X11_isWay a1) = 0 → Q (-1) σ) ∧ (¬ (fn_X11_isWay a1) = 0 → (((fn_X1_isPerson σ a2) ≠ 0 → ∃ Q3 : St → Prop, Cn (d - 1) n M_X10_run md_X10_run [.ref 8, .int a1] σ (liV Q3) ∧ ∀ (σ5 : St), Q3 σ5 → Fr md_X10_run σ σ5 → vp_in a2 8 ∧ Q (gI σ5 34 a2.toNatClampNeg) σ5) ∧ ((fn_X1_isPerson σ a2) = 0 → Q (-1) σ))))) : Cn d n M_X11_has md_X11_has [.ref 0, .int a1, .int a2] σ (liI Q) := by
  refine Cn.of (k0 := 0) (by decide) rfl ?_
  show Ev (d, n, md_X11_has, σ, liI Q) M_X11_has 0 [some (.ref 0), some (.int a1), some (.int a2)] [] σ
  refine e_iload_n dX11_has_0 rfl rfl ?_
  refine e_callS (M' := M_X11_isWay) (as := [.int a1]) (rest := []) dX11_has_1 ml_X11_259 mk_X11_isWay rfl (Nat.le_of_ble_eq_true rfl) (show 0 < d by omega) (sp_X11_isWay) Md_nil (fun v σv hq hf => ?_)
  obtain ⟨v, rfl, rfl, rfl⟩ := hq
  refine e_if_eq (tgt := 18) dX11_has_4 (by decide) (fun c1 => ?_) (fun c1 => ?_)
  · replace h := h.1 c1
    refine e_iconst dX11_has_18 ci_m1 ?_
    exact e_iret dX11_has_19 rfl ⟨_, rfl, h⟩
  · replace h := h.2 c1
    refine e_aload_n dX11_has_7 rfl rfl ?_
    refine e_getR (y := 3) dX11_has_8 fl_X11_30 (ob_0 hn) rfl rfl ?_
    refine e_iload_n dX11_has_11 rfl rfl ?_
    refine e_callV (M' := M_X1_isPerson) (as := [.int a2]) (rest := []) dX11_has_12 ml_X11_137 mk_X1_isPerson (ob_3 hn) rfl rfl rfl (Nat.le_of_ble_eq_true rfl) (show 0 < d by omega) (sp_X1_isPerson hn) Md_nil (fun v σv hq hf => ?_)
    obtain ⟨v, rfl, rfl, rfl⟩ := hq
    refine e_if_ne (tgt := 20) dX11_has_15 (by decide) (fun c2 => ?_) (fun c2 => ?_)
    · replace h := h.1 c2
      refine e_aload_n dX11_has_20 rfl rfl ?_
      refine e_getR (y := 8) dX11_has_21 fl_X11_73 (ob_0 hn) rfl rfl ?_
      refine e_iload_n dX11_has_24 rfl rfl ?_
      obtain ⟨Q3, hc4, h⟩ := h
      refine e_callV (M' := M_X10_run) (as := [.int a1]) (rest := []) dX11_has_25 ml_X11_262 mk_X10_run (ob_8 hn) rfl rfl rfl (Nat.le_of_ble_eq_true rfl) (show 0 < d by omega) hc4 (Md_le (b := md_X11_has) (by decide)) (fun v σ5 hq hf => ?_)
      obtain ⟨rfl, hq⟩ := hq
      replace h := h σ5 hq hf
      refine e_aload_n dX11_has_28 rfl rfl ?_
      refine e_getR (y := 8) dX11_has_29 fl_X11_73 (ob_0 hn) rfl rfl ?_
      refine e_getR (y := 34) dX11_has_32 fl_X11_263 (ob_8 hn) rfl rfl ?_
      refine e_iload_n dX11_has_35 rfl rfl ?_
      refine e_iald dX11_has_36 (ar_34 hn) h.1 ?_
      replace h := h.2
      exact e_iret dX11_has_37 rfl ⟨_, rfl, h⟩
    · replace h := h.2 c2
      refine e_iconst dX11_has_18 ci_m1 ?_
      exact e_iret dX11_has_19 rfl ⟨_, rfl, h⟩
theorem S_X11_left {d n : Nat} {Q : Int32 → St → Prop} {σ : St} {a1 : Int32} {a2 : Int32} (hn : FIX ≤ n) (hd : 1 ≤ d) (h : (((fn_X11_isWay a1) = 0 → Q (-100) σ) ∧ (¬ (fn_X11_isWay a1) = 0 → (((fn_X6_isLesson σ a2) ≠ 0 → ∃ Q3 : St → Prop, Cn (d - 1) n M_X10_run md_X10_run [.ref 8, .int a1] σ (liV Q3) ∧ ∀ (σ5 : St), Q3 σ5 → Fr md_X10_run σ σ5 → vp_in a2 10 ∧ Q (gI σ5 35 a2.toNatClampNeg) σ5) ∧ ((fn_X6_isLesson σ a2) = 0 → Q (-100) σ))))) : Cn d n M_X11_left md_X11_left [.ref 0, .int a1, .int a2] σ (liI Q) := by
  refine Cn.of (k0 := 0) (by decide) rfl ?_
  show Ev (d, n, md_X11_left, σ, liI Q) M_X11_left 0 [some (.ref 0), some (.int a1), some (.int a2)] [] σ
  refine e_iload_n dX11_left_0 rfl rfl ?_
  refine e_callS (M' := M_X11_isWay) (as := [.int a1]) (rest := []) dX11_left_1 ml_X11_259 mk_X11_isWay rfl (Nat.le_of_ble_eq_true rfl) (show 0 < d by omega) (sp_X11_isWay) Md_nil (fun v σv hq hf => ?_)
  obtain ⟨v, rfl, rfl, rfl⟩ := hq
  refine e_if_eq (tgt := 18) dX11_left_4 (by decide) (fun c1 => ?_) (fun c1 => ?_)
  · replace h := h.1 c1
    refine e_bipush dX11_left_18 cb_m100 ?_
    exact e_iret dX11_left_20 rfl ⟨_, rfl, h⟩
  · replace h := h.2 c1
    refine e_aload_n dX11_left_7 rfl rfl ?_
    refine e_getR (y := 1) dX11_left_8 fl_X11_10 (ob_0 hn) rfl rfl ?_
    refine e_iload_n dX11_left_11 rfl rfl ?_
    refine e_callV (M' := M_X6_isLesson) (as := [.int a2]) (rest := []) dX11_left_12 ml_X11_113 mk_X6_isLesson (ob_1 hn) rfl rfl rfl (Nat.le_of_ble_eq_true rfl) (show 0 < d by omega) (sp_X6_isLesson hn) Md_nil (fun v σv hq hf => ?_)
    obtain ⟨v, rfl, rfl, rfl⟩ := hq
    refine e_if_ne (tgt := 21) dX11_left_15 (by decide) (fun c2 => ?_) (fun c2 => ?_)
    · replace h := h.1 c2
      refine e_aload_n dX11_left_21 rfl rfl ?_
      refine e_getR (y := 8) dX11_left_22 fl_X11_73 (ob_0 hn) rfl rfl ?_
      refine e_iload_n dX11_left_25 rfl rfl ?_
      obtain ⟨Q3, hc4, h⟩ := h
      refine e_callV (M' := M_X10_run) (as := [.int a1]) (rest := []) dX11_left_26 ml_X11_262 mk_X10_run (ob_8 hn) rfl rfl rfl (Nat.le_of_ble_eq_true rfl) (show 0 < d by omega) hc4 (Md_le (b := md_X11_left) (by decide)) (fun v σ5 hq hf => ?_)
      obtain ⟨rfl, hq⟩ := hq
      replace h := h σ5 hq hf
      refine e_aload_n dX11_left_29 rfl rfl ?_
      refine e_getR (y := 8) dX11_left_30 fl_X11_73 (ob_0 hn) rfl rfl ?_
      refine e_getR (y := 35) dX11_left_33 fl_X11_266 (ob_8 hn) rfl rfl ?_
      refine e_iload_n dX11_left_36 rfl rfl ?_
      refine e_iald dX11_left_37 (ar_35 hn) h.1 ?_
      replace h := h.2
      exact e_iret dX11_left_38 rfl ⟨_, rfl, h⟩
    · replace h := h.2 c2
      refine e_bipush dX11_left_18 cb_m100 ?_
      exact e_iret dX11_left_20 rfl ⟨_, rfl, h⟩
abbrev K_X11_sum_23 (d n : Nat) (σ0 : St) (Q : Int32 → St → Prop) (σ : St) (x2 : Int32) (x3 : Int32) : Prop := Ev (d, n, md_X11_sum, σ0, liI Q) M_X11_sum 23 [some (.ref 0), none, some (.int x2), some (.int x3)] [] σ
theorem B_X11_sum_23 {d n : Nat} {σ0 : St} {Q : Int32 → St → Prop}  {σ : St} {x2 : Int32} {x3 : Int32} (hn : FIX ≤ n) (hd : 1 ≤ d) (h : (((gI σ 3 2) ≤ x3 → Q x2 σ) ∧ (¬ (gI σ 3 2) ≤ x3 → vp_in x3 8 ∧ ∃ pp2, gR σ x3.toNatClampNeg = some pp2 ∧ IsP n pp2 ∧ vp_in x3 8 ∧ vp_in (gI σ 34 x3.toNatClampNeg) 1024 ∧ K_X11_sum_23 d n σ0 Q σ (x2 + (gI σ (pp2 + 2) (gI σ 34 x3.toNatClampNeg).toNatClampNeg)) (x3 + 1)))) : K_X11_sum_23 d n σ0 Q σ x2 x3 := by
  refine e_iload_n dX11_sum_23 rfl rfl ?_
  refine e_aload_n dX11_sum_24 rfl rfl ?_
  refine e_getR (y := 3) dX11_sum_25 fl_X11_30 (ob_0 hn) rfl rfl ?_
  refine e_getI dX11_sum_28 fl_X11_270 (ob_3 hn) rfl ?_
  refine e_icmp_ge (tgt := 65) dX11_sum_31 (by decide) (fun c1 => ?_) (fun c1 => ?_)
  · replace h := h.1 c1
    refine e_iload_n dX11_sum_65 rfl rfl ?_
    exact e_iret dX11_sum_66 rfl ⟨_, rfl, h⟩
  · replace h := h.2 c1
    refine e_iload_n dX11_sum_34 rfl rfl ?_
    refine e_aload_n dX11_sum_35 rfl rfl ?_
    refine e_getR (y := 3) dX11_sum_36 fl_X11_30 (ob_0 hn) rfl rfl ?_
    refine e_getR (y := 18) dX11_sum_39 fl_X11_140 (ob_3 hn) rfl rfl ?_
    refine e_iload_n dX11_sum_42 rfl rfl ?_
    obtain ⟨hi, pp2, hg, hp_pp2, h⟩ := h
    refine e_aldP dX11_sum_43 hn hi hg ?_
    refine e_getR (y := pp2 + 2) dX11_sum_44 fl_X11_271 (Ob.p hp_pp2) rfl (rf_p hp_pp2 (by decide)) ?_
    refine e_aload_n dX11_sum_47 rfl rfl ?_
    refine e_getR (y := 8) dX11_sum_48 fl_X11_73 (ob_0 hn) rfl rfl ?_
    refine e_getR (y := 34) dX11_sum_51 fl_X11_263 (ob_8 hn) rfl rfl ?_
    refine e_iload_n dX11_sum_54 rfl rfl ?_
    refine e_iald dX11_sum_55 (ar_34 hn) h.1 ?_
    replace h := h.2
    refine e_iald dX11_sum_56 (Ar.p2 hp_pp2) h.1 ?_
    replace h := h.2
    refine e_iadd dX11_sum_57 ?_
    refine e_istore_n dX11_sum_58 rfl rfl (by decide) ?_
    refine e_iinc dX11_sum_59 rfl (ii_1 _) rfl (by decide) ?_
    refine e_goto (tgt := 23) dX11_sum_62 (by decide) ?_
    exact h
theorem S_X11_sum {d n : Nat} {Q : Int32 → St → Prop} {σ : St} {a1 : Int32} (hn : FIX ≤ n) (hd : 1 ≤ d) (h : (((fn_X11_isWay a1) ≠ 0 → ∃ Q2 : St → Prop, Cn (d - 1) n M_X10_run md_X10_run [.ref 8, .int a1] σ (liV Q2) ∧ ∀ (σ4 : St), Q2 σ4 → Fr md_X10_run σ σ4 → K_X11_sum_23 d n σ Q σ4 0 0) ∧ ((fn_X11_isWay a1) = 0 → Q (-2000000000) σ))) : Cn d n M_X11_sum md_X11_sum [.ref 0, .int a1] σ (liI Q) := by
  refine Cn.of (k0 := 2) (by decide) rfl ?_
  show Ev (d, n, md_X11_sum, σ, liI Q) M_X11_sum 0 [some (.ref 0), some (.int a1), none, none] [] σ
  refine e_iload_n dX11_sum_0 rfl rfl ?_
  refine e_callS (M' := M_X11_isWay) (as := [.int a1]) (rest := []) dX11_sum_1 ml_X11_259 mk_X11_isWay rfl (Nat.le_of_ble_eq_true rfl) (show 0 < d by omega) (sp_X11_isWay) Md_nil (fun v σv hq hf => ?_)
  obtain ⟨v, rfl, rfl, rfl⟩ := hq
  refine e_if_ne (tgt := 11) dX11_sum_4 (by decide) (fun c1 => ?_) (fun c1 => ?_)
  · replace h := h.1 c1
    refine e_aload_n dX11_sum_11 rfl rfl ?_
    refine e_getR (y := 8) dX11_sum_12 fl_X11_73 (ob_0 hn) rfl rfl ?_
    refine e_iload_n dX11_sum_15 rfl rfl ?_
    obtain ⟨Q2, hc3, h⟩ := h
    refine e_callV (M' := M_X10_run) (as := [.int a1]) (rest := []) dX11_sum_16 ml_X11_262 mk_X10_run (ob_8 hn) rfl rfl rfl (Nat.le_of_ble_eq_true rfl) (show 0 < d by omega) hc3 (Md_le (b := md_X11_sum) (by decide)) (fun v σ4 hq hf => ?_)
    obtain ⟨rfl, hq⟩ := hq
    replace h := h σ4 hq hf
    refine e_iconst dX11_sum_19 ci_0 ?_
    refine e_istore_n dX11_sum_20 rfl rfl (by decide) ?_
    refine e_iconst dX11_sum_21 ci_0 ?_
    refine e_istore_n dX11_sum_22 rfl rfl (by decide) ?_
    refine e_kill [true, false, true, true] ?_
    exact h
  · replace h := h.2 c1
    refine e_ldcw dX11_sum_7 ck_X11_269 ?_
    exact e_iret dX11_sum_10 rfl ⟨_, rfl, h⟩
theorem S_X11_envy {d n : Nat} {Q : Int32 → St → Prop} {σ : St} {a1 : Int32} {a2 : Int32} {a3 : Int32} (hn : FIX ≤ n) (hd : 1 ≤ d) (h : (((fn_X11_isWay a1) = 0 → Q (-1) σ) ∧ (¬ (fn_X11_isWay a1) = 0 → (((fn_X1_isPerson σ a2) = 0 → Q (-1) σ) ∧ (¬ (fn_X1_isPerson σ a2) = 0 → (((fn_X1_isPerson σ a3) = 0 → Q (-1) σ) ∧ (¬ (fn_X1_isPerson σ a3) = 0 → ((a2 ≠ a3 → ∃ Q5 : St → Prop, Cn (d - 1) n M_X10_run md_X10_run [.ref 8, .int a1] σ (liV Q5) ∧ ∀ (σ7 : St), Q5 σ7 → Fr md_X10_run σ σ7 → ∃ Q11 : Int32 → St → Prop, Cn (d - 1) n M_X3_envyOf md_X3_envyOf [.ref 9, .int a2, .int a3] σ7 (liI Q11) ∧ ∀ (v14 : Int32) (σ13 : St), Q11 v14 σ13 → Fr md_X3_envyOf σ7 σ13 → Q v14 σ13) ∧ (a2 = a3 → Q (-1) σ))))))))) : Cn d n M_X11_envy md_X11_envy [.ref 0, .int a1, .int a2, .int a3] σ (liI Q) := by
  refine Cn.of (k0 := 0) (by decide) rfl ?_
  show Ev (d, n, md_X11_envy, σ, liI Q) M_X11_envy 0 [some (.ref 0), some (.int a1), some (.int a2), some (.int a3)] [] σ
  refine e_iload_n dX11_envy_0 rfl rfl ?_
  refine e_callS (M' := M_X11_isWay) (as := [.int a1]) (rest := []) dX11_envy_1 ml_X11_259 mk_X11_isWay rfl (Nat.le_of_ble_eq_true rfl) (show 0 < d by omega) (sp_X11_isWay) Md_nil (fun v σv hq hf => ?_)
  obtain ⟨v, rfl, rfl, rfl⟩ := hq
  refine e_if_eq (tgt := 34) dX11_envy_4 (by decide) (fun c1 => ?_) (fun c1 => ?_)
  · replace h := h.1 c1
    refine e_iconst dX11_envy_34 ci_m1 ?_
    exact e_iret dX11_envy_35 rfl ⟨_, rfl, h⟩
  · replace h := h.2 c1
    refine e_aload_n dX11_envy_7 rfl rfl ?_
    refine e_getR (y := 3) dX11_envy_8 fl_X11_30 (ob_0 hn) rfl rfl ?_
    refine e_iload_n dX11_envy_11 rfl rfl ?_
    refine e_callV (M' := M_X1_isPerson) (as := [.int a2]) (rest := []) dX11_envy_12 ml_X11_137 mk_X1_isPerson (ob_3 hn) rfl rfl rfl (Nat.le_of_ble_eq_true rfl) (show 0 < d by omega) (sp_X1_isPerson hn) Md_nil (fun v σv hq hf => ?_)
    obtain ⟨v, rfl, rfl, rfl⟩ := hq
    refine e_if_eq (tgt := 34) dX11_envy_15 (by decide) (fun c2 => ?_) (fun c2 => ?_)
    · replace h := h.1 c2
      refine e_iconst dX11_envy_34 ci_m1 ?_
      exact e_iret dX11_envy_35 rfl ⟨_, rfl, h⟩
    · replace h := h.2 c2
      refine e_aload_n dX11_envy_18 rfl rfl ?_
      refine e_getR (y := 3) dX11_envy_19 fl_X11_30 (ob_0 hn) rfl rfl ?_
      refine e_iload_n dX11_envy_22 rfl rfl ?_
      refine e_callV (M' := M_X1_isPerson) (as := [.int a3]) (rest := []) dX11_envy_23 ml_X11_137 mk_X1_isPerson (ob_3 hn) rfl rfl rfl (Nat.le_of_ble_eq_true rfl) (show 0 < d by omega) (sp_X1_isPerson hn) Md_nil (fun v σv hq hf => ?_)
      obtain ⟨v, rfl, rfl, rfl⟩ := hq
      refine e_if_eq (tgt := 34) dX11_envy_26 (by decide) (fun c3 => ?_) (fun c3 => ?_)
      · replace h := h.1 c3
        refine e_iconst dX11_envy_34 ci_m1 ?_
        exact e_iret dX11_envy_35 rfl ⟨_, rfl, h⟩
      · replace h := h.2 c3
        refine e_iload_n dX11_envy_29 rfl rfl ?_
        refine e_iload_n dX11_envy_30 rfl rfl ?_
        refine e_icmp_ne (tgt := 36) dX11_envy_31 (by decide) (fun c4 => ?_) (fun c4 => ?_)
        · replace h := h.1 c4
          refine e_aload_n dX11_envy_36 rfl rfl ?_
          refine e_getR (y := 8) dX11_envy_37 fl_X11_73 (ob_0 hn) rfl rfl ?_
          refine e_iload_n dX11_envy_40 rfl rfl ?_
          obtain ⟨Q5, hc6, h⟩ := h
          refine e_callV (M' := M_X10_run) (as := [.int a1]) (rest := []) dX11_envy_41 ml_X11_262 mk_X10_run (ob_8 hn) rfl rfl rfl (Nat.le_of_ble_eq_true rfl) (show 0 < d by omega) hc6 (Md_le (b := md_X11_envy) (by decide)) (fun v σ7 hq hf => ?_)
          obtain ⟨rfl, hq⟩ := hq
          replace h := h σ7 hq hf
          refine e_aload_n dX11_envy_44 rfl rfl ?_
          refine e_getR (y := 9) dX11_envy_45 fl_X11_82 (ob_0 hn) rfl rfl ?_
          refine e_iload_n dX11_envy_48 rfl rfl ?_
          refine e_iload_n dX11_envy_49 rfl rfl ?_
          obtain ⟨Q11, hc12, h⟩ := h
          refine e_callV (M' := M_X3_envyOf) (as := [.int a2, .int a3]) (rest := []) dX11_envy_50 ml_X11_274 mk_X3_envyOf (ob_9 hn) rfl rfl rfl (Nat.le_of_ble_eq_true rfl) (show 0 < d by omega) hc12 (Md_le (b := md_X11_envy) (by decide)) (fun v σ13 hq hf => ?_)
          obtain ⟨v14, rfl, hq⟩ := hq
          replace h := h v14 σ13 hq hf
          exact e_iret dX11_envy_53 rfl ⟨_, rfl, h⟩
        · replace h := h.2 c4
          refine e_iconst dX11_envy_34 ci_m1 ?_
          exact e_iret dX11_envy_35 rfl ⟨_, rfl, h⟩
