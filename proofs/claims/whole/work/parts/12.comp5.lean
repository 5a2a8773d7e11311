abbrev K_X11_envies_32 (d n : Nat) (σ0 : St) (Q : Int32 → St → Prop) (σ : St) (x2 : Int32) (x3 : Int32) (x4 : Int32) : Prop := Ev (d, n, md_X11_envies, σ0, liI Q) M_X11_envies 32 [some (.ref 0), none, some (.int x2), some (.int x3), some (.int x4), none] [] σ
abbrev K_X11_envies_47 (d n : Nat) (σ0 : St) (Q : Int32 → St → Prop) (σ : St) (x2 : Int32) (x3 : Int32) (x4 : Int32) (x5 : Int32) : Prop := Ev (d, n, md_X11_envies, σ0, liI Q) M_X11_envies 47 [some (.ref 0), none, some (.int x2), some (.int x3), some (.int x4), some (.int x5)] [] σ
theorem B_X11_envies_32 {d n : Nat} {σ0 : St} {Q : Int32 → St → Prop}  {σ : St} {x2 : Int32} {x3 : Int32} {x4 : Int32} (hn : FIX ≤ n) (hd : 1 ≤ d) (h : (((gI σ 3 2) ≤ x4 → Q x3 σ) ∧ (¬ (gI σ 3 2) ≤ x4 → K_X11_envies_47 d n σ0 Q σ x2 x3 x4 0))) : K_X11_envies_32 d n σ0 Q σ x2 x3 x4 := by
  refine e_iload dX11_envies_32 rfl ?_
  refine e_aload_n dX11_envies_34 rfl rfl ?_
  refine e_getR (y := 3) dX11_envies_35 fl_X11_30 (ob_0 hn) rfl rfl ?_
  refine e_getI dX11_envies_38 fl_X11_270 (ob_3 hn) rfl ?_
  refine e_icmp_ge (tgt := 96) dX11_envies_41 (by decide) (fun c1 => ?_) (fun c1 => ?_)
  · replace h := h.1 c1
    refine e_iload_n dX11_envies_96 rfl rfl ?_
    exact e_iret dX11_envies_97 rfl ⟨_, rfl, h⟩
  · replace h := h.2 c1
    refine e_iconst dX11_envies_44 ci_0 ?_
    refine e_istore dX11_envies_45 rfl (by decide) ?_
    exact h
theorem B_X11_envies_47 {d n : Nat} {σ0 : St} {Q : Int32 → St → Prop}  {σ : St} {x2 : Int32} {x3 : Int32} {x4 : Int32} {x5 : Int32} (hn : FIX ≤ n) (hd : 1 ≤ d) (h : (((gI σ 3 2) ≤ x5 → K_X11_envies_32 d n σ0 Q σ x2 x3 (x4 + 1)) ∧ (¬ (gI σ 3 2) ≤ x5 → ((x4 = x5 → K_X11_envies_47 d n σ0 Q σ x2 x3 x4 (x5 + 1)) ∧ (¬ x4 = x5 → ∃ Q3 : Int32 → St → Prop, Cn (d - 1) n M_X3_envyOf md_X3_envyOf [.ref 9, .int x4, .int x5] σ (liI Q3) ∧ ∀ (v6 : Int32) (σ5 : St), Q3 v6 σ5 → Fr md_X3_envyOf σ σ5 → ((v6 < x2 → K_X11_envies_47 d n σ0 Q σ5 x2 x3 x4 (x5 + 1)) ∧ (¬ v6 < x2 → K_X11_envies_47 d n σ0 Q σ5 x2 (x3 + 1) x4 (x5 + 1)))))))) : K_X11_envies_47 d n σ0 Q σ x2 x3 x4 x5 := by
  refine e_iload dX11_envies_47 rfl ?_
  refine e_aload_n dX11_envies_49 rfl rfl ?_
  refine e_getR (y := 3) dX11_envies_50 fl_X11_30 (ob_0 hn) rfl rfl ?_
  refine e_getI dX11_envies_53 fl_X11_270 (ob_3 hn) rfl ?_
  refine e_icmp_ge (tgt := 90) dX11_envies_56 (by decide) (fun c1 => ?_) (fun c1 => ?_)
  · replace h := h.1 c1
    refine e_iinc dX11_envies_90 rfl (ii_1 _) rfl (by decide) ?_
    refine e_goto (tgt := 32) dX11_envies_93 (by decide) ?_
    refine e_kill [true, false, true, true, true, false] ?_
    exact h
  · replace h := h.2 c1
    refine e_iload dX11_envies_59 rfl ?_
    refine e_iload dX11_envies_61 rfl ?_
    refine e_icmp_eq (tgt := 84) dX11_envies_63 (by decide) (fun c2 => ?_) (fun c2 => ?_)
    · replace h := h.1 c2
      refine e_iinc dX11_envies_84 rfl (ii_1 _) rfl (by decide) ?_
      refine e_goto (tgt := 47) dX11_envies_87 (by decide) ?_
      exact h
    · replace h := h.2 c2
      refine e_aload_n dX11_envies_66 rfl rfl ?_
      refine e_getR (y := 9) dX11_envies_67 fl_X11_82 (ob_0 hn) rfl rfl ?_
      refine e_iload dX11_envies_70 rfl ?_
      refine e_iload dX11_envies_72 rfl ?_
      obtain ⟨Q3, hc4, h⟩ := h
      refine e_callV (M' := M_X3_envyOf) (as := [.int x4, .int x5]) (rest := []) dX11_envies_74 ml_X11_274 mk_X3_envyOf (ob_9 hn) rfl rfl rfl (Nat.le_of_ble_eq_true rfl) (show 0 < d by omega) hc4 (Md_le (b := md_X11_envies) (by decide)) (fun v σ5 hq hf => ?_)
      obtain ⟨v6, rfl, hq⟩ := hq
      replace h := h v6 σ5 hq hf
      refine e_iload_n dX11_envies_77 rfl rfl ?_
      refine e_icmp_lt (tgt := 84) dX11_envies_78 (by decide) (fun c9 => ?_) (fun c9 => ?_)
      · replace h := h.1 c9
        refine e_iinc dX11_envies_84 rfl (ii_1 _) rfl (by decide) ?_
        refine e_goto (tgt := 47) dX11_envies_87 (by decide) ?_
        exact h
      · replace h := h.2 c9
        refine e_iinc dX11_envies_81 rfl (ii_1 _) rfl (by decide) ?_
        refine e_iinc dX11_envies_84 rfl (ii_1 _) rfl (by decide) ?_
        refine e_goto (tgt := 47) dX11_envies_87 (by decide) ?_
        exact h
theorem S_X11_envies {d n : Nat} {Q : Int32 → St → Prop} {σ : St} {a1 : Int32} {a2 : Int32} (hn : FIX ≤ n) (hd : 1 ≤ d) (h : (((fn_X11_isWay a1) = 0 → Q (-1) σ) ∧ (¬ (fn_X11_isWay a1) = 0 → ((a2 < 1 → Q (-1) σ) ∧ (¬ a2 < 1 → ((a2 ≤ 2 → ∃ Q4 : St → Prop, Cn (d - 1) n M_X10_run md_X10_run [.ref 8, .int a1] σ (liV Q4) ∧ ∀ (σ6 : St), Q4 σ6 → Fr md_X10_run σ σ6 → K_X11_envies_32 d n σ Q σ6 a2 0 0) ∧ (¬ a2 ≤ 2 → Q (-1) σ))))))) : Cn d n M_X11_envies md_X11_envies [.ref 0, .int a1, .int a2] σ (liI Q) := by
  refine Cn.of (k0 := 3) (by decide) rfl ?_
  show Ev (d, n, md_X11_envies, σ, liI Q) M_X11_envies 0 [some (.ref 0), some (.int a1), some (.int a2), none, none, none] [] σ
  refine e_iload_n dX11_envies_0 rfl rfl ?_
  refine e_callS (M' := M_X11_isWay) (as := [.int a1]) (rest := []) dX11_envies_1 ml_X11_259 mk_X11_isWay rfl (Nat.le_of_ble_eq_true rfl) (show 0 < d by omega) (sp_X11_isWay) Md_nil (fun v σv hq hf => ?_)
  obtain ⟨v, rfl, rfl, rfl⟩ := hq
  refine e_if_eq (tgt := 17) dX11_envies_4 (by decide) (fun c1 => ?_) (fun c1 => ?_)
  · replace h := h.1 c1
    refine e_iconst dX11_envies_17 ci_m1 ?_
    exact e_iret dX11_envies_18 rfl ⟨_, rfl, h⟩
  · replace h := h.2 c1
    refine e_iload_n dX11_envies_7 rfl rfl ?_
    refine e_iconst dX11_envies_8 ci_1 ?_
    refine e_icmp_lt (tgt := 17) dX11_envies_9 (by decide) (fun c2 => ?_) (fun c2 => ?_)
    · replace h := h.1 c2
      refine e_iconst dX11_envies_17 ci_m1 ?_
      exact e_iret dX11_envies_18 rfl ⟨_, rfl, h⟩
    · replace h := h.2 c2
      refine e_iload_n dX11_envies_12 rfl rfl ?_
      refine e_iconst dX11_envies_13 ci_2 ?_
      refine e_icmp_le (tgt := 19) dX11_envies_14 (by decide) (fun c3 => ?_) (fun c3 => ?_)
      · replace h := h.1 c3
        refine e_aload_n dX11_envies_19 rfl rfl ?_
        refine e_getR (y := 8) dX11_envies_20 fl_X11_73 (ob_0 hn) rfl rfl ?_
        refine e_iload_n dX11_envies_23 rfl rfl ?_
        obtain ⟨Q4, hc5, h⟩ := h
        refine e_callV (M' := M_X10_run) (as := [.int a1]) (rest := []) dX11_envies_24 ml_X11_262 mk_X10_run (ob_8 hn) rfl rfl rfl (Nat.le_of_ble_eq_true rfl) (show 0 < d by omega) hc5 (Md_le (b := md_X11_envies) (by decide)) (fun v σ6 hq hf => ?_)
        obtain ⟨rfl, hq⟩ := hq
        replace h := h σ6 hq hf
        refine e_iconst dX11_envies_27 ci_0 ?_
        refine e_istore_n dX11_envies_28 rfl rfl (by decide) ?_
        refine e_iconst dX11_envies_29 ci_0 ?_
        refine e_istore dX11_envies_30 rfl (by decide) ?_
        refine e_kill [true, false, true, true, true, false] ?_
        exact h
      · replace h := h.2 c3
        refine e_iconst dX11_envies_17 ci_m1 ?_
        exact e_iret dX11_envies_18 rfl ⟨_, rfl, h⟩
theorem S_X11_waste {d n : Nat} {Q : Int32 → St → Prop} {σ : St} {a1 : Int32} {a2 : Int32} (hn : FIX ≤ n) (hd : 1 ≤ d) (h : (((fn_X11_isWay a1) = 0 → Q (-1) σ) ∧ (¬ (fn_X11_isWay a1) = 0 → ((a2 < 0 → Q (-1) σ) ∧ (¬ a2 < 0 → ((a2 ≤ 3 → ∃ Q4 : St → Prop, Cn (d - 1) n M_X10_run md_X10_run [.ref 8, .int a1] σ (liV Q4) ∧ ∀ (σ6 : St), Q4 σ6 → Fr md_X10_run σ σ6 → ∃ Q10 : Int32 → St → Prop, Cn (d - 1) n M_X3_findWaste md_X3_findWaste [.ref 9] σ6 (liI Q10) ∧ ∀ (v13 : Int32) (σ12 : St), Q10 v13 σ12 → Fr md_X3_findWaste σ6 σ12 → ((v13 = 0 → Q (-1) σ12) ∧ (¬ v13 = 0 → vp_in a2 4 ∧ Q (gI σ12 39 a2.toNatClampNeg) σ12))) ∧ (¬ a2 ≤ 3 → Q (-1) σ))))))) : Cn d n M_X11_waste md_X11_waste [.ref 0, .int a1, .int a2] σ (liI Q) := by
  refine Cn.of (k0 := 0) (by decide) rfl ?_
  show Ev (d, n, md_X11_waste, σ, liI Q) M_X11_waste 0 [some (.ref 0), some (.int a1), some (.int a2)] [] σ
  refine e_iload_n dX11_waste_0 rfl rfl ?_
  refine e_callS (M' := M_X11_isWay) (as := [.int a1]) (rest := []) dX11_waste_1 ml_X11_259 mk_X11_isWay rfl (Nat.le_of_ble_eq_true rfl) (show 0 < d by omega) (sp_X11_isWay) Md_nil (fun v σv hq hf => ?_)
  obtain ⟨v, rfl, rfl, rfl⟩ := hq
  refine e_if_eq (tgt := 16) dX11_waste_4 (by decide) (fun c1 => ?_) (fun c1 => ?_)
  · replace h := h.1 c1
    refine e_iconst dX11_waste_16 ci_m1 ?_
    exact e_iret dX11_waste_17 rfl ⟨_, rfl, h⟩
  · replace h := h.2 c1
    refine e_iload_n dX11_waste_7 rfl rfl ?_
    refine e_if_lt (tgt := 16) dX11_waste_8 (by decide) (fun c2 => ?_) (fun c2 => ?_)
    · replace h := h.1 c2
      refine e_iconst dX11_waste_16 ci_m1 ?_
      exact e_iret dX11_waste_17 rfl ⟨_, rfl, h⟩
    · replace h := h.2 c2
      refine e_iload_n dX11_waste_11 rfl rfl ?_
      refine e_iconst dX11_waste_12 ci_3 ?_
      refine e_icmp_le (tgt := 18) dX11_waste_13 (by decide) (fun c3 => ?_) (fun c3 => ?_)
      · replace h := h.1 c3
        refine e_aload_n dX11_waste_18 rfl rfl ?_
        refine e_getR (y := 8) dX11_waste_19 fl_X11_73 (ob_0 hn) rfl rfl ?_
        refine e_iload_n dX11_waste_22 rfl rfl ?_
        obtain ⟨Q4, hc5, h⟩ := h
        refine e_callV (M' := M_X10_run) (as := [.int a1]) (rest := []) dX11_waste_23 ml_X11_262 mk_X10_run (ob_8 hn) rfl rfl rfl (Nat.le_of_ble_eq_true rfl) (show 0 < d by omega) hc5 (Md_le (b := md_X11_waste) (by decide)) (fun v σ6 hq hf => ?_)
        obtain ⟨rfl, hq⟩ := hq
        replace h := h σ6 hq hf
        refine e_aload_n dX11_waste_26 rfl rfl ?_
        refine e_getR (y := 9) dX11_waste_27 fl_X11_82 (ob_0 hn) rfl rfl ?_
        obtain ⟨Q10, hc11, h⟩ := h
        refine e_callV (M' := M_X3_findWaste) (as := []) (rest := []) dX11_waste_30 ml_X11_277 mk_X3_findWaste (ob_9 hn) rfl rfl rfl (Nat.le_of_ble_eq_true rfl) (show 0 < d by omega) hc11 (Md_le (b := md_X11_waste) (by decide)) (fun v σ12 hq hf => ?_)
        obtain ⟨v13, rfl, hq⟩ := hq
        replace h := h v13 σ12 hq hf
        refine e_if_eq (tgt := 48) dX11_waste_33 (by decide) (fun c16 => ?_) (fun c16 => ?_)
        · replace h := h.1 c16
          refine e_iconst dX11_waste_48 ci_m1 ?_
          exact e_iret dX11_waste_49 rfl ⟨_, rfl, h⟩
        · replace h := h.2 c16
          refine e_aload_n dX11_waste_36 rfl rfl ?_
          refine e_getR (y := 9) dX11_waste_37 fl_X11_82 (ob_0 hn) rfl rfl ?_
          refine e_getR (y := 39) dX11_waste_40 fl_X11_281 (ob_9 hn) rfl rfl ?_
          refine e_iload_n dX11_waste_43 rfl rfl ?_
          refine e_iald dX11_waste_44 (ar_39 hn) h.1 ?_
          replace h := h.2
          refine e_goto (tgt := 49) dX11_waste_45 (by decide) ?_
          exact e_iret dX11_waste_49 rfl ⟨_, rfl, h⟩
      · replace h := h.2 c3
        refine e_iconst dX11_waste_16 ci_m1 ?_
        exact e_iret dX11_waste_17 rfl ⟨_, rfl, h⟩
theorem S_X11_share {d n : Nat} {Q : Int32 → St → Prop} {σ : St} {a1 : Int32} (hn : FIX ≤ n) (hd : 1 ≤ d) (h : (((fn_X1_isPerson σ a1) = 0 → Q (-2000000) σ) ∧ (¬ (fn_X1_isPerson σ a1) = 0 → (((3 : Int32) < (gI σ 3 2) → Q (-2000000) σ) ∧ (¬ (3 : Int32) < (gI σ 3 2) → (((gI σ 1 0) ≤ 6 → ∃ Q4 : Nat → St → Prop, Cn (d - 1) n M_X1_freshened md_X1_freshened [.ref 3, .int a1] σ (liR Q4) ∧ ∀ (v7 : Nat) (σ6 : St), Q4 v7 σ6 → Fr md_X1_freshened σ σ6 → IsP n v7 ∧ ∃ Q10 : Int32 → St → Prop, Cn (d - 1) n M_X3_shareOf md_X3_shareOf [.ref 9, .ref v7] σ6 (liI Q10) ∧ ∀ (v13 : Int32) (σ12 : St), Q10 v13 σ12 → Fr md_X3_shareOf σ6 σ12 → Q v13 σ12) ∧ (¬ (gI σ 1 0) ≤ 6 → Q (-2000000) σ))))))) : Cn d n M_X11_share md_X11_share [.ref 0, .int a1] σ (liI Q) := by
  refine Cn.of (k0 := 0) (by decide) rfl ?_
  show Ev (d, n, md_X11_share, σ, liI Q) M_X11_share 0 [some (.ref 0), some (.int a1)] [] σ
  refine e_aload_n dX11_share_0 rfl rfl ?_
  refine e_getR (y := 3) dX11_share_1 fl_X11_30 (ob_0 hn) rfl rfl ?_
  refine e_iload_n dX11_share_4 rfl rfl ?_
  refine e_callV (M' := M_X1_isPerson) (as := [.int a1]) (rest := []) dX11_share_5 ml_X11_137 mk_X1_isPerson (ob_3 hn) rfl rfl rfl (Nat.le_of_ble_eq_true rfl) (show 0 < d by omega) (sp_X1_isPerson hn) Md_nil (fun v σv hq hf => ?_)
  obtain ⟨v, rfl, rfl, rfl⟩ := hq
  refine e_if_eq (tgt := 34) dX11_share_8 (by decide) (fun c1 => ?_) (fun c1 => ?_)
  · replace h := h.1 c1
    refine e_ldc dX11_share_34 ck_X11_183 ?_
    exact e_iret dX11_share_36 rfl ⟨_, rfl, h⟩
  · replace h := h.2 c1
    refine e_aload_n dX11_share_11 rfl rfl ?_
    refine e_getR (y := 3) dX11_share_12 fl_X11_30 (ob_0 hn) rfl rfl ?_
    refine e_getI dX11_share_15 fl_X11_270 (ob_3 hn) rfl ?_
    refine e_iconst dX11_share_18 ci_3 ?_
    refine e_icmp_gt (tgt := 34) dX11_share_19 (by decide) (fun c2 => ?_) (fun c2 => ?_)
    · replace h := h.1 c2
      refine e_ldc dX11_share_34 ck_X11_183 ?_
      exact e_iret dX11_share_36 rfl ⟨_, rfl, h⟩
    · replace h := h.2 c2
      refine e_aload_n dX11_share_22 rfl rfl ?_
      refine e_getR (y := 1) dX11_share_23 fl_X11_10 (ob_0 hn) rfl rfl ?_
      refine e_getI dX11_share_26 fl_X11_245 (ob_1 hn) rfl ?_
      refine e_bipush dX11_share_29 cb_6 ?_
      refine e_icmp_le (tgt := 37) dX11_share_31 (by decide) (fun c3 => ?_) (fun c3 => ?_)
      · replace h := h.1 c3
        refine e_aload_n dX11_share_37 rfl rfl ?_
        refine e_getR (y := 9) dX11_share_38 fl_X11_82 (ob_0 hn) rfl rfl ?_
        refine e_aload_n dX11_share_41 rfl rfl ?_
        refine e_getR (y := 3) dX11_share_42 fl_X11_30 (ob_0 hn) rfl rfl ?_
        refine e_iload_n dX11_share_45 rfl rfl ?_
        obtain ⟨Q4, hc5, h⟩ := h
        refine e_callV (M' := M_X1_freshened) (as := [.int a1]) (rest := [.ref 9]) dX11_share_46 ml_X11_193 mk_X1_freshened (ob_3 hn) rfl rfl rfl (Nat.le_of_ble_eq_true rfl) (show 0 < d by omega) hc5 (Md_le (b := md_X11_share) (by decide)) (fun v σ6 hq hf => ?_)
        obtain ⟨v7, rfl, hq⟩ := hq
        obtain ⟨hp_v7, h⟩ := h v7 σ6 hq hf
        obtain ⟨Q10, hc11, h⟩ := h
        refine e_callV (M' := M_X3_shareOf) (as := [.ref v7]) (rest := []) dX11_share_49 ml_X11_284 mk_X3_shareOf (ob_9 hn) rfl rfl rfl (Nat.le_of_ble_eq_true rfl) (show 0 < d by omega) hc11 (Md_le (b := md_X11_share) (by decide)) (fun v σ12 hq hf => ?_)
        obtain ⟨v13, rfl, hq⟩ := hq
        replace h := h v13 σ12 hq hf
        exact e_iret dX11_share_52 rfl ⟨_, rfl, h⟩
      · replace h := h.2 c3
        refine e_ldc dX11_share_34 ck_X11_183 ?_
        exact e_iret dX11_share_36 rfl ⟨_, rfl, h⟩
theorem S_X11_gain {d n : Nat} {Q : Int32 → St → Prop} {σ : St} {a1 : Int32} {a2 : Int32} (hn : FIX ≤ n) (hd : 1 ≤ d) (h : ((a1 < 1 → Q (-3000000) σ) ∧ (¬ a1 < 1 → (((5 : Int32) ≤ a1 → Q (-3000000) σ) ∧ (¬ (5 : Int32) ≤ a1 → (((fn_X1_isPerson σ a2) = 0 → Q (-3000000) σ) ∧ (¬ (fn_X1_isPerson σ a2) = 0 → (((gI σ 0 11) ≠ 0 → ∃ Q5 : St → Prop, Cn (d - 1) n M_X10_run md_X10_run [.ref 8, .int a1] σ (liV Q5) ∧ ∀ (σ7 : St), Q5 σ7 → Fr md_X10_run σ σ7 → vp_in a2 8 ∧ vp_in a2 8 ∧ ∃ pp11, gR σ7 a2.toNatClampNeg = some pp11 ∧ IsP n pp11 ∧ ∃ Q12 : St → Prop, Cn (d - 1) n M_X5_standFor (md_X5_standFor 83) [.ref 83, .ref pp11] σ7 (liV Q12) ∧ ∀ (σ14 : St), Q12 σ14 → Fr (md_X5_standFor 83) σ7 σ14 → vp_in a2 8 ∧ ∃ Q18 : St → Prop, Cn (d - 1) n M_X10_run md_X10_run [.ref 8, .int a1] (sR σ14 a2.toNatClampNeg (some 83)) (liV Q18) ∧ ∀ (σ20 : St), Q18 σ20 → Fr md_X10_run (sR σ14 a2.toNatClampNeg (some 83)) σ20 → vp_in a2 8 ∧ vp_in a2 8 ∧ vp_in (gI (sR σ20 a2.toNatClampNeg (some pp11)) 34 a2.toNatClampNeg) 1024 ∧ vp_in (gI σ7 34 a2.toNatClampNeg) 1024 ∧ Q ((gI (sR σ20 a2.toNatClampNeg (some pp11)) (pp11 + 2) (gI (sR σ20 a2.toNatClampNeg (some pp11)) 34 a2.toNatClampNeg).toNatClampNeg) - (gI (sR σ20 a2.toNatClampNeg (some pp11)) (pp11 + 2) (gI σ7 34 a2.toNatClampNeg).toNatClampNeg)) (sR σ20 a2.toNatClampNeg (some pp11))) ∧ ((gI σ 0 11) = 0 → Q (-3000000) σ))))))))) : Cn d n M_X11_gain md_X11_gain [.ref 0, .int a1, .int a2] σ (liI Q) := by
  refine Cn.of (k0 := 2) (by decide) rfl ?_
  show Ev (d, n, md_X11_gain, σ, liI Q) M_X11_gain 0 [some (.ref 0), some (.int a1), some (.int a2), none, none] [] σ
  refine e_iload_n dX11_gain_0 rfl rfl ?_
  refine e_iconst dX11_gain_1 ci_1 ?_
  refine e_icmp_lt (tgt := 28) dX11_gain_2 (by decide) (fun c1 => ?_) (fun c1 => ?_)
  · replace h := h.1 c1
    refine e_ldcw dX11_gain_28 ck_X11_288 ?_
    exact e_iret dX11_gain_31 rfl ⟨_, rfl, h⟩
  · replace h := h.2 c1
    refine e_iload_n dX11_gain_5 rfl rfl ?_
    refine e_iconst dX11_gain_6 ci_5 ?_
    refine e_icmp_ge (tgt := 28) dX11_gain_7 (by decide) (fun c2 => ?_) (fun c2 => ?_)
    · replace h := h.1 c2
      refine e_ldcw dX11_gain_28 ck_X11_288 ?_
      exact e_iret dX11_gain_31 rfl ⟨_, rfl, h⟩
    · replace h := h.2 c2
      refine e_aload_n dX11_gain_10 rfl rfl ?_
      refine e_getR (y := 3) dX11_gain_11 fl_X11_30 (ob_0 hn) rfl rfl ?_
      refine e_iload_n dX11_gain_14 rfl rfl ?_
      refine e_callV (M' := M_X1_isPerson) (as := [.int a2]) (rest := []) dX11_gain_15 ml_X11_137 mk_X1_isPerson (ob_3 hn) rfl rfl rfl (Nat.le_of_ble_eq_true rfl) (show 0 < d by omega) (sp_X1_isPerson hn) Md_nil (fun v σv hq hf => ?_)
      obtain ⟨v, rfl, rfl, rfl⟩ := hq
      refine e_if_eq (tgt := 28) dX11_gain_18 (by decide) (fun c3 => ?_) (fun c3 => ?_)
      · replace h := h.1 c3
        refine e_ldcw dX11_gain_28 ck_X11_288 ?_
        exact e_iret dX11_gain_31 rfl ⟨_, rfl, h⟩
      · replace h := h.2 c3
        refine e_aload_n dX11_gain_21 rfl rfl ?_
        refine e_getI dX11_gain_22 fl_X11_173 (ob_0 hn) rfl ?_
        refine e_if_ne (tgt := 32) dX11_gain_25 (by decide) (fun c4 => ?_) (fun c4 => ?_)
        · replace h := h.1 c4
          refine e_aload_n dX11_gain_32 rfl rfl ?_
          refine e_getR (y := 8) dX11_gain_33 fl_X11_73 (ob_0 hn) rfl rfl ?_
          refine e_iload_n dX11_gain_36 rfl rfl ?_
          obtain ⟨Q5, hc6, h⟩ := h
          refine e_callV (M' := M_X10_run) (as := [.int a1]) (rest := []) dX11_gain_37 ml_X11_262 mk_X10_run (ob_8 hn) rfl rfl rfl (Nat.le_of_ble_eq_true rfl) (show 0 < d by omega) hc6 (Md_le (b := md_X11_gain) (by decide)) (fun v σ7 hq hf => ?_)
          obtain ⟨rfl, hq⟩ := hq
          replace h := h σ7 hq hf
          refine e_aload_n dX11_gain_40 rfl rfl ?_
          refine e_getR (y := 8) dX11_gain_41 fl_X11_73 (ob_0 hn) rfl rfl ?_
          refine e_getR (y := 34) dX11_gain_44 fl_X11_263 (ob_8 hn) rfl rfl ?_
          refine e_iload_n dX11_gain_47 rfl rfl ?_
          refine e_iald dX11_gain_48 (ar_34 hn) h.1 ?_
          replace h := h.2
          refine e_istore_n dX11_gain_49 rfl rfl (by decide) ?_
          refine e_aload_n dX11_gain_50 rfl rfl ?_
          refine e_getR (y := 3) dX11_gain_51 fl_X11_30 (ob_0 hn) rfl rfl ?_
          refine e_getR (y := 18) dX11_gain_54 fl_X11_140 (ob_3 hn) rfl rfl ?_
          refine e_iload_n dX11_gain_57 rfl rfl ?_
          obtain ⟨hi, pp11, hg, hp_pp11, h⟩ := h
          refine e_aldP dX11_gain_58 hn hi hg ?_
          refine e_astore dX11_gain_59 rfl (by decide) ?_
          refine e_aload_n dX11_gain_61 rfl rfl ?_
          refine e_getR (y := 83) dX11_gain_62 fl_X11_98 (ob_0 hn) rfl rfl ?_
          refine e_aload dX11_gain_65 rfl ?_
          obtain ⟨Q12, hc13, h⟩ := h
          refine e_callV (M' := M_X5_standFor) (as := [.ref pp11]) (rest := []) dX11_gain_67 ml_X11_289 mk_X5_standFor (Ob.p (liar_p hn)) rfl rfl rfl (Nat.le_of_ble_eq_true rfl) (show 0 < d by omega) hc13 (Md_le (b := md_X11_gain) (by decide)) (fun v σ14 hq hf => ?_)
          obtain ⟨rfl, hq⟩ := hq
          replace h := h σ14 hq hf
          refine e_aload_n dX11_gain_70 rfl rfl ?_
          refine e_getR (y := 3) dX11_gain_71 fl_X11_30 (ob_0 hn) rfl rfl ?_
          refine e_getR (y := 18) dX11_gain_74 fl_X11_140 (ob_3 hn) rfl rfl ?_
          refine e_iload_n dX11_gain_77 rfl rfl ?_
          refine e_aload_n dX11_gain_78 rfl rfl ?_
          refine e_getR (y := 83) dX11_gain_79 fl_X11_98 (ob_0 hn) rfl rfl ?_
          refine e_astP dX11_gain_82 hn h.1 (liar_p hn) (md_r (m := md_X11_gain) (by decide)) ?_
          replace h := h.2
          refine e_aload_n dX11_gain_83 rfl rfl ?_
          refine e_getR (y := 8) dX11_gain_84 fl_X11_73 (ob_0 hn) rfl rfl ?_
          refine e_iload_n dX11_gain_87 rfl rfl ?_
          obtain ⟨Q18, hc19, h⟩ := h
          refine e_callV (M' := M_X10_run) (as := [.int a1]) (rest := []) dX11_gain_88 ml_X11_262 mk_X10_run (ob_8 hn) rfl rfl rfl (Nat.le_of_ble_eq_true rfl) (show 0 < d by omega) hc19 (Md_le (b := md_X11_gain) (by decide)) (fun v σ20 hq hf => ?_)
          obtain ⟨rfl, hq⟩ := hq
          replace h := h σ20 hq hf
          refine e_aload_n dX11_gain_91 rfl rfl ?_
          refine e_getR (y := 3) dX11_gain_92 fl_X11_30 (ob_0 hn) rfl rfl ?_
          refine e_getR (y := 18) dX11_gain_95 fl_X11_140 (ob_3 hn) rfl rfl ?_
          refine e_iload_n dX11_gain_98 rfl rfl ?_
          refine e_aload dX11_gain_99 rfl ?_
          refine e_astP dX11_gain_101 hn h.1 hp_pp11 (md_r (m := md_X11_gain) (by decide)) ?_
          replace h := h.2
          refine e_aload dX11_gain_102 rfl ?_
          refine e_getR (y := pp11 + 2) dX11_gain_104 fl_X11_271 (Ob.p hp_pp11) rfl (rf_p hp_pp11 (by decide)) ?_
          refine e_aload_n dX11_gain_107 rfl rfl ?_
          refine e_getR (y := 8) dX11_gain_108 fl_X11_73 (ob_0 hn) rfl rfl ?_
          refine e_getR (y := 34) dX11_gain_111 fl_X11_263 (ob_8 hn) rfl rfl ?_
          refine e_iload_n dX11_gain_114 rfl rfl ?_
          refine e_iald dX11_gain_115 (ar_34 hn) h.1 ?_
          replace h := h.2
          refine e_iald dX11_gain_116 (Ar.p2 hp_pp11) h.1 ?_
          replace h := h.2
          refine e_aload dX11_gain_117 rfl ?_
          refine e_getR (y := pp11 + 2) dX11_gain_119 fl_X11_271 (Ob.p hp_pp11) rfl (rf_p hp_pp11 (by decide)) ?_
          refine e_iload_n dX11_gain_122 rfl rfl ?_
          refine e_iald dX11_gain_123 (Ar.p2 hp_pp11) h.1 ?_
          replace h := h.2
          refine e_isub dX11_gain_124 ?_
          exact e_iret dX11_gain_125 rfl ⟨_, rfl, h⟩
        · replace h := h.2 c4
          refine e_ldcw dX11_gain_28 ck_X11_288 ?_
          exact e_iret dX11_gain_31 rfl ⟨_, rfl, h⟩
theorem S_X11_rank {d n : Nat} {Q : Int32 → St → Prop} {σ : St} {a1 : Int32} {a2 : Int32} (hn : FIX ≤ n) (hd : 1 ≤ d) (h : (((fn_X11_isWay a1) = 0 → Q (-1) σ) ∧ (¬ (fn_X11_isWay a1) = 0 → (((fn_X1_isPerson σ a2) ≠ 0 → ∃ Q3 : St → Prop, Cn (d - 1) n M_X10_run md_X10_run [.ref 8, .int a1] σ (liV Q3) ∧ ∀ (σ5 : St), Q3 σ5 → Fr md_X10_run σ σ5 → vp_in a2 8 ∧ ∃ pp9, gR σ5 a2.toNatClampNeg = some pp9 ∧ IsP n pp9 ∧ vp_in a2 8 ∧ vp_in (gI σ5 34 a2.toNatClampNeg) 1024 ∧ ∃ Q10 : Int32 → St → Prop, Cn (d - 1) n M_X5_betterThan md_X5_betterThan [.ref pp9, .int (gI σ5 (pp9 + 2) (gI σ5 34 a2.toNatClampNeg).toNatClampNeg)] σ5 (liI Q10) ∧ ∀ (v13 : Int32) (σ12 : St), Q10 v13 σ12 → Fr md_X5_betterThan σ5 σ12 → Q v13 σ12) ∧ ((fn_X1_isPerson σ a2) = 0 → Q (-1) σ))))) : Cn d n M_X11_rank md_X11_rank [.ref 0, .int a1, .int a2] σ (liI Q) := by
  refine Cn.of (k0 := 1) (by decide) rfl ?_
  show Ev (d, n, md_X11_rank, σ, liI Q) M_X11_rank 0 [some (.ref 0), some (.int a1), some (.int a2), none] [] σ
  refine e_iload_n dX11_rank_0 rfl rfl ?_
  refine e_callS (M' := M_X11_isWay) (as := [.int a1]) (rest := []) dX11_rank_1 ml_X11_259 mk_X11_isWay rfl (Nat.le_of_ble_eq_true rfl) (show 0 < d by omega) (sp_X11_isWay) Md_nil (fun v σv hq hf => ?_)
  obtain ⟨v, rfl, rfl, rfl⟩ := hq
  refine e_if_eq (tgt := 18) dX11_rank_4 (by decide) (fun c1 => ?_) (fun c1 => ?_)
  · replace h := h.1 c1
    refine e_iconst dX11_rank_18 ci_m1 ?_
    exact e_iret dX11_rank_19 rfl ⟨_, rfl, h⟩
  · replace h := h.2 c1
    refine e_aload_n dX11_rank_7 rfl rfl ?_
    refine e_getR (y := 3) dX11_rank_8 fl_X11_30 (ob_0 hn) rfl rfl ?_
    refine e_iload_n dX11_rank_11 rfl rfl ?_
    refine e_callV (M' := M_X1_isPerson) (as := [.int a2]) (rest := []) dX11_rank_12 ml_X11_137 mk_X1_isPerson (ob_3 hn) rfl rfl rfl (Nat.le_of_ble_eq_true rfl) (show 0 < d by omega) (sp_X1_isPerson hn) Md_nil (fun v σv hq hf => ?_)
    obtain ⟨v, rfl, rfl, rfl⟩ := hq
    refine e_if_ne (tgt := 20) dX11_rank_15 (by decide) (fun c2 => ?_) (fun c2 => ?_)
    · replace h := h.1 c2
      refine e_aload_n dX11_rank_20 rfl rfl ?_
      refine e_getR (y := 8) dX11_rank_21 fl_X11_73 (ob_0 hn) rfl rfl ?_
      refine e_iload_n dX11_rank_24 rfl rfl ?_
      obtain ⟨Q3, hc4, h⟩ := h
      refine e_callV (M' := M_X10_run) (as := [.int a1]) (rest := []) dX11_rank_25 ml_X11_262 mk_X10_run (ob_8 hn) rfl rfl rfl (Nat.le_of_ble_eq_true rfl) (show 0 < d by omega) hc4 (Md_le (b := md_X11_rank) (by decide)) (fun v σ5 hq hf => ?_)
      obtain ⟨rfl, hq⟩ := hq
      replace h := h σ5 hq hf
      refine e_aload_n dX11_rank_28 rfl rfl ?_
      refine e_getR (y := 3) dX11_rank_29 fl_X11_30 (ob_0 hn) rfl rfl ?_
      refine e_getR (y := 18) dX11_rank_32 fl_X11_140 (ob_3 hn) rfl rfl ?_
      refine e_iload_n dX11_rank_35 rfl rfl ?_
      obtain ⟨hi, pp9, hg, hp_pp9, h⟩ := h
      refine e_aldP dX11_rank_36 hn hi hg ?_
      refine e_astore_n dX11_rank_37 rfl rfl (by decide) ?_
      refine e_aload_n dX11_rank_38 rfl rfl ?_
      refine e_aload_n dX11_rank_39 rfl rfl ?_
      refine e_getR (y := pp9 + 2) dX11_rank_40 fl_X11_271 (Ob.p hp_pp9) rfl (rf_p hp_pp9 (by decide)) ?_
      refine e_aload_n dX11_rank_43 rfl rfl ?_
      refine e_getR (y := 8) dX11_rank_44 fl_X11_73 (ob_0 hn) rfl rfl ?_
      refine e_getR (y := 34) dX11_rank_47 fl_X11_263 (ob_8 hn) rfl rfl ?_
      refine e_iload_n dX11_rank_50 rfl rfl ?_
      refine e_iald dX11_rank_51 (ar_34 hn) h.1 ?_
      replace h := h.2
      refine e_iald dX11_rank_52 (Ar.p2 hp_pp9) h.1 ?_
      replace h := h.2
      obtain ⟨Q10, hc11, h⟩ := h
      refine e_callV (M' := M_X5_betterThan) (as := [.int (gI σ5 (pp9 + 2) (gI σ5 34 a2.toNatClampNeg).toNatClampNeg)]) (rest := []) dX11_rank_53 ml_X11_293 mk_X5_betterThan (Ob.p hp_pp9) rfl rfl rfl (Nat.le_of_ble_eq_true rfl) (show 0 < d by omega) hc11 (Md_le (b := md_X11_rank) (by decide)) (fun v σ12 hq hf => ?_)
      obtain ⟨v13, rfl, hq⟩ := hq
      replace h := h v13 σ12 hq hf
      exact e_iret dX11_rank_56 rfl ⟨_, rfl, h⟩
    · replace h := h.2 c2
      refine e_iconst dX11_rank_18 ci_m1 ?_
      exact e_iret dX11_rank_19 rfl ⟨_, rfl, h⟩
theorem S_X11_ties {d n : Nat} {Q : Int32 → St → Prop} {σ : St} {a1 : Int32} (hn : FIX ≤ n) (hd : 1 ≤ d) (h : (((fn_X1_isPerson σ a1) ≠ 0 → ∃ Q2 : Nat → St → Prop, Cn (d - 1) n M_X1_freshened md_X1_freshened [.ref 3, .int a1] σ (liR Q2) ∧ ∀ (v5 : Nat) (σ4 : St), Q2 v5 σ4 → Fr md_X1_freshened σ σ4 → IsP n v5 ∧ ∃ Q8 : St → Prop, Cn (d - 1) n M_X4_mark md_X4_mark [.ref 6, .ref 24] σ4 (liV Q8) ∧ ∀ (σ10 : St), Q8 σ10 → Fr md_X4_mark σ4 σ10 → ∃ Q14 : Int32 → St → Prop, Cn (d - 1) n M_X4_alike md_X4_alike [.ref 6, .ref v5] σ10 (liI Q14) ∧ ∀ (v17 : Int32) (σ16 : St), Q14 v17 σ16 → Fr md_X4_alike σ10 σ16 → Q v17 σ16) ∧ ((fn_X1_isPerson σ a1) = 0 → Q (-1) σ))) : Cn d n M_X11_ties md_X11_ties [.ref 0, .int a1] σ (liI Q) := by
  refine Cn.of (k0 := 1) (by decide) rfl ?_
  show Ev (d, n, md_X11_ties, σ, liI Q) M_X11_ties 0 [some (.ref 0), some (.int a1), none] [] σ
  refine e_aload_n dX11_ties_0 rfl rfl ?_
  refine e_getR (y := 3) dX11_ties_1 fl_X11_30 (ob_0 hn) rfl rfl ?_
  refine e_iload_n dX11_ties_4 rfl rfl ?_
  refine e_callV (M' := M_X1_isPerson) (as := [.int a1]) (rest := []) dX11_ties_5 ml_X11_137 mk_X1_isPerson (ob_3 hn) rfl rfl rfl (Nat.le_of_ble_eq_true rfl) (show 0 < d by omega) (sp_X1_isPerson hn) Md_nil (fun v σv hq hf => ?_)
  obtain ⟨v, rfl, rfl, rfl⟩ := hq
  refine e_if_ne (tgt := 13) dX11_ties_8 (by decide) (fun c1 => ?_) (fun c1 => ?_)
  · replace h := h.1 c1
    refine e_aload_n dX11_ties_13 rfl rfl ?_
    refine e_getR (y := 3) dX11_ties_14 fl_X11_30 (ob_0 hn) rfl rfl ?_
    refine e_iload_n dX11_ties_17 rfl rfl ?_
    obtain ⟨Q2, hc3, h⟩ := h
    refine e_callV (M' := M_X1_freshened) (as := [.int a1]) (rest := []) dX11_ties_18 ml_X11_193 mk_X1_freshened (ob_3 hn) rfl rfl rfl (Nat.le_of_ble_eq_true rfl) (show 0 < d by omega) hc3 (Md_le (b := md_X11_ties) (by decide)) (fun v σ4 hq hf => ?_)
    obtain ⟨v5, rfl, hq⟩ := hq
    obtain ⟨hp_v5, h⟩ := h v5 σ4 hq hf
    refine e_astore_n dX11_ties_21 rfl rfl (by decide) ?_
    refine e_aload_n dX11_ties_22 rfl rfl ?_
    refine e_getR (y := 6) dX11_ties_23 fl_X11_55 (ob_0 hn) rfl rfl ?_
    refine e_aload_n dX11_ties_26 rfl rfl ?_
    refine e_getR (y := 6) dX11_ties_27 fl_X11_55 (ob_0 hn) rfl rfl ?_
    refine e_getR (y := 24) dX11_ties_30 fl_X11_187 (ob_6 hn) rfl rfl ?_
    obtain ⟨Q8, hc9, h⟩ := h
    refine e_callV (M' := M_X4_mark) (as := [.ref 24]) (rest := []) dX11_ties_33 ml_X11_197 mk_X4_mark (ob_6 hn) rfl rfl rfl (Nat.le_of_ble_eq_true rfl) (show 0 < d by omega) hc9 (Md_le (b := md_X11_ties) (by decide)) (fun v σ10 hq hf => ?_)
    obtain ⟨rfl, hq⟩ := hq
    replace h := h σ10 hq hf
    refine e_aload_n dX11_ties_36 rfl rfl ?_
    refine e_getR (y := 6) dX11_ties_37 fl_X11_55 (ob_0 hn) rfl rfl ?_
    refine e_aload_n dX11_ties_40 rfl rfl ?_
    obtain ⟨Q14, hc15, h⟩ := h
    refine e_callV (M' := M_X4_alike) (as := [.ref v5]) (rest := []) dX11_ties_41 ml_X11_296 mk_X4_alike (ob_6 hn) rfl rfl rfl (Nat.le_of_ble_eq_true rfl) (show 0 < d by omega) hc15 (Md_le (b := md_X11_ties) (by decide)) (fun v σ16 hq hf => ?_)
    obtain ⟨v17, rfl, hq⟩ := hq
    replace h := h v17 σ16 hq hf
    exact e_iret dX11_ties_44 rfl ⟨_, rfl, h⟩
  · replace h := h.2 c1
    refine e_iconst dX11_ties_11 ci_m1 ?_
    exact e_iret dX11_ties_12 rfl ⟨_, rfl, h⟩
theorem S_X11_edge {d n : Nat} {Q : Int32 → St → Prop} {σ : St} {a1 : Int32} {a2 : Int32} (hn : FIX ≤ n) (hd : 1 ≤ d) (h : (((fn_X1_isPerson σ a1) = 0 → Q (-1) σ) ∧ (¬ (fn_X1_isPerson σ a1) = 0 → (((fn_X6_isLesson σ a2) ≠ 0 → ∃ Q3 : Nat → St → Prop, Cn (d - 1) n M_X1_freshened md_X1_freshened [.ref 3, .int a1] σ (liR Q3) ∧ ∀ (v6 : Nat) (σ5 : St), Q3 v6 σ5 → Fr md_X1_freshened σ σ5 → IsP n v6 ∧ ∃ Q9 : Int32 → St → Prop, Cn (d - 1) n M_X8_edgeOf md_X8_edgeOf [.ref 7, .ref v6, .int a2] σ5 (liI Q9) ∧ ∀ (v12 : Int32) (σ11 : St), Q9 v12 σ11 → Fr md_X8_edgeOf σ5 σ11 → Q v12 σ11) ∧ ((fn_X6_isLesson σ a2) = 0 → Q (-1) σ))))) : Cn d n M_X11_edge md_X11_edge [.ref 0, .int a1, .int a2] σ (liI Q) := by
  refine Cn.of (k0 := 0) (by decide) rfl ?_
  show Ev (d, n, md_X11_edge, σ, liI Q) M_X11_edge 0 [some (.ref 0), some (.int a1), some (.int a2)] [] σ
  refine e_aload_n dX11_edge_0 rfl rfl ?_
  refine e_getR (y := 3) dX11_edge_1 fl_X11_30 (ob_0 hn) rfl rfl ?_
  refine e_iload_n dX11_edge_4 rfl rfl ?_
  refine e_callV (M' := M_X1_isPerson) (as := [.int a1]) (rest := []) dX11_edge_5 ml_X11_137 mk_X1_isPerson (ob_3 hn) rfl rfl rfl (Nat.le_of_ble_eq_true rfl) (show 0 < d by omega) (sp_X1_isPerson hn) Md_nil (fun v σv hq hf => ?_)
  obtain ⟨v, rfl, rfl, rfl⟩ := hq
  refine e_if_eq (tgt := 22) dX11_edge_8 (by decide) (fun c1 => ?_) (fun c1 => ?_)
  · replace h := h.1 c1
    refine e_iconst dX11_edge_22 ci_m1 ?_
    exact e_iret dX11_edge_23 rfl ⟨_, rfl, h⟩
  · replace h := h.2 c1
    refine e_aload_n dX11_edge_11 rfl rfl ?_
    refine e_getR (y := 1) dX11_edge_12 fl_X11_10 (ob_0 hn) rfl rfl ?_
    refine e_iload_n dX11_edge_15 rfl rfl ?_
    refine e_callV (M' := M_X6_isLesson) (as := [.int a2]) (rest := []) dX11_edge_16 ml_X11_113 mk_X6_isLesson (ob_1 hn) rfl rfl rfl (Nat.le_of_ble_eq_true rfl) (show 0 < d by omega) (sp_X6_isLesson hn) Md_nil (fun v σv hq hf => ?_)
    obtain ⟨v, rfl, rfl, rfl⟩ := hq
    refine e_if_ne (tgt := 24) dX11_edge_19 (by decide) (fun c2 => ?_) (fun c2 => ?_)
    · replace h := h.1 c2
      refine e_aload_n dX11_edge_24 rfl rfl ?_
      refine e_getR (y := 7) dX11_edge_25 fl_X11_64 (ob_0 hn) rfl rfl ?_
      refine e_aload_n dX11_edge_28 rfl rfl ?_
      refine e_getR (y := 3) dX11_edge_29 fl_X11_30 (ob_0 hn) rfl rfl ?_
      refine e_iload_n dX11_edge_32 rfl rfl ?_
      obtain ⟨Q3, hc4, h⟩ := h
      refine e_callV (M' := M_X1_freshened) (as := [.int a1]) (rest := [.ref 7]) dX11_edge_33 ml_X11_193 mk_X1_freshened (ob_3 hn) rfl rfl rfl (Nat.le_of_ble_eq_true rfl) (show 0 < d by omega) hc4 (Md_le (b := md_X11_edge) (by decide)) (fun v σ5 hq hf => ?_)
      obtain ⟨v6, rfl, hq⟩ := hq
      obtain ⟨hp_v6, h⟩ := h v6 σ5 hq hf
      refine e_iload_n dX11_edge_36 rfl rfl ?_
      obtain ⟨Q9, hc10, h⟩ := h
      refine e_callV (M' := M_X8_edgeOf) (as := [.ref v6, .int a2]) (rest := []) dX11_edge_37 ml_X11_299 mk_X8_edgeOf (ob_7 hn) rfl rfl rfl (Nat.le_of_ble_eq_true rfl) (show 0 < d by omega) hc10 (Md_le (b := md_X11_edge) (by decide)) (fun v σ11 hq hf => ?_)
      obtain ⟨v12, rfl, hq⟩ := hq
      replace h := h v12 σ11 hq hf
      exact e_iret dX11_edge_40 rfl ⟨_, rfl, h⟩
    · replace h := h.2 c2
      refine e_iconst dX11_edge_22 ci_m1 ?_
      exact e_iret dX11_edge_23 rfl ⟨_, rfl, h⟩
theorem S_X11_few {d n : Nat} {Q : Int32 → St → Prop} {σ : St} {a1 : Int32} {a2 : Int32} {a3 : Int32} (hn : FIX ≤ n) (hd : 1 ≤ d) (h : ((a3 = 0 → (((fn_X11_isWay a1) = 0 → Q (-1) σ) ∧ (¬ (fn_X11_isWay a1) = 0 → (((fn_X6_isLesson σ a2) = 0 → Q (-1) σ) ∧ (¬ (fn_X6_isLesson σ a2) = 0 → (((1 : Int32) ≠ 0 → ∃ Q5 : St → Prop, Cn (d - 1) n M_X10_run md_X10_run [.ref 8, .int a1] σ (liV Q5) ∧ ∀ (σ7 : St), Q5 σ7 → Fr md_X10_run σ σ7 → ∃ Q11 : Int32 → St → Prop, Cn (d - 1) n M_X2_find md_X2_find [.ref 10, .int a2] σ7 (liI Q11) ∧ ∀ (v14 : Int32) (σ13 : St), Q11 v14 σ13 → Fr md_X2_find σ7 σ13 → ((v14 ≠ 0 → ((a3 ≠ 0 → vp_in (a3 - 10) 8 ∧ Q (gI σ13 40 (a3 - 10).toNatClampNeg) σ13) ∧ (a3 = 0 → Q (gI σ13 10 3) σ13))) ∧ (v14 = 0 → Q (-1) σ13))) ∧ ((1 : Int32) = 0 → Q (-1) σ))))))) ∧ (¬ a3 = 0 → (((fn_X1_isPerson σ (a3 - 10)) = 0 → (((fn_X11_isWay a1) = 0 → Q (-1) σ) ∧ (¬ (fn_X11_isWay a1) = 0 → (((fn_X6_isLesson σ a2) = 0 → Q (-1) σ) ∧ (¬ (fn_X6_isLesson σ a2) = 0 → (((0 : Int32) ≠ 0 → ∃ Q23 : St → Prop, Cn (d - 1) n M_X10_run md_X10_run [.ref 8, .int a1] σ (liV Q23) ∧ ∀ (σ25 : St), Q23 σ25 → Fr md_X10_run σ σ25 → ∃ Q29 : Int32 → St → Prop, Cn (d - 1) n M_X2_find md_X2_find [.ref 10, .int a2] σ25 (liI Q29) ∧ ∀ (v32 : Int32) (σ31 : St), Q29 v32 σ31 → Fr md_X2_find σ25 σ31 → ((v32 ≠ 0 → ((a3 ≠ 0 → vp_in (a3 - 10) 8 ∧ Q (gI σ31 40 (a3 - 10).toNatClampNeg) σ31) ∧ (a3 = 0 → Q (gI σ31 10 3) σ31))) ∧ (v32 = 0 → Q (-1) σ31))) ∧ ((0 : Int32) = 0 → Q (-1) σ))))))) ∧ (¬ (fn_X1_isPerson σ (a3 - 10)) = 0 → (((fn_X11_isWay a1) = 0 → Q (-1) σ) ∧ (¬ (fn_X11_isWay a1) = 0 → (((fn_X6_isLesson σ a2) = 0 → Q (-1) σ) ∧ (¬ (fn_X6_isLesson σ a2) = 0 → (((1 : Int32) ≠ 0 → ∃ Q40 : St → Prop, Cn (d - 1) n M_X10_run md_X10_run [.ref 8, .int a1] σ (liV Q40) ∧ ∀ (σ42 : St), Q40 σ42 → Fr md_X10_run σ σ42 → ∃ Q46 : Int32 → St → Prop, Cn (d - 1) n M_X2_find md_X2_find [.ref 10, .int a2] σ42 (liI Q46) ∧ ∀ (v49 : Int32) (σ48 : St), Q46 v49 σ48 → Fr md_X2_find σ42 σ48 → ((v49 ≠ 0 → ((a3 ≠ 0 → vp_in (a3 - 10) 8 ∧ Q (gI σ48 40 (a3 - 10).toNatClampNeg) σ48) ∧ (a3 = 0 → Q (gI σ48 10 3) σ48))) ∧ (v49 = 0 → Q (-1) σ48))) ∧ ((1 : Int32) = 0 → Q (-1) σ))))))))))) : Cn d n M_X11_few md_X11_few [.ref 0, .int a1, .int a2, .int a3] σ (liI Q) := by
  refine Cn.of (k0 := 1) (by decide) rfl ?_
  show Ev (d, n, md_X11_few, σ, liI Q) M_X11_few 0 [some (.ref 0), some (.int a1), some (.int a2), some (.int a3), none] [] σ
  refine e_iload_n dX11_few_0 rfl rfl ?_
  refine e_if_eq (tgt := 18) dX11_few_1 (by decide) (fun c1 => ?_) (fun c1 => ?_)
  · replace h := h.1 c1
    refine e_iconst dX11_few_18 ci_1 ?_
    refine e_goto (tgt := 23) dX11_few_19 (by decide) ?_
    refine e_istore dX11_few_23 rfl (by decide) ?_
    refine e_iload_n dX11_few_25 rfl rfl ?_
    refine e_callS (M' := M_X11_isWay) (as := [.int a1]) (rest := []) dX11_few_26 ml_X11_259 mk_X11_isWay rfl (Nat.le_of_ble_eq_true rfl) (show 0 < d by omega) (sp_X11_isWay) Md_nil (fun v σv hq hf => ?_)
    obtain ⟨v, rfl, rfl, rfl⟩ := hq
    refine e_if_eq (tgt := 48) dX11_few_29 (by decide) (fun c2 => ?_) (fun c2 => ?_)
    · replace h := h.1 c2
      refine e_iconst dX11_few_48 ci_m1 ?_
      exact e_iret dX11_few_49 rfl ⟨_, rfl, h⟩
    · replace h := h.2 c2
      refine e_aload_n dX11_few_32 rfl rfl ?_
      refine e_getR (y := 1) dX11_few_33 fl_X11_10 (ob_0 hn) rfl rfl ?_
      refine e_iload_n dX11_few_36 rfl rfl ?_
      refine e_callV (M' := M_X6_isLesson) (as := [.int a2]) (rest := []) dX11_few_37 ml_X11_113 mk_X6_isLesson (ob_1 hn) rfl rfl rfl (Nat.le_of_ble_eq_true rfl) (show 0 < d by omega) (sp_X6_isLesson hn) Md_nil (fun v σv hq hf => ?_)
      obtain ⟨v, rfl, rfl, rfl⟩ := hq
      refine e_if_eq (tgt := 48) dX11_few_40 (by decide) (fun c3 => ?_) (fun c3 => ?_)
      · replace h := h.1 c3
        refine e_iconst dX11_few_48 ci_m1 ?_
        exact e_iret dX11_few_49 rfl ⟨_, rfl, h⟩
      · replace h := h.2 c3
        refine e_iload dX11_few_43 rfl ?_
        refine e_if_ne (tgt := 50) dX11_few_45 (by decide) (fun c4 => ?_) (fun c4 => ?_)
        · replace h := h.1 c4
          refine e_aload_n dX11_few_50 rfl rfl ?_
          refine e_getR (y := 8) dX11_few_51 fl_X11_73 (ob_0 hn) rfl rfl ?_
          refine e_iload_n dX11_few_54 rfl rfl ?_
          obtain ⟨Q5, hc6, h⟩ := h
          refine e_callV (M' := M_X10_run) (as := [.int a1]) (rest := []) dX11_few_55 ml_X11_262 mk_X10_run (ob_8 hn) rfl rfl rfl (Nat.le_of_ble_eq_true rfl) (show 0 < d by omega) hc6 (Md_le (b := md_X11_few) (by decide)) (fun v σ7 hq hf => ?_)
          obtain ⟨rfl, hq⟩ := hq
          replace h := h σ7 hq hf
          refine e_aload_n dX11_few_58 rfl rfl ?_
          refine e_getR (y := 10) dX11_few_59 fl_X11_89 (ob_0 hn) rfl rfl ?_
          refine e_iload_n dX11_few_62 rfl rfl ?_
          obtain ⟨Q11, hc12, h⟩ := h
          refine e_callV (M' := M_X2_find) (as := [.int a2]) (rest := []) dX11_few_63 ml_X11_302 mk_X2_find (ob_10 hn) rfl rfl rfl (Nat.le_of_ble_eq_true rfl) (show 0 < d by omega) hc12 (Md_le (b := md_X11_few) (by decide)) (fun v σ13 hq hf => ?_)
          obtain ⟨v14, rfl, hq⟩ := hq
          replace h := h v14 σ13 hq hf
          refine e_if_ne (tgt := 71) dX11_few_66 (by decide) (fun c17 => ?_) (fun c17 => ?_)
          · replace h := h.1 c17
            refine e_iload_n dX11_few_71 rfl rfl ?_
            refine e_if_ne (tgt := 85) dX11_few_72 (by decide) (fun c18 => ?_) (fun c18 => ?_)
            · replace h := h.1 c18
              refine e_aload_n dX11_few_85 rfl rfl ?_
              refine e_getR (y := 10) dX11_few_86 fl_X11_89 (ob_0 hn) rfl rfl ?_
              refine e_getR (y := 40) dX11_few_89 fl_X11_308 (ob_10 hn) rfl rfl ?_
              refine e_iload_n dX11_few_92 rfl rfl ?_
              refine e_bipush dX11_few_93 cb_10 ?_
              refine e_isub dX11_few_95 ?_
              refine e_iald dX11_few_96 (ar_40 hn) h.1 ?_
              replace h := h.2
              exact e_iret dX11_few_97 rfl ⟨_, rfl, h⟩
            · replace h := h.2 c18
              refine e_aload_n dX11_few_75 rfl rfl ?_
              refine e_getR (y := 10) dX11_few_76 fl_X11_89 (ob_0 hn) rfl rfl ?_
              refine e_getI dX11_few_79 fl_X11_305 (ob_10 hn) rfl ?_
              refine e_goto (tgt := 97) dX11_few_82 (by decide) ?_
              exact e_iret dX11_few_97 rfl ⟨_, rfl, h⟩
          · replace h := h.2 c17
            refine e_iconst dX11_few_69 ci_m1 ?_
            exact e_iret dX11_few_70 rfl ⟨_, rfl, h⟩
        · replace h := h.2 c4
          refine e_iconst dX11_few_48 ci_m1 ?_
          exact e_iret dX11_few_49 rfl ⟨_, rfl, h⟩
  · replace h := h.2 c1
    refine e_aload_n dX11_few_4 rfl rfl ?_
    refine e_getR (y := 3) dX11_few_5 fl_X11_30 (ob_0 hn) rfl rfl ?_
    refine e_iload_n dX11_few_8 rfl rfl ?_
    refine e_bipush dX11_few_9 cb_10 ?_
    refine e_isub dX11_few_11 ?_
    refine e_callV (M' := M_X1_isPerson) (as := [.int (a3 - 10)]) (rest := []) dX11_few_12 ml_X11_137 mk_X1_isPerson (ob_3 hn) rfl rfl rfl (Nat.le_of_ble_eq_true rfl) (show 0 < d by omega) (sp_X1_isPerson hn) Md_nil (fun v σv hq hf => ?_)
    obtain ⟨v, rfl, rfl, rfl⟩ := hq
    refine e_if_eq (tgt := 22) dX11_few_15 (by decide) (fun c19 => ?_) (fun c19 => ?_)
    · replace h := h.1 c19
      refine e_iconst dX11_few_22 ci_0 ?_
      refine e_istore dX11_few_23 rfl (by decide) ?_
      refine e_iload_n dX11_few_25 rfl rfl ?_
      refine e_callS (M' := M_X11_isWay) (as := [.int a1]) (rest := []) dX11_few_26 ml_X11_259 mk_X11_isWay rfl (Nat.le_of_ble_eq_true rfl) (show 0 < d by omega) (sp_X11_isWay) Md_nil (fun v σv hq hf => ?_)
      obtain ⟨v, rfl, rfl, rfl⟩ := hq
      refine e_if_eq (tgt := 48) dX11_few_29 (by decide) (fun c20 => ?_) (fun c20 => ?_)
      · replace h := h.1 c20
        refine e_iconst dX11_few_48 ci_m1 ?_
        exact e_iret dX11_few_49 rfl ⟨_, rfl, h⟩
      · replace h := h.2 c20
        refine e_aload_n dX11_few_32 rfl rfl ?_
        refine e_getR (y := 1) dX11_few_33 fl_X11_10 (ob_0 hn) rfl rfl ?_
        refine e_iload_n dX11_few_36 rfl rfl ?_
        refine e_callV (M' := M_X6_isLesson) (as := [.int a2]) (rest := []) dX11_few_37 ml_X11_113 mk_X6_isLesson (ob_1 hn) rfl rfl rfl (Nat.le_of_ble_eq_true rfl) (show 0 < d by omega) (sp_X6_isLesson hn) Md_nil (fun v σv hq hf => ?_)
        obtain ⟨v, rfl, rfl, rfl⟩ := hq
        refine e_if_eq (tgt := 48) dX11_few_40 (by decide) (fun c21 => ?_) (fun c21 => ?_)
        · replace h := h.1 c21
          refine e_iconst dX11_few_48 ci_m1 ?_
          exact e_iret dX11_few_49 rfl ⟨_, rfl, h⟩
        · replace h := h.2 c21
          refine e_iload dX11_few_43 rfl ?_
          refine e_if_ne (tgt := 50) dX11_few_45 (by decide) (fun c22 => ?_) (fun c22 => ?_)
          · replace h := h.1 c22
            refine e_aload_n dX11_few_50 rfl rfl ?_
            refine e_getR (y := 8) dX11_few_51 fl_X11_73 (ob_0 hn) rfl rfl ?_
            refine e_iload_n dX11_few_54 rfl rfl ?_
            obtain ⟨Q23, hc24, h⟩ := h
            refine e_callV (M' := M_X10_run) (as := [.int a1]) (rest := []) dX11_few_55 ml_X11_262 mk_X10_run (ob_8 hn) rfl rfl rfl (Nat.le_of_ble_eq_true rfl) (show 0 < d by omega) hc24 (Md_le (b := md_X11_few) (by decide)) (fun v σ25 hq hf => ?_)
            obtain ⟨rfl, hq⟩ := hq
            replace h := h σ25 hq hf
            refine e_aload_n dX11_few_58 rfl rfl ?_
            refine e_getR (y := 10) dX11_few_59 fl_X11_89 (ob_0 hn) rfl rfl ?_
            refine e_iload_n dX11_few_62 rfl rfl ?_
            obtain ⟨Q29, hc30, h⟩ := h
            refine e_callV (M' := M_X2_find) (as := [.int a2]) (rest := []) dX11_few_63 ml_X11_302 mk_X2_find (ob_10 hn) rfl rfl rfl (Nat.le_of_ble_eq_true rfl) (show 0 < d by omega) hc30 (Md_le (b := md_X11_few) (by decide)) (fun v σ31 hq hf => ?_)
            obtain ⟨v32, rfl, hq⟩ := hq
            replace h := h v32 σ31 hq hf
            refine e_if_ne (tgt := 71) dX11_few_66 (by decide) (fun c35 => ?_) (fun c35 => ?_)
            · replace h := h.1 c35
              refine e_iload_n dX11_few_71 rfl rfl ?_
              refine e_if_ne (tgt := 85) dX11_few_72 (by decide) (fun c36 => ?_) (fun c36 => ?_)
              · replace h := h.1 c36
                refine e_aload_n dX11_few_85 rfl rfl ?_
                refine e_getR (y := 10) dX11_few_86 fl_X11_89 (ob_0 hn) rfl rfl ?_
                refine e_getR (y := 40) dX11_few_89 fl_X11_308 (ob_10 hn) rfl rfl ?_
                refine e_iload_n dX11_few_92 rfl rfl ?_
                refine e_bipush dX11_few_93 cb_10 ?_
                refine e_isub dX11_few_95 ?_
                refine e_iald dX11_few_96 (ar_40 hn) h.1 ?_
                replace h := h.2
                exact e_iret dX11_few_97 rfl ⟨_, rfl, h⟩
              · replace h := h.2 c36
                refine e_aload_n dX11_few_75 rfl rfl ?_
                refine e_getR (y := 10) dX11_few_76 fl_X11_89 (ob_0 hn) rfl rfl ?_
                refine e_getI dX11_few_79 fl_X11_305 (ob_10 hn) rfl ?_
                refine e_goto (tgt := 97) dX11_few_82 (by decide) ?_
                exact e_iret dX11_few_97 rfl ⟨_, rfl, h⟩
            · replace h := h.2 c35
              refine e_iconst dX11_few_69 ci_m1 ?_
              exact e_iret dX11_few_70 rfl ⟨_, rfl, h⟩
          · replace h := h.2 c22
            refine e_iconst dX11_few_48 ci_m1 ?_
            exact e_iret dX11_few_49 rfl ⟨_, rfl, h⟩
    · replace h := h.2 c19
      refine e_iconst dX11_few_18 ci_1 ?_
      refine e_goto (tgt := 23) dX11_few_19 (by decide) ?_
      refine e_istore dX11_few_23 rfl (by decide) ?_
      refine e_iload_n dX11_few_25 rfl rfl ?_
      refine e_callS (M' := M_X11_isWay) (as := [.int a1]) (rest := []) dX11_few_26 ml_X11_259 mk_X11_isWay rfl (Nat.le_of_ble_eq_true rfl) (show 0 < d by omega) (sp_X11_isWay) Md_nil (fun v σv hq hf => ?_)
      obtain ⟨v, rfl, rfl, rfl⟩ := hq
      refine e_if_eq (tgt := 48) dX11_few_29 (by decide) (fun c37 => ?_) (fun c37 => ?_)
      · replace h := h.1 c37
        refine e_iconst dX11_few_48 ci_m1 ?_
        exact e_iret dX11_few_49 rfl ⟨_, rfl, h⟩
      · replace h := h.2 c37
        refine e_aload_n dX11_few_32 rfl rfl ?_
        refine e_getR (y := 1) dX11_few_33 fl_X11_10 (ob_0 hn) rfl rfl ?_
        refine e_iload_n dX11_few_36 rfl rfl ?_
        refine e_callV (M' := M_X6_isLesson) (as := [.int a2]) (rest := []) dX11_few_37 ml_X11_113 mk_X6_isLesson (ob_1 hn) rfl rfl rfl (Nat.le_of_ble_eq_true rfl) (show 0 < d by omega) (sp_X6_isLesson hn) Md_nil (fun v σv hq hf => ?_)
        obtain ⟨v, rfl, rfl, rfl⟩ := hq
        refine e_if_eq (tgt := 48) dX11_few_40 (by decide) (fun c38 => ?_) (fun c38 => ?_)
        · replace h := h.1 c38
          refine e_iconst dX11_few_48 ci_m1 ?_
          exact e_iret dX11_few_49 rfl ⟨_, rfl, h⟩
        · replace h := h.2 c38
          refine e_iload dX11_few_43 rfl ?_
          refine e_if_ne (tgt := 50) dX11_few_45 (by decide) (fun c39 => ?_) (fun c39 => ?_)
          · replace h := h.1 c39
            refine e_aload_n dX11_few_50 rfl rfl ?_
            refine e_getR (y := 8) dX11_few_51 fl_X11_73 (ob_0 hn) rfl rfl ?_
            refine e_iload_n dX11_few_54 rfl rfl ?_
            obtain ⟨Q40, hc41, h⟩ := h
            refine e_callV (M' := M_X10_run) (as := [.int a1]) (rest := []) dX11_few_55 ml_X11_262 mk_X10_run (ob_8 hn) rfl rfl rfl (Nat.le_of_ble_eq_true rfl) (show 0 < d by omega) hc41 (Md_le (b := md_X11_few) (by decide)) (fun v σ42 hq hf => ?_)
            obtain ⟨rfl, hq⟩ := hq
            replace h := h σ42 hq hf
            refine e_aload_n dX11_few_58 rfl rfl ?_
            refine e_getR (y := 10) dX11_few_59 fl_X11_89 (ob_0 hn) rfl rfl ?_
            refine e_iload_n dX11_few_62 rfl rfl ?_
            obtain ⟨Q46, hc47, h⟩ := h
            refine e_callV (M' := M_X2_find) (as := [.int a2]) (rest := []) dX11_few_63 ml_X11_302 mk_X2_find (ob_10 hn) rfl rfl rfl (Nat.le_of_ble_eq_true rfl) (show 0 < d by omega) hc47 (Md_le (b := md_X11_few) (by decide)) (fun v σ48 hq hf => ?_)
            obtain ⟨v49, rfl, hq⟩ := hq
            replace h := h v49 σ48 hq hf
            refine e_if_ne (tgt := 71) dX11_few_66 (by decide) (fun c52 => ?_) (fun c52 => ?_)
            · replace h := h.1 c52
              refine e_iload_n dX11_few_71 rfl rfl ?_
              refine e_if_ne (tgt := 85) dX11_few_72 (by decide) (fun c53 => ?_) (fun c53 => ?_)
              · replace h := h.1 c53
                refine e_aload_n dX11_few_85 rfl rfl ?_
                refine e_getR (y := 10) dX11_few_86 fl_X11_89 (ob_0 hn) rfl rfl ?_
                refine e_getR (y := 40) dX11_few_89 fl_X11_308 (ob_10 hn) rfl rfl ?_
                refine e_iload_n dX11_few_92 rfl rfl ?_
                refine e_bipush dX11_few_93 cb_10 ?_
                refine e_isub dX11_few_95 ?_
                refine e_iald dX11_few_96 (ar_40 hn) h.1 ?_
                replace h := h.2
                exact e_iret dX11_few_97 rfl ⟨_, rfl, h⟩
              · replace h := h.2 c53
                refine e_aload_n dX11_few_75 rfl rfl ?_
                refine e_getR (y := 10) dX11_few_76 fl_X11_89 (ob_0 hn) rfl rfl ?_
                refine e_getI dX11_few_79 fl_X11_305 (ob_10 hn) rfl ?_
                refine e_goto (tgt := 97) dX11_few_82 (by decide) ?_
                exact e_iret dX11_few_97 rfl ⟨_, rfl, h⟩
            · replace h := h.2 c52
              refine e_iconst dX11_few_69 ci_m1 ?_
              exact e_iret dX11_few_70 rfl ⟨_, rfl, h⟩
          · replace h := h.2 c39
            refine e_iconst dX11_few_48 ci_m1 ?_
            exact e_iret dX11_few_49 rfl ⟨_, rfl, h⟩
abbrev K_X11_judge_2 (d n : Nat) (σ0 : St) (Q : Int32 → St → Prop) (σ : St) (x1 : Int32) : Prop := Ev (d, n, md_X11_judge, σ0, liI Q) M_X11_judge 2 [some (.ref 0), some (.int x1), none] [] σ
abbrev K_X11_judge_74 (d n : Nat) (σ0 : St) (Q : Int32 → St → Prop) (σ : St) (x1 : Int32) : Prop := Ev (d, n, md_X11_judge, σ0, liI Q) M_X11_judge 74 [some (.ref 0), some (.int x1), none] [] σ
theorem B_X11_judge_2 {d n : Nat} {σ0 : St} {Q : Int32 → St → Prop}  {σ : St} {x1 : Int32} (hn : FIX ≤ n) (hd : 1 ≤ d) (h : (((gI σ 3 2) ≤ x1 → ∃ Q2 : St → Prop, Cn (d - 1) n M_X10_run md_X10_run [.ref 8, .int 5] σ (liV Q2) ∧ ∀ (σ4 : St), Q2 σ4 → Fr md_X10_run σ σ4 → K_X11_judge_74 d n σ0 Q σ4 0) ∧ (¬ (gI σ 3 2) ≤ x1 → vp_in x1 8 ∧ ∃ pp8, gR σ x1.toNatClampNeg = some pp8 ∧ IsP n pp8 ∧ ∃ Q9 : St → Prop, Cn (d - 1) n M_X0_ask md_X0_ask [.ref 2, .ref pp8, .int (gI σ pp8 2)] σ (liV Q9) ∧ ∀ (σ11 : St), Q9 σ11 → Fr md_X0_ask σ σ11 → (((gI σ11 2 2) = 0 → K_X11_judge_2 d n σ0 Q σ11 (x1 + 1)) ∧ (¬ (gI σ11 2 2) = 0 → Q ((10 * x1) + (gI σ11 2 2)) σ11))))) : K_X11_judge_2 d n σ0 Q σ x1 := by
  refine e_iload_n dX11_judge_2 rfl rfl ?_
  refine e_aload_n dX11_judge_3 rfl rfl ?_
  refine e_getR (y := 3) dX11_judge_4 fl_X11_30 (ob_0 hn) rfl rfl ?_
  refine e_getI dX11_judge_7 fl_X11_270 (ob_3 hn) rfl ?_
  refine e_icmp_ge (tgt := 64) dX11_judge_10 (by decide) (fun c1 => ?_) (fun c1 => ?_)
  · replace h := h.1 c1
    refine e_aload_n dX11_judge_64 rfl rfl ?_
    refine e_getR (y := 8) dX11_judge_65 fl_X11_73 (ob_0 hn) rfl rfl ?_
    refine e_iconst dX11_judge_68 ci_5 ?_
    obtain ⟨Q2, hc3, h⟩ := h
    refine e_callV (M' := M_X10_run) (as := [.int 5]) (rest := []) dX11_judge_69 ml_X11_262 mk_X10_run (ob_8 hn) rfl rfl rfl (Nat.le_of_ble_eq_true rfl) (show 0 < d by omega) hc3 (Md_le (b := md_X11_judge) (by decide)) (fun v σ4 hq hf => ?_)
    obtain ⟨rfl, hq⟩ := hq
    replace h := h σ4 hq hf
    refine e_iconst dX11_judge_72 ci_0 ?_
    refine e_istore_n dX11_judge_73 rfl rfl (by decide) ?_
    exact h
  · replace h := h.2 c1
    refine e_aload_n dX11_judge_13 rfl rfl ?_
    refine e_getR (y := 3) dX11_judge_14 fl_X11_30 (ob_0 hn) rfl rfl ?_
    refine e_getR (y := 18) dX11_judge_17 fl_X11_140 (ob_3 hn) rfl rfl ?_
    refine e_iload_n dX11_judge_20 rfl rfl ?_
    obtain ⟨hi, pp8, hg, hp_pp8, h⟩ := h
    refine e_aldP dX11_judge_21 hn hi hg ?_
    refine e_astore_n dX11_judge_22 rfl rfl (by decide) ?_
    refine e_aload_n dX11_judge_23 rfl rfl ?_
    refine e_getR (y := 2) dX11_judge_24 fl_X11_21 (ob_0 hn) rfl rfl ?_
    refine e_aload_n dX11_judge_27 rfl rfl ?_
    refine e_aload_n dX11_judge_28 rfl rfl ?_
    refine e_getI dX11_judge_29 fl_X11_256 (Ob.p hp_pp8) rfl ?_
    obtain ⟨Q9, hc10, h⟩ := h
    refine e_callV (M' := M_X0_ask) (as := [.ref pp8, .int (gI σ pp8 2)]) (rest := []) dX11_judge_32 ml_X11_176 mk_X0_ask (ob_2 hn) rfl rfl rfl (Nat.le_of_ble_eq_true rfl) (show 0 < d by omega) hc10 (Md_le (b := md_X11_judge) (by decide)) (fun v σ11 hq hf => ?_)
    obtain ⟨rfl, hq⟩ := hq
    replace h := h σ11 hq hf
    refine e_aload_n dX11_judge_35 rfl rfl ?_
    refine e_getR (y := 2) dX11_judge_36 fl_X11_21 (ob_0 hn) rfl rfl ?_
    refine e_getI dX11_judge_39 fl_X11_180 (ob_2 hn) rfl ?_
    refine e_if_eq (tgt := 58) dX11_judge_42 (by decide) (fun c15 => ?_) (fun c15 => ?_)
    · replace h := h.1 c15
      refine e_iinc dX11_judge_58 rfl (ii_1 _) rfl (by decide) ?_
      refine e_goto (tgt := 2) dX11_judge_61 (by decide) ?_
      refine e_kill [true, true, false] ?_
      exact h
    · replace h := h.2 c15
      refine e_bipush dX11_judge_45 cb_10 ?_
      refine e_iload_n dX11_judge_47 rfl rfl ?_
      refine e_imul dX11_judge_48 ?_
      refine e_aload_n dX11_judge_49 rfl rfl ?_
      refine e_getR (y := 2) dX11_judge_50 fl_X11_21 (ob_0 hn) rfl rfl ?_
      refine e_getI dX11_judge_53 fl_X11_180 (ob_2 hn) rfl ?_
      refine e_iadd dX11_judge_56 ?_
      exact e_iret dX11_judge_57 rfl ⟨_, rfl, h⟩
theorem B_X11_judge_74 {d n : Nat} {σ0 : St} {Q : Int32 → St → Prop}  {σ : St} {x1 : Int32} (hn : FIX ≤ n) (hd : 1 ≤ d) (h : (((gI σ 1 0) ≤ x1 → Q (-1) σ) ∧ (¬ (gI σ 1 0) ≤ x1 → vp_in x1 10 ∧ (((0 : Int32) ≤ (gI σ 35 x1.toNatClampNeg) → K_X11_judge_74 d n σ0 Q σ (x1 + 1)) ∧ (¬ (0 : Int32) ≤ (gI σ 35 x1.toNatClampNeg) → Q (1000 + x1) σ))))) : K_X11_judge_74 d n σ0 Q σ x1 := by
  refine e_iload_n dX11_judge_74 rfl rfl ?_
  refine e_aload_n dX11_judge_75 rfl rfl ?_
  refine e_getR (y := 1) dX11_judge_76 fl_X11_10 (ob_0 hn) rfl rfl ?_
  refine e_getI dX11_judge_79 fl_X11_245 (ob_1 hn) rfl ?_
  refine e_icmp_ge (tgt := 109) dX11_judge_82 (by decide) (fun c1 => ?_) (fun c1 => ?_)
  · replace h := h.1 c1
    refine e_iconst dX11_judge_109 ci_m1 ?_
    exact e_iret dX11_judge_110 rfl ⟨_, rfl, h⟩
  · replace h := h.2 c1
    refine e_aload_n dX11_judge_85 rfl rfl ?_
    refine e_getR (y := 8) dX11_judge_86 fl_X11_73 (ob_0 hn) rfl rfl ?_
    refine e_getR (y := 35) dX11_judge_89 fl_X11_266 (ob_8 hn) rfl rfl ?_
    refine e_iload_n dX11_judge_92 rfl rfl ?_
    refine e_iald dX11_judge_93 (ar_35 hn) h.1 ?_
    replace h := h.2
    refine e_if_ge (tgt := 103) dX11_judge_94 (by decide) (fun c2 => ?_) (fun c2 => ?_)
    · replace h := h.1 c2
      refine e_iinc dX11_judge_103 rfl (ii_1 _) rfl (by decide) ?_
      refine e_goto (tgt := 74) dX11_judge_106 (by decide) ?_
      exact h
    · replace h := h.2 c2
      refine e_sipush dX11_judge_97 cs_1000 ?_
      refine e_iload_n dX11_judge_100 rfl rfl ?_
      refine e_iadd dX11_judge_101 ?_
      exact e_iret dX11_judge_102 rfl ⟨_, rfl, h⟩
theorem S_X11_judge {d n : Nat} {Q : Int32 → St → Prop} {σ : St}  (hn : FIX ≤ n) (hd : 1 ≤ d) (h : K_X11_judge_2 d n σ Q σ 0) : Cn d n M_X11_judge md_X11_judge [.ref 0] σ (liI Q) := by
  refine Cn.of (k0 := 2) (by decide) rfl ?_
  show Ev (d, n, md_X11_judge, σ, liI Q) M_X11_judge 0 [some (.ref 0), none, none] [] σ
  refine e_iconst dX11_judge_0 ci_0 ?_
  refine e_istore_n dX11_judge_1 rfl rfl (by decide) ?_
  exact h
abbrev K_X11_total_4 (d n : Nat) (σ0 : St) (Q : Int32 → St → Prop) (σ : St) (q1 : Nat) (N1 : Nat) (x1 : Int32) (x2 : Int32) : Prop := Ev (d, n, md_X11_total, σ0, liI Q) M_X11_total 4 [some (.ref q1), some (.int x1), some (.int x2)] [] σ
theorem B_X11_total_4 {d n : Nat} {σ0 : St} {Q : Int32 → St → Prop}  {σ : St} {q1 : Nat} {N1 : Nat} {x1 : Int32} {x2 : Int32} (ha_q1 : Ar n q1 20 N1) (h : (((Int32.ofNat N1) ≤ x2 → Q x1 σ) ∧ (¬ (Int32.ofNat N1) ≤ x2 → vp_in x2 N1 ∧ K_X11_total_4 d n σ0 Q σ q1 N1 (x1 + (gI σ q1 x2.toNatClampNeg)) (x2 + 1)))) : K_X11_total_4 d n σ0 Q σ q1 N1 x1 x2 := by
  refine e_iload_n dX11_total_4 rfl rfl ?_
  refine e_aload_n dX11_total_5 rfl rfl ?_
  refine e_alen dX11_total_6 ha_q1 rfl ?_
  refine e_icmp_ge (tgt := 22) dX11_total_7 (by decide) (fun c1 => ?_) (fun c1 => ?_)
  · replace h := h.1 c1
    refine e_iload_n dX11_total_22 rfl rfl ?_
    exact e_iret dX11_total_23 rfl ⟨_, rfl, h⟩
  · replace h := h.2 c1
    refine e_iload_n dX11_total_10 rfl rfl ?_
    refine e_aload_n dX11_total_11 rfl rfl ?_
    refine e_iload_n dX11_total_12 rfl rfl ?_
    refine e_iald dX11_total_13 ha_q1 h.1 ?_
    replace h := h.2
    refine e_iadd dX11_total_14 ?_
    refine e_istore_n dX11_total_15 rfl rfl (by decide) ?_
    refine e_iinc dX11_total_16 rfl (ii_1 _) rfl (by decide) ?_
    refine e_goto (tgt := 4) dX11_total_19 (by decide) ?_
    exact h
theorem S_X11_total {d n : Nat} {Q : Int32 → St → Prop} {σ : St} {q1 : Nat} {N1 : Nat} (ha_q1 : Ar n q1 20 N1) (h : K_X11_total_4 d n σ Q σ q1 N1 0 0) : Cn d n M_X11_total md_X11_total [.ref q1] σ (liI Q) := by
  refine Cn.of (k0 := 2) (by decide) rfl ?_
  show Ev (d, n, md_X11_total, σ, liI Q) M_X11_total 0 [some (.ref q1), none, none] [] σ
  refine e_iconst dX11_total_0 ci_0 ?_
  refine e_istore_n dX11_total_1 rfl rfl (by decide) ?_
  refine e_iconst dX11_total_2 ci_0 ?_
  refine e_istore_n dX11_total_3 rfl rfl (by decide) ?_
  exact h
theorem S_X11_count {d n : Nat} {Q : Int32 → St → Prop} {σ : St} {a1 : Int32} (hn : FIX ≤ n) (hd : 1 ≤ d) (h : ((a1.toInt = 0 → Q (gI σ 1 0) σ) ∧ (a1.toInt = 1 → Q (gI σ 3 2) σ) ∧ (a1.toInt = 2 → Q (gI σ 1 2) σ) ∧ (a1.toInt = 3 → Q (gI σ 1 1) σ) ∧ (a1.toInt = 4 → Q (gI σ 6 3) σ) ∧ (a1.toInt = 5 → Q (gI σ 4 0) σ) ∧ (a1.toInt = 6 → ∃ Q2 : Int32 → St → Prop, Cn (d - 1) n M_X11_total md_X11_total [.ref 12] σ (liI Q2) ∧ ∀ (v5 : Int32) (σ4 : St), Q2 v5 σ4 → Fr md_X11_total σ σ4 → Q v5 σ4) ∧ (a1.toInt = 7 → ∃ Q8 : Int32 → St → Prop, Cn (d - 1) n M_X11_total md_X11_total [.ref 24] σ (liI Q8) ∧ ∀ (v11 : Int32) (σ10 : St), Q8 v11 σ10 → Fr md_X11_total σ σ10 → Q v11 σ10) ∧ (a1.toInt = 8 → ∃ Q14 : Int32 → St → Prop, Cn (d - 1) n M_X1_allMoney md_X1_allMoney [.ref 3] σ (liI Q14) ∧ ∀ (v17 : Int32) (σ16 : St), Q14 v17 σ16 → Fr md_X1_allMoney σ σ16 → Q v17 σ16) ∧ (a1.toInt = 9 → (((gI σ 0 11) = 0 → Q 0 σ) ∧ (¬ (gI σ 0 11) = 0 → Q 1 σ))) ∧ (a1.toInt < 0 ∨ 9 < a1.toInt → Q (-1) σ))) : Cn d n M_X11_count md_X11_count [.ref 0, .int a1] σ (liI Q) := by
  refine Cn.of (k0 := 0) (by decide) rfl ?_
  show Ev (d, n, md_X11_count, σ, liI Q) M_X11_count 0 [some (.ref 0), some (.int a1)] [] σ
  refine e_iload_n dX11_count_0 rfl rfl ?_
  by_cases c1 : a1.toInt < 0 ∨ 9 < a1.toInt
  · refine e_tableOut (tgt := 147) dX11_count_1 c1 (by decide) ?_
    replace h := h.2.2.2.2.2.2.2.2.2.2 c1
    refine e_iconst dX11_count_147 ci_m1 ?_
    exact e_iret dX11_count_148 rfl ⟨_, rfl, h⟩
  · rcases (show a1.toInt = 0 ∨ a1.toInt = 1 ∨ a1.toInt = 2 ∨ a1.toInt = 3 ∨ a1.toInt = 4 ∨ a1.toInt = 5 ∨ a1.toInt = 6 ∨ a1.toInt = 7 ∨ a1.toInt = 8 ∨ a1.toInt = 9 by omega) with c1 | c1 | c1 | c1 | c1 | c1 | c1 | c1 | c1 | c1
    · refine e_tableIn (tgt := 56) (off := 55) dX11_count_1 (by omega) (by omega) (by rw [c1]; rfl) (by decide) ?_
      replace h := h.1 c1
      refine e_aload_n dX11_count_56 rfl rfl ?_
      refine e_getR (y := 1) dX11_count_57 fl_X11_10 (ob_0 hn) rfl rfl ?_
      refine e_getI dX11_count_60 fl_X11_245 (ob_1 hn) rfl ?_
      exact e_iret dX11_count_63 rfl ⟨_, rfl, h⟩
    · refine e_tableIn (tgt := 64) (off := 63) dX11_count_1 (by omega) (by omega) (by rw [c1]; rfl) (by decide) ?_
      replace h := h.2.1 c1
      refine e_aload_n dX11_count_64 rfl rfl ?_
      refine e_getR (y := 3) dX11_count_65 fl_X11_30 (ob_0 hn) rfl rfl ?_
      refine e_getI dX11_count_68 fl_X11_270 (ob_3 hn) rfl ?_
      exact e_iret dX11_count_71 rfl ⟨_, rfl, h⟩
    · refine e_tableIn (tgt := 72) (off := 71) dX11_count_1 (by omega) (by omega) (by rw [c1]; rfl) (by decide) ?_
      replace h := h.2.2.1 c1
      refine e_aload_n dX11_count_72 rfl rfl ?_
      refine e_getR (y := 1) dX11_count_73 fl_X11_10 (ob_0 hn) rfl rfl ?_
      refine e_getI dX11_count_76 fl_X11_311 (ob_1 hn) rfl ?_
      exact e_iret dX11_count_79 rfl ⟨_, rfl, h⟩
    · refine e_tableIn (tgt := 80) (off := 79) dX11_count_1 (by omega) (by omega) (by rw [c1]; rfl) (by decide) ?_
      replace h := h.2.2.2.1 c1
      refine e_aload_n dX11_count_80 rfl rfl ?_
      refine e_getR (y := 1) dX11_count_81 fl_X11_10 (ob_0 hn) rfl rfl ?_
      refine e_getI dX11_count_84 fl_X11_125 (ob_1 hn) rfl ?_
      exact e_iret dX11_count_87 rfl ⟨_, rfl, h⟩
    · refine e_tableIn (tgt := 88) (off := 87) dX11_count_1 (by omega) (by omega) (by rw [c1]; rfl) (by decide) ?_
      replace h := h.2.2.2.2.1 c1
      refine e_aload_n dX11_count_88 rfl rfl ?_
      refine e_getR (y := 6) dX11_count_89 fl_X11_55 (ob_0 hn) rfl rfl ?_
      refine e_getI dX11_count_92 fl_X11_190 (ob_6 hn) rfl ?_
      exact e_iret dX11_count_95 rfl ⟨_, rfl, h⟩
    · refine e_tableIn (tgt := 96) (off := 95) dX11_count_1 (by omega) (by omega) (by rw [c1]; rfl) (by decide) ?_
      replace h := h.2.2.2.2.2.1 c1
      refine e_aload_n dX11_count_96 rfl rfl ?_
      refine e_getR (y := 4) dX11_count_97 fl_X11_37 (ob_0 hn) rfl rfl ?_
      refine e_getI dX11_count_100 fl_X11_151 (ob_4 hn) rfl ?_
      exact e_iret dX11_count_103 rfl ⟨_, rfl, h⟩
    · refine e_tableIn (tgt := 104) (off := 103) dX11_count_1 (by omega) (by omega) (by rw [c1]; rfl) (by decide) ?_
      replace h := h.2.2.2.2.2.2.1 c1
      refine e_aload_n dX11_count_104 rfl rfl ?_
      refine e_getR (y := 1) dX11_count_105 fl_X11_10 (ob_0 hn) rfl rfl ?_
      refine e_getR (y := 12) dX11_count_108 fl_X11_117 (ob_1 hn) rfl rfl ?_
      obtain ⟨Q2, hc3, h⟩ := h
      refine e_callS (M' := M_X11_total) (as := [.ref 12]) (rest := []) dX11_count_111 ml_X11_314 mk_X11_total rfl (Nat.le_of_ble_eq_true rfl) (show 0 < d by omega) hc3 (Md_le (b := md_X11_count) (by decide)) (fun v σ4 hq hf => ?_)
      obtain ⟨v5, rfl, hq⟩ := hq
      replace h := h v5 σ4 hq hf
      exact e_iret dX11_count_114 rfl ⟨_, rfl, h⟩
    · refine e_tableIn (tgt := 115) (off := 114) dX11_count_1 (by omega) (by omega) (by rw [c1]; rfl) (by decide) ?_
      replace h := h.2.2.2.2.2.2.2.1 c1
      refine e_aload_n dX11_count_115 rfl rfl ?_
      refine e_getR (y := 6) dX11_count_116 fl_X11_55 (ob_0 hn) rfl rfl ?_
      refine e_getR (y := 24) dX11_count_119 fl_X11_187 (ob_6 hn) rfl rfl ?_
      obtain ⟨Q8, hc9, h⟩ := h
      refine e_callS (M' := M_X11_total) (as := [.ref 24]) (rest := []) dX11_count_122 ml_X11_314 mk_X11_total rfl (Nat.le_of_ble_eq_true rfl) (show 0 < d by omega) hc9 (Md_le (b := md_X11_count) (by decide)) (fun v σ10 hq hf => ?_)
      obtain ⟨v11, rfl, hq⟩ := hq
      replace h := h v11 σ10 hq hf
      exact e_iret dX11_count_125 rfl ⟨_, rfl, h⟩
    · refine e_tableIn (tgt := 126) (off := 125) dX11_count_1 (by omega) (by omega) (by rw [c1]; rfl) (by decide) ?_
      replace h := h.2.2.2.2.2.2.2.2.1 c1
      refine e_aload_n dX11_count_126 rfl rfl ?_
      refine e_getR (y := 3) dX11_count_127 fl_X11_30 (ob_0 hn) rfl rfl ?_
      obtain ⟨Q14, hc15, h⟩ := h
      refine e_callV (M' := M_X1_allMoney) (as := []) (rest := []) dX11_count_130 ml_X11_316 mk_X1_allMoney (ob_3 hn) rfl rfl rfl (Nat.le_of_ble_eq_true rfl) (show 0 < d by omega) hc15 (Md_le (b := md_X11_count) (by decide)) (fun v σ16 hq hf => ?_)
      obtain ⟨v17, rfl, hq⟩ := hq
      replace h := h v17 σ16 hq hf
      exact e_iret dX11_count_133 rfl ⟨_, rfl, h⟩
    · refine e_tableIn (tgt := 134) (off := 133) dX11_count_1 (by omega) (by omega) (by rw [c1]; rfl) (by decide) ?_
      replace h := h.2.2.2.2.2.2.2.2.2.1 c1
      refine e_aload_n dX11_count_134 rfl rfl ?_
      refine e_getI dX11_count_135 fl_X11_173 (ob_0 hn) rfl ?_
      refine e_if_eq (tgt := 145) dX11_count_138 (by decide) (fun c20 => ?_) (fun c20 => ?_)
      · replace h := h.1 c20
        refine e_iconst dX11_count_145 ci_0 ?_
        exact e_iret dX11_count_146 rfl ⟨_, rfl, h⟩
      · replace h := h.2 c20
        refine e_iconst dX11_count_141 ci_1 ?_
        refine e_goto (tgt := 146) dX11_count_142 (by decide) ?_
        exact e_iret dX11_count_146 rfl ⟨_, rfl, h⟩
