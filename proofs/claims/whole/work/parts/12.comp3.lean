theorem S_X7_atom {d n : Nat} {Q : Int32 → St → Prop} {σ : St} {a1 : Int32} (hn : FIX ≤ n) (hd : 1 ≤ d) (h : pre_X7_kind σ ∧ (((fn_X7_kind σ) ≠ 256 → (((fn_X7_kind σ) < 8 → (((fn_X7_kind σ) ≠ 7 → (((fn_X7_kind σ) ≠ 40 → Q 0 σ) ∧ ((fn_X7_kind σ) = 40 → ((a1 < 9 → ∃ Q6 : Int32 → St → Prop, Cn (d - 1) n M_X7_take md_X7_take [.ref 5, .int (fn_X7_kind σ)] σ (liI Q6) ∧ ∀ (v9 : Int32) (σ8 : St), Q6 v9 σ8 → Fr md_X7_take σ σ8 → ∃ Q12 : Int32 → St → Prop, Cn (d - 1) n M_X7_expression md_X7_expression [.ref 5, .int (a1 + 1)] σ8 (liI Q12) ∧ ∀ (v15 : Int32) (σ14 : St), Q12 v15 σ14 → Fr md_X7_expression σ8 σ14 → ((v15 = 0 → Q 0 σ14) ∧ (¬ v15 = 0 → ∃ Q19 : Int32 → St → Prop, Cn (d - 1) n M_X7_take md_X7_take [.ref 5, .int 41] σ14 (liI Q19) ∧ ∀ (v22 : Int32) (σ21 : St), Q19 v22 σ21 → Fr md_X7_take σ14 σ21 → ((v22 = 0 → Q 0 σ21) ∧ (¬ v22 = 0 → Q 1 σ21))))) ∧ (¬ a1 < 9 → Q 0 σ))))) ∧ ((fn_X7_kind σ) = 7 → ∃ Q26 : Int32 → St → Prop, Cn (d - 1) n M_X7_take md_X7_take [.ref 5, .int (fn_X7_kind σ)] σ (liI Q26) ∧ ∀ (v29 : Int32) (σ28 : St), Q26 v29 σ28 → Fr md_X7_take σ σ28 → pre_X7_kind σ28 ∧ (((fn_X7_kind σ28) ≠ 256 → Q 0 σ28) ∧ ((fn_X7_kind σ28) = 256 → vp_in (gI σ28 5 1) 401 ∧ (((gI σ28 22 (gI σ28 5 1).toNatClampNeg) < 10 → vp_in (gI σ28 5 1) 401 ∧ ∃ Q34 : St → Prop, Cn (d - 1) n M_X7_emit md_X7_emit [.ref 5, .int (gI σ28 22 (gI σ28 5 1).toNatClampNeg)] σ28 (liV Q34) ∧ ∀ (σ36 : St), Q34 σ36 → Fr md_X7_emit σ28 σ36 → ∃ Q40 : St → Prop, Cn (d - 1) n M_X7_emit md_X7_emit [.ref 5, .int (-7)] σ36 (liV Q40) ∧ ∀ (σ42 : St), Q40 σ42 → Fr md_X7_emit σ36 σ42 → ∃ Q46 : Int32 → St → Prop, Cn (d - 1) n M_X7_take md_X7_take [.ref 5, .int 256] σ42 (liI Q46) ∧ ∀ (v49 : Int32) (σ48 : St), Q46 v49 σ48 → Fr md_X7_take σ42 σ48 → (v49 = 0 ∨ v49 = 1) ∧ Q v49 σ48) ∧ (¬ (gI σ28 22 (gI σ28 5 1).toNatClampNeg) < 10 → Q 0 σ28))))))) ∧ (¬ (fn_X7_kind σ) < 8 → (((13 : Int32) < (fn_X7_kind σ) → (((fn_X7_kind σ) ≠ 7 → (((fn_X7_kind σ) ≠ 40 → Q 0 σ) ∧ ((fn_X7_kind σ) = 40 → ((a1 < 9 → ∃ Q56 : Int32 → St → Prop, Cn (d - 1) n M_X7_take md_X7_take [.ref 5, .int (fn_X7_kind σ)] σ (liI Q56) ∧ ∀ (v59 : Int32) (σ58 : St), Q56 v59 σ58 → Fr md_X7_take σ σ58 → ∃ Q62 : Int32 → St → Prop, Cn (d - 1) n M_X7_expression md_X7_expression [.ref 5, .int (a1 + 1)] σ58 (liI Q62) ∧ ∀ (v65 : Int32) (σ64 : St), Q62 v65 σ64 → Fr md_X7_expression σ58 σ64 → ((v65 = 0 → Q 0 σ64) ∧ (¬ v65 = 0 → ∃ Q69 : Int32 → St → Prop, Cn (d - 1) n M_X7_take md_X7_take [.ref 5, .int 41] σ64 (liI Q69) ∧ ∀ (v72 : Int32) (σ71 : St), Q69 v72 σ71 → Fr md_X7_take σ64 σ71 → ((v72 = 0 → Q 0 σ71) ∧ (¬ v72 = 0 → Q 1 σ71))))) ∧ (¬ a1 < 9 → Q 0 σ))))) ∧ ((fn_X7_kind σ) = 7 → ∃ Q76 : Int32 → St → Prop, Cn (d - 1) n M_X7_take md_X7_take [.ref 5, .int (fn_X7_kind σ)] σ (liI Q76) ∧ ∀ (v79 : Int32) (σ78 : St), Q76 v79 σ78 → Fr md_X7_take σ σ78 → pre_X7_kind σ78 ∧ (((fn_X7_kind σ78) ≠ 256 → Q 0 σ78) ∧ ((fn_X7_kind σ78) = 256 → vp_in (gI σ78 5 1) 401 ∧ (((gI σ78 22 (gI σ78 5 1).toNatClampNeg) < 10 → vp_in (gI σ78 5 1) 401 ∧ ∃ Q84 : St → Prop, Cn (d - 1) n M_X7_emit md_X7_emit [.ref 5, .int (gI σ78 22 (gI σ78 5 1).toNatClampNeg)] σ78 (liV Q84) ∧ ∀ (σ86 : St), Q84 σ86 → Fr md_X7_emit σ78 σ86 → ∃ Q90 : St → Prop, Cn (d - 1) n M_X7_emit md_X7_emit [.ref 5, .int (-7)] σ86 (liV Q90) ∧ ∀ (σ92 : St), Q90 σ92 → Fr md_X7_emit σ86 σ92 → ∃ Q96 : Int32 → St → Prop, Cn (d - 1) n M_X7_take md_X7_take [.ref 5, .int 256] σ92 (liI Q96) ∧ ∀ (v99 : Int32) (σ98 : St), Q96 v99 σ98 → Fr md_X7_take σ92 σ98 → (v99 = 0 ∨ v99 = 1) ∧ Q v99 σ98) ∧ (¬ (gI σ78 22 (gI σ78 5 1).toNatClampNeg) < 10 → Q 0 σ78))))))) ∧ (¬ (13 : Int32) < (fn_X7_kind σ) → ∃ Q102 : St → Prop, Cn (d - 1) n M_X7_emit md_X7_emit [.ref 5, .int (-(fn_X7_kind σ))] σ (liV Q102) ∧ ∀ (σ104 : St), Q102 σ104 → Fr md_X7_emit σ σ104 → ∃ Q108 : Int32 → St → Prop, Cn (d - 1) n M_X7_take md_X7_take [.ref 5, .int (fn_X7_kind σ)] σ104 (liI Q108) ∧ ∀ (v111 : Int32) (σ110 : St), Q108 v111 σ110 → Fr md_X7_take σ104 σ110 → (v111 = 0 ∨ v111 = 1) ∧ Q v111 σ110))))) ∧ ((fn_X7_kind σ) = 256 → vp_in (gI σ 5 1) 401 ∧ ∃ Q114 : St → Prop, Cn (d - 1) n M_X7_emit md_X7_emit [.ref 5, .int (gI σ 22 (gI σ 5 1).toNatClampNeg)] σ (liV Q114) ∧ ∀ (σ116 : St), Q114 σ116 → Fr md_X7_emit σ σ116 → ∃ Q120 : Int32 → St → Prop, Cn (d - 1) n M_X7_take md_X7_take [.ref 5, .int (fn_X7_kind σ)] σ116 (liI Q120) ∧ ∀ (v123 : Int32) (σ122 : St), Q120 v123 σ122 → Fr md_X7_take σ116 σ122 → (v123 = 0 ∨ v123 = 1) ∧ Q v123 σ122))) : Cn d n M_X7_atom md_X7_atom [.ref 5, .int a1] σ (liI Q) := by
  refine Cn.of (k0 := 1) (by decide) rfl ?_
  show Ev (d, n, md_X7_atom, σ, liI Q) M_X7_atom 0 [some (.ref 5), some (.int a1), none] [] σ
  refine e_aload_n dX7_atom_0 rfl rfl ?_
  refine e_callV (M' := M_X7_kind) (as := []) (rest := []) dX7_atom_1 ml_X7_35 mk_X7_kind (ob_5 hn) rfl rfl rfl (Nat.le_of_ble_eq_true rfl) (show 0 < d by omega) (sp_X7_kind hn h.1) Md_nil (fun v σv hq hf => ?_)
  obtain ⟨v, rfl, rfl, rfl⟩ := hq
  replace h := h.2
  refine e_istore_n dX7_atom_4 rfl rfl (by decide) ?_
  refine e_iload_n dX7_atom_5 rfl rfl ?_
  refine e_sipush dX7_atom_6 cs_256 ?_
  refine e_icmp_ne (tgt := 34) dX7_atom_9 (by decide) (fun c1 => ?_) (fun c1 => ?_)
  · replace h := h.1 c1
    refine e_iload_n dX7_atom_34 rfl rfl ?_
    refine e_bipush dX7_atom_35 cb_8 ?_
    refine e_icmp_lt (tgt := 58) dX7_atom_37 (by decide) (fun c2 => ?_) (fun c2 => ?_)
    · replace h := h.1 c2
      refine e_iload_n dX7_atom_58 rfl rfl ?_
      refine e_bipush dX7_atom_59 cb_7 ?_
      refine e_icmp_ne (tgt := 129) dX7_atom_61 (by decide) (fun c3 => ?_) (fun c3 => ?_)
      · replace h := h.1 c3
        refine e_iload_n dX7_atom_129 rfl rfl ?_
        refine e_bipush dX7_atom_130 cb_40 ?_
        refine e_icmp_ne (tgt := 141) dX7_atom_132 (by decide) (fun c4 => ?_) (fun c4 => ?_)
        · replace h := h.1 c4
          refine e_iconst dX7_atom_141 ci_0 ?_
          exact e_zret dX7_atom_142 rfl (nar_z (Or.inl rfl)) ⟨_, rfl, h⟩
        · replace h := h.2 c4
          refine e_iload_n dX7_atom_135 rfl rfl ?_
          refine e_bipush dX7_atom_136 cb_9 ?_
          refine e_icmp_lt (tgt := 143) dX7_atom_138 (by decide) (fun c5 => ?_) (fun c5 => ?_)
          · replace h := h.1 c5
            refine e_aload_n dX7_atom_143 rfl rfl ?_
            refine e_iload_n dX7_atom_144 rfl rfl ?_
            obtain ⟨Q6, hc7, h⟩ := h
            refine e_callV (M' := M_X7_take) (as := [.int (fn_X7_kind σ)]) (rest := []) dX7_atom_145 ml_X7_52 mk_X7_take (ob_5 hn) rfl rfl rfl (Nat.le_of_ble_eq_true rfl) (show 0 < d by omega) hc7 (Md_le (b := md_X7_atom) (by decide)) (fun v σ8 hq hf => ?_)
            obtain ⟨v9, rfl, hq⟩ := hq
            replace h := h v9 σ8 hq hf
            refine e_pop dX7_atom_148 rfl ?_
            refine e_aload_n dX7_atom_149 rfl rfl ?_
            refine e_iload_n dX7_atom_150 rfl rfl ?_
            refine e_iconst dX7_atom_151 ci_1 ?_
            refine e_iadd dX7_atom_152 ?_
            obtain ⟨Q12, hc13, h⟩ := h
            refine e_callV (M' := M_X7_expression) (as := [.int (a1 + 1)]) (rest := []) dX7_atom_153 ml_X7_56 mk_X7_expression (ob_5 hn) rfl rfl rfl (Nat.le_of_ble_eq_true rfl) (show 0 < d by omega) hc13 (Md_le (b := md_X7_atom) (by decide)) (fun v σ14 hq hf => ?_)
            obtain ⟨v15, rfl, hq⟩ := hq
            replace h := h v15 σ14 hq hf
            refine e_if_eq (tgt := 172) dX7_atom_156 (by decide) (fun c18 => ?_) (fun c18 => ?_)
            · replace h := h.1 c18
              refine e_iconst dX7_atom_172 ci_0 ?_
              exact e_zret dX7_atom_173 rfl (nar_z (Or.inl rfl)) ⟨_, rfl, h⟩
            · replace h := h.2 c18
              refine e_aload_n dX7_atom_159 rfl rfl ?_
              refine e_bipush dX7_atom_160 cb_41 ?_
              obtain ⟨Q19, hc20, h⟩ := h
              refine e_callV (M' := M_X7_take) (as := [.int 41]) (rest := []) dX7_atom_162 ml_X7_52 mk_X7_take (ob_5 hn) rfl rfl rfl (Nat.le_of_ble_eq_true rfl) (show 0 < d by omega) hc20 (Md_le (b := md_X7_atom) (by decide)) (fun v σ21 hq hf => ?_)
              obtain ⟨v22, rfl, hq⟩ := hq
              replace h := h v22 σ21 hq hf
              refine e_if_eq (tgt := 172) dX7_atom_165 (by decide) (fun c25 => ?_) (fun c25 => ?_)
              · replace h := h.1 c25
                refine e_iconst dX7_atom_172 ci_0 ?_
                exact e_zret dX7_atom_173 rfl (nar_z (Or.inl rfl)) ⟨_, rfl, h⟩
              · replace h := h.2 c25
                refine e_iconst dX7_atom_168 ci_1 ?_
                refine e_goto (tgt := 173) dX7_atom_169 (by decide) ?_
                exact e_zret dX7_atom_173 rfl (nar_z (Or.inr rfl)) ⟨_, rfl, h⟩
          · replace h := h.2 c5
            refine e_iconst dX7_atom_141 ci_0 ?_
            exact e_zret dX7_atom_142 rfl (nar_z (Or.inl rfl)) ⟨_, rfl, h⟩
      · replace h := h.2 c3
        refine e_aload_n dX7_atom_64 rfl rfl ?_
        refine e_iload_n dX7_atom_65 rfl rfl ?_
        obtain ⟨Q26, hc27, h⟩ := h
        refine e_callV (M' := M_X7_take) (as := [.int (fn_X7_kind σ)]) (rest := []) dX7_atom_66 ml_X7_52 mk_X7_take (ob_5 hn) rfl rfl rfl (Nat.le_of_ble_eq_true rfl) (show 0 < d by omega) hc27 (Md_le (b := md_X7_atom) (by decide)) (fun v σ28 hq hf => ?_)
        obtain ⟨v29, rfl, hq⟩ := hq
        replace h := h v29 σ28 hq hf
        refine e_pop dX7_atom_69 rfl ?_
        refine e_aload_n dX7_atom_70 rfl rfl ?_
        refine e_callV (M' := M_X7_kind) (as := []) (rest := []) dX7_atom_71 ml_X7_35 mk_X7_kind (ob_5 hn) rfl rfl rfl (Nat.le_of_ble_eq_true rfl) (show 0 < d by omega) (sp_X7_kind hn h.1) Md_nil (fun v σv hq hf => ?_)
        obtain ⟨v, rfl, rfl, rfl⟩ := hq
        replace h := h.2
        refine e_sipush dX7_atom_74 cs_256 ?_
        refine e_icmp_ne (tgt := 97) dX7_atom_77 (by decide) (fun c32 => ?_) (fun c32 => ?_)
        · replace h := h.1 c32
          refine e_iconst dX7_atom_97 ci_0 ?_
          exact e_zret dX7_atom_98 rfl (nar_z (Or.inl rfl)) ⟨_, rfl, h⟩
        · replace h := h.2 c32
          refine e_aload_n dX7_atom_80 rfl rfl ?_
          refine e_getR (y := 4) dX7_atom_81 fl_X7_19 (ob_5 hn) rfl rfl ?_
          refine e_getR (y := 22) dX7_atom_84 fl_X7_75 (ob_4 hn) rfl rfl ?_
          refine e_aload_n dX7_atom_87 rfl rfl ?_
          refine e_getI dX7_atom_88 fl_X7_29 (ob_5 hn) rfl ?_
          refine e_iald dX7_atom_91 (ar_22 hn) h.1 ?_
          replace h := h.2
          refine e_bipush dX7_atom_92 cb_10 ?_
          refine e_icmp_lt (tgt := 99) dX7_atom_94 (by decide) (fun c33 => ?_) (fun c33 => ?_)
          · replace h := h.1 c33
            refine e_aload_n dX7_atom_99 rfl rfl ?_
            refine e_aload_n dX7_atom_100 rfl rfl ?_
            refine e_getR (y := 4) dX7_atom_101 fl_X7_19 (ob_5 hn) rfl rfl ?_
            refine e_getR (y := 22) dX7_atom_104 fl_X7_75 (ob_4 hn) rfl rfl ?_
            refine e_aload_n dX7_atom_107 rfl rfl ?_
            refine e_getI dX7_atom_108 fl_X7_29 (ob_5 hn) rfl ?_
            refine e_iald dX7_atom_111 (ar_22 hn) h.1 ?_
            replace h := h.2
            obtain ⟨Q34, hc35, h⟩ := h
            refine e_callV (M' := M_X7_emit) (as := [.int (gI σ28 22 (gI σ28 5 1).toNatClampNeg)]) (rest := []) dX7_atom_112 ml_X7_62 mk_X7_emit (ob_5 hn) rfl rfl rfl (Nat.le_of_ble_eq_true rfl) (show 0 < d by omega) hc35 (Md_le (b := md_X7_atom) (by decide)) (fun v σ36 hq hf => ?_)
            obtain ⟨rfl, hq⟩ := hq
            replace h := h σ36 hq hf
            refine e_aload_n dX7_atom_115 rfl rfl ?_
            refine e_bipush dX7_atom_116 cb_m7 ?_
            obtain ⟨Q40, hc41, h⟩ := h
            refine e_callV (M' := M_X7_emit) (as := [.int (-7)]) (rest := []) dX7_atom_118 ml_X7_62 mk_X7_emit (ob_5 hn) rfl rfl rfl (Nat.le_of_ble_eq_true rfl) (show 0 < d by omega) hc41 (Md_le (b := md_X7_atom) (by decide)) (fun v σ42 hq hf => ?_)
            obtain ⟨rfl, hq⟩ := hq
            replace h := h σ42 hq hf
            refine e_aload_n dX7_atom_121 rfl rfl ?_
            refine e_sipush dX7_atom_122 cs_256 ?_
            obtain ⟨Q46, hc47, h⟩ := h
            refine e_callV (M' := M_X7_take) (as := [.int 256]) (rest := []) dX7_atom_125 ml_X7_52 mk_X7_take (ob_5 hn) rfl rfl rfl (Nat.le_of_ble_eq_true rfl) (show 0 < d by omega) hc47 (Md_le (b := md_X7_atom) (by decide)) (fun v σ48 hq hf => ?_)
            obtain ⟨v49, rfl, hq⟩ := hq
            replace h := h v49 σ48 hq hf
            exact e_zret dX7_atom_128 rfl (nar_z h.1) ⟨_, rfl, h.2⟩
          · replace h := h.2 c33
            refine e_iconst dX7_atom_97 ci_0 ?_
            exact e_zret dX7_atom_98 rfl (nar_z (Or.inl rfl)) ⟨_, rfl, h⟩
    · replace h := h.2 c2
      refine e_iload_n dX7_atom_40 rfl rfl ?_
      refine e_bipush dX7_atom_41 cb_13 ?_
      refine e_icmp_gt (tgt := 58) dX7_atom_43 (by decide) (fun c52 => ?_) (fun c52 => ?_)
      · replace h := h.1 c52
        refine e_iload_n dX7_atom_58 rfl rfl ?_
        refine e_bipush dX7_atom_59 cb_7 ?_
        refine e_icmp_ne (tgt := 129) dX7_atom_61 (by decide) (fun c53 => ?_) (fun c53 => ?_)
        · replace h := h.1 c53
          refine e_iload_n dX7_atom_129 rfl rfl ?_
          refine e_bipush dX7_atom_130 cb_40 ?_
          refine e_icmp_ne (tgt := 141) dX7_atom_132 (by decide) (fun c54 => ?_) (fun c54 => ?_)
          · replace h := h.1 c54
            refine e_iconst dX7_atom_141 ci_0 ?_
            exact e_zret dX7_atom_142 rfl (nar_z (Or.inl rfl)) ⟨_, rfl, h⟩
          · replace h := h.2 c54
            refine e_iload_n dX7_atom_135 rfl rfl ?_
            refine e_bipush dX7_atom_136 cb_9 ?_
            refine e_icmp_lt (tgt := 143) dX7_atom_138 (by decide) (fun c55 => ?_) (fun c55 => ?_)
            · replace h := h.1 c55
              refine e_aload_n dX7_atom_143 rfl rfl ?_
              refine e_iload_n dX7_atom_144 rfl rfl ?_
              obtain ⟨Q56, hc57, h⟩ := h
              refine e_callV (M' := M_X7_take) (as := [.int (fn_X7_kind σ)]) (rest := []) dX7_atom_145 ml_X7_52 mk_X7_take (ob_5 hn) rfl rfl rfl (Nat.le_of_ble_eq_true rfl) (show 0 < d by omega) hc57 (Md_le (b := md_X7_atom) (by decide)) (fun v σ58 hq hf => ?_)
              obtain ⟨v59, rfl, hq⟩ := hq
              replace h := h v59 σ58 hq hf
              refine e_pop dX7_atom_148 rfl ?_
              refine e_aload_n dX7_atom_149 rfl rfl ?_
              refine e_iload_n dX7_atom_150 rfl rfl ?_
              refine e_iconst dX7_atom_151 ci_1 ?_
              refine e_iadd dX7_atom_152 ?_
              obtain ⟨Q62, hc63, h⟩ := h
              refine e_callV (M' := M_X7_expression) (as := [.int (a1 + 1)]) (rest := []) dX7_atom_153 ml_X7_56 mk_X7_expression (ob_5 hn) rfl rfl rfl (Nat.le_of_ble_eq_true rfl) (show 0 < d by omega) hc63 (Md_le (b := md_X7_atom) (by decide)) (fun v σ64 hq hf => ?_)
              obtain ⟨v65, rfl, hq⟩ := hq
              replace h := h v65 σ64 hq hf
              refine e_if_eq (tgt := 172) dX7_atom_156 (by decide) (fun c68 => ?_) (fun c68 => ?_)
              · replace h := h.1 c68
                refine e_iconst dX7_atom_172 ci_0 ?_
                exact e_zret dX7_atom_173 rfl (nar_z (Or.inl rfl)) ⟨_, rfl, h⟩
              · replace h := h.2 c68
                refine e_aload_n dX7_atom_159 rfl rfl ?_
                refine e_bipush dX7_atom_160 cb_41 ?_
                obtain ⟨Q69, hc70, h⟩ := h
                refine e_callV (M' := M_X7_take) (as := [.int 41]) (rest := []) dX7_atom_162 ml_X7_52 mk_X7_take (ob_5 hn) rfl rfl rfl (Nat.le_of_ble_eq_true rfl) (show 0 < d by omega) hc70 (Md_le (b := md_X7_atom) (by decide)) (fun v σ71 hq hf => ?_)
                obtain ⟨v72, rfl, hq⟩ := hq
                replace h := h v72 σ71 hq hf
                refine e_if_eq (tgt := 172) dX7_atom_165 (by decide) (fun c75 => ?_) (fun c75 => ?_)
                · replace h := h.1 c75
                  refine e_iconst dX7_atom_172 ci_0 ?_
                  exact e_zret dX7_atom_173 rfl (nar_z (Or.inl rfl)) ⟨_, rfl, h⟩
                · replace h := h.2 c75
                  refine e_iconst dX7_atom_168 ci_1 ?_
                  refine e_goto (tgt := 173) dX7_atom_169 (by decide) ?_
                  exact e_zret dX7_atom_173 rfl (nar_z (Or.inr rfl)) ⟨_, rfl, h⟩
            · replace h := h.2 c55
              refine e_iconst dX7_atom_141 ci_0 ?_
              exact e_zret dX7_atom_142 rfl (nar_z (Or.inl rfl)) ⟨_, rfl, h⟩
        · replace h := h.2 c53
          refine e_aload_n dX7_atom_64 rfl rfl ?_
          refine e_iload_n dX7_atom_65 rfl rfl ?_
          obtain ⟨Q76, hc77, h⟩ := h
          refine e_callV (M' := M_X7_take) (as := [.int (fn_X7_kind σ)]) (rest := []) dX7_atom_66 ml_X7_52 mk_X7_take (ob_5 hn) rfl rfl rfl (Nat.le_of_ble_eq_true rfl) (show 0 < d by omega) hc77 (Md_le (b := md_X7_atom) (by decide)) (fun v σ78 hq hf => ?_)
          obtain ⟨v79, rfl, hq⟩ := hq
          replace h := h v79 σ78 hq hf
          refine e_pop dX7_atom_69 rfl ?_
          refine e_aload_n dX7_atom_70 rfl rfl ?_
          refine e_callV (M' := M_X7_kind) (as := []) (rest := []) dX7_atom_71 ml_X7_35 mk_X7_kind (ob_5 hn) rfl rfl rfl (Nat.le_of_ble_eq_true rfl) (show 0 < d by omega) (sp_X7_kind hn h.1) Md_nil (fun v σv hq hf => ?_)
          obtain ⟨v, rfl, rfl, rfl⟩ := hq
          replace h := h.2
          refine e_sipush dX7_atom_74 cs_256 ?_
          refine e_icmp_ne (tgt := 97) dX7_atom_77 (by decide) (fun c82 => ?_) (fun c82 => ?_)
          · replace h := h.1 c82
            refine e_iconst dX7_atom_97 ci_0 ?_
            exact e_zret dX7_atom_98 rfl (nar_z (Or.inl rfl)) ⟨_, rfl, h⟩
          · replace h := h.2 c82
            refine e_aload_n dX7_atom_80 rfl rfl ?_
            refine e_getR (y := 4) dX7_atom_81 fl_X7_19 (ob_5 hn) rfl rfl ?_
            refine e_getR (y := 22) dX7_atom_84 fl_X7_75 (ob_4 hn) rfl rfl ?_
            refine e_aload_n dX7_atom_87 rfl rfl ?_
            refine e_getI dX7_atom_88 fl_X7_29 (ob_5 hn) rfl ?_
            refine e_iald dX7_atom_91 (ar_22 hn) h.1 ?_
            replace h := h.2
            refine e_bipush dX7_atom_92 cb_10 ?_
            refine e_icmp_lt (tgt := 99) dX7_atom_94 (by decide) (fun c83 => ?_) (fun c83 => ?_)
            · replace h := h.1 c83
              refine e_aload_n dX7_atom_99 rfl rfl ?_
              refine e_aload_n dX7_atom_100 rfl rfl ?_
              refine e_getR (y := 4) dX7_atom_101 fl_X7_19 (ob_5 hn) rfl rfl ?_
              refine e_getR (y := 22) dX7_atom_104 fl_X7_75 (ob_4 hn) rfl rfl ?_
              refine e_aload_n dX7_atom_107 rfl rfl ?_
              refine e_getI dX7_atom_108 fl_X7_29 (ob_5 hn) rfl ?_
              refine e_iald dX7_atom_111 (ar_22 hn) h.1 ?_
              replace h := h.2
              obtain ⟨Q84, hc85, h⟩ := h
              refine e_callV (M' := M_X7_emit) (as := [.int (gI σ78 22 (gI σ78 5 1).toNatClampNeg)]) (rest := []) dX7_atom_112 ml_X7_62 mk_X7_emit (ob_5 hn) rfl rfl rfl (Nat.le_of_ble_eq_true rfl) (show 0 < d by omega) hc85 (Md_le (b := md_X7_atom) (by decide)) (fun v σ86 hq hf => ?_)
              obtain ⟨rfl, hq⟩ := hq
              replace h := h σ86 hq hf
              refine e_aload_n dX7_atom_115 rfl rfl ?_
              refine e_bipush dX7_atom_116 cb_m7 ?_
              obtain ⟨Q90, hc91, h⟩ := h
              refine e_callV (M' := M_X7_emit) (as := [.int (-7)]) (rest := []) dX7_atom_118 ml_X7_62 mk_X7_emit (ob_5 hn) rfl rfl rfl (Nat.le_of_ble_eq_true rfl) (show 0 < d by omega) hc91 (Md_le (b := md_X7_atom) (by decide)) (fun v σ92 hq hf => ?_)
              obtain ⟨rfl, hq⟩ := hq
              replace h := h σ92 hq hf
              refine e_aload_n dX7_atom_121 rfl rfl ?_
              refine e_sipush dX7_atom_122 cs_256 ?_
              obtain ⟨Q96, hc97, h⟩ := h
              refine e_callV (M' := M_X7_take) (as := [.int 256]) (rest := []) dX7_atom_125 ml_X7_52 mk_X7_take (ob_5 hn) rfl rfl rfl (Nat.le_of_ble_eq_true rfl) (show 0 < d by omega) hc97 (Md_le (b := md_X7_atom) (by decide)) (fun v σ98 hq hf => ?_)
              obtain ⟨v99, rfl, hq⟩ := hq
              replace h := h v99 σ98 hq hf
              exact e_zret dX7_atom_128 rfl (nar_z h.1) ⟨_, rfl, h.2⟩
            · replace h := h.2 c83
              refine e_iconst dX7_atom_97 ci_0 ?_
              exact e_zret dX7_atom_98 rfl (nar_z (Or.inl rfl)) ⟨_, rfl, h⟩
      · replace h := h.2 c52
        refine e_aload_n dX7_atom_46 rfl rfl ?_
        refine e_iload_n dX7_atom_47 rfl rfl ?_
        refine e_ineg dX7_atom_48 ?_
        obtain ⟨Q102, hc103, h⟩ := h
        refine e_callV (M' := M_X7_emit) (as := [.int (-(fn_X7_kind σ))]) (rest := []) dX7_atom_49 ml_X7_62 mk_X7_emit (ob_5 hn) rfl rfl rfl (Nat.le_of_ble_eq_true rfl) (show 0 < d by omega) hc103 (Md_le (b := md_X7_atom) (by decide)) (fun v σ104 hq hf => ?_)
        obtain ⟨rfl, hq⟩ := hq
        replace h := h σ104 hq hf
        refine e_aload_n dX7_atom_52 rfl rfl ?_
        refine e_iload_n dX7_atom_53 rfl rfl ?_
        obtain ⟨Q108, hc109, h⟩ := h
        refine e_callV (M' := M_X7_take) (as := [.int (fn_X7_kind σ)]) (rest := []) dX7_atom_54 ml_X7_52 mk_X7_take (ob_5 hn) rfl rfl rfl (Nat.le_of_ble_eq_true rfl) (show 0 < d by omega) hc109 (Md_le (b := md_X7_atom) (by decide)) (fun v σ110 hq hf => ?_)
        obtain ⟨v111, rfl, hq⟩ := hq
        replace h := h v111 σ110 hq hf
        exact e_zret dX7_atom_57 rfl (nar_z h.1) ⟨_, rfl, h.2⟩
  · replace h := h.2 c1
    refine e_aload_n dX7_atom_12 rfl rfl ?_
    refine e_aload_n dX7_atom_13 rfl rfl ?_
    refine e_getR (y := 4) dX7_atom_14 fl_X7_19 (ob_5 hn) rfl rfl ?_
    refine e_getR (y := 22) dX7_atom_17 fl_X7_75 (ob_4 hn) rfl rfl ?_
    refine e_aload_n dX7_atom_20 rfl rfl ?_
    refine e_getI dX7_atom_21 fl_X7_29 (ob_5 hn) rfl ?_
    refine e_iald dX7_atom_24 (ar_22 hn) h.1 ?_
    replace h := h.2
    obtain ⟨Q114, hc115, h⟩ := h
    refine e_callV (M' := M_X7_emit) (as := [.int (gI σ 22 (gI σ 5 1).toNatClampNeg)]) (rest := []) dX7_atom_25 ml_X7_62 mk_X7_emit (ob_5 hn) rfl rfl rfl (Nat.le_of_ble_eq_true rfl) (show 0 < d by omega) hc115 (Md_le (b := md_X7_atom) (by decide)) (fun v σ116 hq hf => ?_)
    obtain ⟨rfl, hq⟩ := hq
    replace h := h σ116 hq hf
    refine e_aload_n dX7_atom_28 rfl rfl ?_
    refine e_iload_n dX7_atom_29 rfl rfl ?_
    obtain ⟨Q120, hc121, h⟩ := h
    refine e_callV (M' := M_X7_take) (as := [.int (fn_X7_kind σ)]) (rest := []) dX7_atom_30 ml_X7_52 mk_X7_take (ob_5 hn) rfl rfl rfl (Nat.le_of_ble_eq_true rfl) (show 0 < d by omega) hc121 (Md_le (b := md_X7_atom) (by decide)) (fun v σ122 hq hf => ?_)
    obtain ⟨v123, rfl, hq⟩ := hq
    replace h := h v123 σ122 hq hf
    exact e_zret dX7_atom_33 rfl (nar_z h.1) ⟨_, rfl, h.2⟩
theorem S_X7_takeEither {d n : Nat} {Q : Int32 → St → Prop} {σ : St} {a1 : Int32} {a2 : Int32} (hn : FIX ≤ n) (hd : 1 ≤ d) (h : pre_X7_kind σ ∧ (((fn_X7_kind σ) = a1 → ∃ Q2 : Int32 → St → Prop, Cn (d - 1) n M_X7_take md_X7_take [.ref 5, .int (fn_X7_kind σ)] σ (liI Q2) ∧ ∀ (v5 : Int32) (σ4 : St), Q2 v5 σ4 → Fr md_X7_take σ σ4 → ((v5 = 0 → Q 0 σ4) ∧ (¬ v5 = 0 → Q (fn_X7_kind σ) σ4))) ∧ (¬ (fn_X7_kind σ) = a1 → (((fn_X7_kind σ) = a2 → ∃ Q10 : Int32 → St → Prop, Cn (d - 1) n M_X7_take md_X7_take [.ref 5, .int (fn_X7_kind σ)] σ (liI Q10) ∧ ∀ (v13 : Int32) (σ12 : St), Q10 v13 σ12 → Fr md_X7_take σ σ12 → ((v13 = 0 → Q 0 σ12) ∧ (¬ v13 = 0 → Q (fn_X7_kind σ) σ12))) ∧ (¬ (fn_X7_kind σ) = a2 → Q 0 σ))))) : Cn d n M_X7_takeEither md_X7_takeEither [.ref 5, .int a1, .int a2] σ (liI Q) := by
  refine Cn.of (k0 := 1) (by decide) rfl ?_
  show Ev (d, n, md_X7_takeEither, σ, liI Q) M_X7_takeEither 0 [some (.ref 5), some (.int a1), some (.int a2), none] [] σ
  refine e_aload_n dX7_takeEither_0 rfl rfl ?_
  refine e_callV (M' := M_X7_kind) (as := []) (rest := []) dX7_takeEither_1 ml_X7_35 mk_X7_kind (ob_5 hn) rfl rfl rfl (Nat.le_of_ble_eq_true rfl) (show 0 < d by omega) (sp_X7_kind hn h.1) Md_nil (fun v σv hq hf => ?_)
  obtain ⟨v, rfl, rfl, rfl⟩ := hq
  replace h := h.2
  refine e_istore_n dX7_takeEither_4 rfl rfl (by decide) ?_
  refine e_iload_n dX7_takeEither_5 rfl rfl ?_
  refine e_iload_n dX7_takeEither_6 rfl rfl ?_
  refine e_icmp_eq (tgt := 17) dX7_takeEither_7 (by decide) (fun c1 => ?_) (fun c1 => ?_)
  · replace h := h.1 c1
    refine e_aload_n dX7_takeEither_17 rfl rfl ?_
    refine e_iload_n dX7_takeEither_18 rfl rfl ?_
    obtain ⟨Q2, hc3, h⟩ := h
    refine e_callV (M' := M_X7_take) (as := [.int (fn_X7_kind σ)]) (rest := []) dX7_takeEither_19 ml_X7_52 mk_X7_take (ob_5 hn) rfl rfl rfl (Nat.le_of_ble_eq_true rfl) (show 0 < d by omega) hc3 (Md_le (b := md_X7_takeEither) (by decide)) (fun v σ4 hq hf => ?_)
    obtain ⟨v5, rfl, hq⟩ := hq
    replace h := h v5 σ4 hq hf
    refine e_if_eq (tgt := 29) dX7_takeEither_22 (by decide) (fun c8 => ?_) (fun c8 => ?_)
    · replace h := h.1 c8
      refine e_iconst dX7_takeEither_29 ci_0 ?_
      exact e_iret dX7_takeEither_30 rfl ⟨_, rfl, h⟩
    · replace h := h.2 c8
      refine e_iload_n dX7_takeEither_25 rfl rfl ?_
      refine e_goto (tgt := 30) dX7_takeEither_26 (by decide) ?_
      exact e_iret dX7_takeEither_30 rfl ⟨_, rfl, h⟩
  · replace h := h.2 c1
    refine e_iload_n dX7_takeEither_10 rfl rfl ?_
    refine e_iload_n dX7_takeEither_11 rfl rfl ?_
    refine e_icmp_eq (tgt := 17) dX7_takeEither_12 (by decide) (fun c9 => ?_) (fun c9 => ?_)
    · replace h := h.1 c9
      refine e_aload_n dX7_takeEither_17 rfl rfl ?_
      refine e_iload_n dX7_takeEither_18 rfl rfl ?_
      obtain ⟨Q10, hc11, h⟩ := h
      refine e_callV (M' := M_X7_take) (as := [.int (fn_X7_kind σ)]) (rest := []) dX7_takeEither_19 ml_X7_52 mk_X7_take (ob_5 hn) rfl rfl rfl (Nat.le_of_ble_eq_true rfl) (show 0 < d by omega) hc11 (Md_le (b := md_X7_takeEither) (by decide)) (fun v σ12 hq hf => ?_)
      obtain ⟨v13, rfl, hq⟩ := hq
      replace h := h v13 σ12 hq hf
      refine e_if_eq (tgt := 29) dX7_takeEither_22 (by decide) (fun c16 => ?_) (fun c16 => ?_)
      · replace h := h.1 c16
        refine e_iconst dX7_takeEither_29 ci_0 ?_
        exact e_iret dX7_takeEither_30 rfl ⟨_, rfl, h⟩
      · replace h := h.2 c16
        refine e_iload_n dX7_takeEither_25 rfl rfl ?_
        refine e_goto (tgt := 30) dX7_takeEither_26 (by decide) ?_
        exact e_iret dX7_takeEither_30 rfl ⟨_, rfl, h⟩
    · replace h := h.2 c9
      refine e_iconst dX7_takeEither_15 ci_0 ?_
      exact e_iret dX7_takeEither_16 rfl ⟨_, rfl, h⟩
abbrev K_X7_expression_7 (d n : Nat) (σ0 : St) (Q : Int32 → St → Prop) (σ : St) (x1 : Int32) (x2 : Int32) (x3 : Int32) (x4 : Int32) : Prop := Ev (d, n, md_X7_expression, σ0, liI Q) M_X7_expression 7 [some (.ref 5), some (.int x1), some (.int x2), some (.int x3), some (.int x4)] [] σ
theorem B_X7_expression_7 {d n : Nat} {σ0 : St} {Q : Int32 → St → Prop}  {σ : St} {x1 : Int32} {x2 : Int32} {x3 : Int32} {x4 : Int32} (hn : FIX ≤ n) (hd : 1 ≤ d) (h : (((400 : Int32) ≤ x4 → Q 0 σ) ∧ (¬ (400 : Int32) ≤ x4 → ∃ Q2 : Int32 → St → Prop, Cn (d - 1) n M_X7_atom md_X7_atom [.ref 5, .int x1] σ (liI Q2) ∧ ∀ (v5 : Int32) (σ4 : St), Q2 v5 σ4 → Fr md_X7_atom σ σ4 → ((v5 ≠ 0 → ((x2 = 0 → ∃ Q10 : Int32 → St → Prop, Cn (d - 1) n M_X7_takeEither md_X7_takeEither [.ref 5, .int 42, .int 47] σ4 (liI Q10) ∧ ∀ (v13 : Int32) (σ12 : St), Q10 v13 σ12 → Fr md_X7_takeEither σ4 σ12 → ((v13 ≠ 0 → K_X7_expression_7 d n σ0 Q σ12 x1 v13 x3 (x4 + 1)) ∧ (v13 = 0 → ((x3 = 0 → ∃ Q18 : Int32 → St → Prop, Cn (d - 1) n M_X7_takeEither md_X7_takeEither [.ref 5, .int 43, .int 45] σ12 (liI Q18) ∧ ∀ (v21 : Int32) (σ20 : St), Q18 v21 σ20 → Fr md_X7_takeEither σ12 σ20 → ((v21 ≠ 0 → K_X7_expression_7 d n σ0 Q σ20 x1 v13 v21 (x4 + 1)) ∧ (v21 = 0 → Q 1 σ20))) ∧ (¬ x3 = 0 → ∃ Q25 : St → Prop, Cn (d - 1) n M_X7_emit md_X7_emit [.ref 5, .int (-x3)] σ12 (liV Q25) ∧ ∀ (σ27 : St), Q25 σ27 → Fr md_X7_emit σ12 σ27 → ∃ Q31 : Int32 → St → Prop, Cn (d - 1) n M_X7_takeEither md_X7_takeEither [.ref 5, .int 43, .int 45] σ27 (liI Q31) ∧ ∀ (v34 : Int32) (σ33 : St), Q31 v34 σ33 → Fr md_X7_takeEither σ27 σ33 → ((v34 ≠ 0 → K_X7_expression_7 d n σ0 Q σ33 x1 v13 v34 (x4 + 1)) ∧ (v34 = 0 → Q 1 σ33))))))) ∧ (¬ x2 = 0 → ∃ Q38 : St → Prop, Cn (d - 1) n M_X7_emit md_X7_emit [.ref 5, .int (-x2)] σ4 (liV Q38) ∧ ∀ (σ40 : St), Q38 σ40 → Fr md_X7_emit σ4 σ40 → ∃ Q44 : Int32 → St → Prop, Cn (d - 1) n M_X7_takeEither md_X7_takeEither [.ref 5, .int 42, .int 47] σ40 (liI Q44) ∧ ∀ (v47 : Int32) (σ46 : St), Q44 v47 σ46 → Fr md_X7_takeEither σ40 σ46 → ((v47 ≠ 0 → K_X7_expression_7 d n σ0 Q σ46 x1 v47 x3 (x4 + 1)) ∧ (v47 = 0 → ((x3 = 0 → ∃ Q52 : Int32 → St → Prop, Cn (d - 1) n M_X7_takeEither md_X7_takeEither [.ref 5, .int 43, .int 45] σ46 (liI Q52) ∧ ∀ (v55 : Int32) (σ54 : St), Q52 v55 σ54 → Fr md_X7_takeEither σ46 σ54 → ((v55 ≠ 0 → K_X7_expression_7 d n σ0 Q σ54 x1 v47 v55 (x4 + 1)) ∧ (v55 = 0 → Q 1 σ54))) ∧ (¬ x3 = 0 → ∃ Q59 : St → Prop, Cn (d - 1) n M_X7_emit md_X7_emit [.ref 5, .int (-x3)] σ46 (liV Q59) ∧ ∀ (σ61 : St), Q59 σ61 → Fr md_X7_emit σ46 σ61 → ∃ Q65 : Int32 → St → Prop, Cn (d - 1) n M_X7_takeEither md_X7_takeEither [.ref 5, .int 43, .int 45] σ61 (liI Q65) ∧ ∀ (v68 : Int32) (σ67 : St), Q65 v68 σ67 → Fr md_X7_takeEither σ61 σ67 → ((v68 ≠ 0 → K_X7_expression_7 d n σ0 Q σ67 x1 v47 v68 (x4 + 1)) ∧ (v68 = 0 → Q 1 σ67))))))))) ∧ (v5 = 0 → Q 0 σ4))))) : K_X7_expression_7 d n σ0 Q σ x1 x2 x3 x4 := by
  refine e_iload dX7_expression_7 rfl ?_
  refine e_sipush dX7_expression_9 cs_400 ?_
  refine e_icmp_ge (tgt := 79) dX7_expression_12 (by decide) (fun c1 => ?_) (fun c1 => ?_)
  · replace h := h.1 c1
    refine e_iconst dX7_expression_79 ci_0 ?_
    exact e_zret dX7_expression_80 rfl (nar_z (Or.inl rfl)) ⟨_, rfl, h⟩
  · replace h := h.2 c1
    refine e_aload_n dX7_expression_15 rfl rfl ?_
    refine e_iload_n dX7_expression_16 rfl rfl ?_
    obtain ⟨Q2, hc3, h⟩ := h
    refine e_callV (M' := M_X7_atom) (as := [.int x1]) (rest := []) dX7_expression_17 ml_X7_68 mk_X7_atom (ob_5 hn) rfl rfl rfl (Nat.le_of_ble_eq_true rfl) (show 0 < d by omega) hc3 (Md_le (b := md_X7_expression) (by decide)) (fun v σ4 hq hf => ?_)
    obtain ⟨v5, rfl, hq⟩ := hq
    replace h := h v5 σ4 hq hf
    refine e_if_ne (tgt := 25) dX7_expression_20 (by decide) (fun c8 => ?_) (fun c8 => ?_)
    · replace h := h.1 c8
      refine e_iload_n dX7_expression_25 rfl rfl ?_
      refine e_if_eq (tgt := 35) dX7_expression_26 (by decide) (fun c9 => ?_) (fun c9 => ?_)
      · replace h := h.1 c9
        refine e_aload_n dX7_expression_35 rfl rfl ?_
        refine e_bipush dX7_expression_36 cb_42 ?_
        refine e_bipush dX7_expression_38 cb_47 ?_
        obtain ⟨Q10, hc11, h⟩ := h
        refine e_callV (M' := M_X7_takeEither) (as := [.int 42, .int 47]) (rest := []) dX7_expression_40 ml_X7_71 mk_X7_takeEither (ob_5 hn) rfl rfl rfl (Nat.le_of_ble_eq_true rfl) (show 0 < d by omega) hc11 (Md_le (b := md_X7_expression) (by decide)) (fun v σ12 hq hf => ?_)
        obtain ⟨v13, rfl, hq⟩ := hq
        replace h := h v13 σ12 hq hf
        refine e_istore_n dX7_expression_43 rfl rfl (by decide) ?_
        refine e_iload_n dX7_expression_44 rfl rfl ?_
        refine e_if_ne (tgt := 73) dX7_expression_45 (by decide) (fun c16 => ?_) (fun c16 => ?_)
        · replace h := h.1 c16
          refine e_iinc dX7_expression_73 rfl (ii_1 _) rfl (by decide) ?_
          refine e_goto (tgt := 7) dX7_expression_76 (by decide) ?_
          exact h
        · replace h := h.2 c16
          refine e_iload_n dX7_expression_48 rfl rfl ?_
          refine e_if_eq (tgt := 58) dX7_expression_49 (by decide) (fun c17 => ?_) (fun c17 => ?_)
          · replace h := h.1 c17
            refine e_aload_n dX7_expression_58 rfl rfl ?_
            refine e_bipush dX7_expression_59 cb_43 ?_
            refine e_bipush dX7_expression_61 cb_45 ?_
            obtain ⟨Q18, hc19, h⟩ := h
            refine e_callV (M' := M_X7_takeEither) (as := [.int 43, .int 45]) (rest := []) dX7_expression_63 ml_X7_71 mk_X7_takeEither (ob_5 hn) rfl rfl rfl (Nat.le_of_ble_eq_true rfl) (show 0 < d by omega) hc19 (Md_le (b := md_X7_expression) (by decide)) (fun v σ20 hq hf => ?_)
            obtain ⟨v21, rfl, hq⟩ := hq
            replace h := h v21 σ20 hq hf
            refine e_istore_n dX7_expression_66 rfl rfl (by decide) ?_
            refine e_iload_n dX7_expression_67 rfl rfl ?_
            refine e_if_ne (tgt := 73) dX7_expression_68 (by decide) (fun c24 => ?_) (fun c24 => ?_)
            · replace h := h.1 c24
              refine e_iinc dX7_expression_73 rfl (ii_1 _) rfl (by decide) ?_
              refine e_goto (tgt := 7) dX7_expression_76 (by decide) ?_
              exact h
            · replace h := h.2 c24
              refine e_iconst dX7_expression_71 ci_1 ?_
              exact e_zret dX7_expression_72 rfl (nar_z (Or.inr rfl)) ⟨_, rfl, h⟩
          · replace h := h.2 c17
            refine e_aload_n dX7_expression_52 rfl rfl ?_
            refine e_iload_n dX7_expression_53 rfl rfl ?_
            refine e_ineg dX7_expression_54 ?_
            obtain ⟨Q25, hc26, h⟩ := h
            refine e_callV (M' := M_X7_emit) (as := [.int (-x3)]) (rest := []) dX7_expression_55 ml_X7_62 mk_X7_emit (ob_5 hn) rfl rfl rfl (Nat.le_of_ble_eq_true rfl) (show 0 < d by omega) hc26 (Md_le (b := md_X7_expression) (by decide)) (fun v σ27 hq hf => ?_)
            obtain ⟨rfl, hq⟩ := hq
            replace h := h σ27 hq hf
            refine e_aload_n dX7_expression_58 rfl rfl ?_
            refine e_bipush dX7_expression_59 cb_43 ?_
            refine e_bipush dX7_expression_61 cb_45 ?_
            obtain ⟨Q31, hc32, h⟩ := h
            refine e_callV (M' := M_X7_takeEither) (as := [.int 43, .int 45]) (rest := []) dX7_expression_63 ml_X7_71 mk_X7_takeEither (ob_5 hn) rfl rfl rfl (Nat.le_of_ble_eq_true rfl) (show 0 < d by omega) hc32 (Md_le (b := md_X7_expression) (by decide)) (fun v σ33 hq hf => ?_)
            obtain ⟨v34, rfl, hq⟩ := hq
            replace h := h v34 σ33 hq hf
            refine e_istore_n dX7_expression_66 rfl rfl (by decide) ?_
            refine e_iload_n dX7_expression_67 rfl rfl ?_
            refine e_if_ne (tgt := 73) dX7_expression_68 (by decide) (fun c37 => ?_) (fun c37 => ?_)
            · replace h := h.1 c37
              refine e_iinc dX7_expression_73 rfl (ii_1 _) rfl (by decide) ?_
              refine e_goto (tgt := 7) dX7_expression_76 (by decide) ?_
              exact h
            · replace h := h.2 c37
              refine e_iconst dX7_expression_71 ci_1 ?_
              exact e_zret dX7_expression_72 rfl (nar_z (Or.inr rfl)) ⟨_, rfl, h⟩
      · replace h := h.2 c9
        refine e_aload_n dX7_expression_29 rfl rfl ?_
        refine e_iload_n dX7_expression_30 rfl rfl ?_
        refine e_ineg dX7_expression_31 ?_
        obtain ⟨Q38, hc39, h⟩ := h
        refine e_callV (M' := M_X7_emit) (as := [.int (-x2)]) (rest := []) dX7_expression_32 ml_X7_62 mk_X7_emit (ob_5 hn) rfl rfl rfl (Nat.le_of_ble_eq_true rfl) (show 0 < d by omega) hc39 (Md_le (b := md_X7_expression) (by decide)) (fun v σ40 hq hf => ?_)
        obtain ⟨rfl, hq⟩ := hq
        replace h := h σ40 hq hf
        refine e_aload_n dX7_expression_35 rfl rfl ?_
        refine e_bipush dX7_expression_36 cb_42 ?_
        refine e_bipush dX7_expression_38 cb_47 ?_
        obtain ⟨Q44, hc45, h⟩ := h
        refine e_callV (M' := M_X7_takeEither) (as := [.int 42, .int 47]) (rest := []) dX7_expression_40 ml_X7_71 mk_X7_takeEither (ob_5 hn) rfl rfl rfl (Nat.le_of_ble_eq_true rfl) (show 0 < d by omega) hc45 (Md_le (b := md_X7_expression) (by decide)) (fun v σ46 hq hf => ?_)
        obtain ⟨v47, rfl, hq⟩ := hq
        replace h := h v47 σ46 hq hf
        refine e_istore_n dX7_expression_43 rfl rfl (by decide) ?_
        refine e_iload_n dX7_expression_44 rfl rfl ?_
        refine e_if_ne (tgt := 73) dX7_expression_45 (by decide) (fun c50 => ?_) (fun c50 => ?_)
        · replace h := h.1 c50
          refine e_iinc dX7_expression_73 rfl (ii_1 _) rfl (by decide) ?_
          refine e_goto (tgt := 7) dX7_expression_76 (by decide) ?_
          exact h
        · replace h := h.2 c50
          refine e_iload_n dX7_expression_48 rfl rfl ?_
          refine e_if_eq (tgt := 58) dX7_expression_49 (by decide) (fun c51 => ?_) (fun c51 => ?_)
          · replace h := h.1 c51
            refine e_aload_n dX7_expression_58 rfl rfl ?_
            refine e_bipush dX7_expression_59 cb_43 ?_
            refine e_bipush dX7_expression_61 cb_45 ?_
            obtain ⟨Q52, hc53, h⟩ := h
            refine e_callV (M' := M_X7_takeEither) (as := [.int 43, .int 45]) (rest := []) dX7_expression_63 ml_X7_71 mk_X7_takeEither (ob_5 hn) rfl rfl rfl (Nat.le_of_ble_eq_true rfl) (show 0 < d by omega) hc53 (Md_le (b := md_X7_expression) (by decide)) (fun v σ54 hq hf => ?_)
            obtain ⟨v55, rfl, hq⟩ := hq
            replace h := h v55 σ54 hq hf
            refine e_istore_n dX7_expression_66 rfl rfl (by decide) ?_
            refine e_iload_n dX7_expression_67 rfl rfl ?_
            refine e_if_ne (tgt := 73) dX7_expression_68 (by decide) (fun c58 => ?_) (fun c58 => ?_)
            · replace h := h.1 c58
              refine e_iinc dX7_expression_73 rfl (ii_1 _) rfl (by decide) ?_
              refine e_goto (tgt := 7) dX7_expression_76 (by decide) ?_
              exact h
            · replace h := h.2 c58
              refine e_iconst dX7_expression_71 ci_1 ?_
              exact e_zret dX7_expression_72 rfl (nar_z (Or.inr rfl)) ⟨_, rfl, h⟩
          · replace h := h.2 c51
            refine e_aload_n dX7_expression_52 rfl rfl ?_
            refine e_iload_n dX7_expression_53 rfl rfl ?_
            refine e_ineg dX7_expression_54 ?_
            obtain ⟨Q59, hc60, h⟩ := h
            refine e_callV (M' := M_X7_emit) (as := [.int (-x3)]) (rest := []) dX7_expression_55 ml_X7_62 mk_X7_emit (ob_5 hn) rfl rfl rfl (Nat.le_of_ble_eq_true rfl) (show 0 < d by omega) hc60 (Md_le (b := md_X7_expression) (by decide)) (fun v σ61 hq hf => ?_)
            obtain ⟨rfl, hq⟩ := hq
            replace h := h σ61 hq hf
            refine e_aload_n dX7_expression_58 rfl rfl ?_
            refine e_bipush dX7_expression_59 cb_43 ?_
            refine e_bipush dX7_expression_61 cb_45 ?_
            obtain ⟨Q65, hc66, h⟩ := h
            refine e_callV (M' := M_X7_takeEither) (as := [.int 43, .int 45]) (rest := []) dX7_expression_63 ml_X7_71 mk_X7_takeEither (ob_5 hn) rfl rfl rfl (Nat.le_of_ble_eq_true rfl) (show 0 < d by omega) hc66 (Md_le (b := md_X7_expression) (by decide)) (fun v σ67 hq hf => ?_)
            obtain ⟨v68, rfl, hq⟩ := hq
            replace h := h v68 σ67 hq hf
            refine e_istore_n dX7_expression_66 rfl rfl (by decide) ?_
            refine e_iload_n dX7_expression_67 rfl rfl ?_
            refine e_if_ne (tgt := 73) dX7_expression_68 (by decide) (fun c71 => ?_) (fun c71 => ?_)
            · replace h := h.1 c71
              refine e_iinc dX7_expression_73 rfl (ii_1 _) rfl (by decide) ?_
              refine e_goto (tgt := 7) dX7_expression_76 (by decide) ?_
              exact h
            · replace h := h.2 c71
              refine e_iconst dX7_expression_71 ci_1 ?_
              exact e_zret dX7_expression_72 rfl (nar_z (Or.inr rfl)) ⟨_, rfl, h⟩
    · replace h := h.2 c8
      refine e_iconst dX7_expression_23 ci_0 ?_
      exact e_zret dX7_expression_24 rfl (nar_z (Or.inl rfl)) ⟨_, rfl, h⟩
theorem S_X7_expression {d n : Nat} {Q : Int32 → St → Prop} {σ : St} {a1 : Int32} (hn : FIX ≤ n) (hd : 1 ≤ d) (h : K_X7_expression_7 d n σ Q σ a1 0 0 0) : Cn d n M_X7_expression md_X7_expression [.ref 5, .int a1] σ (liI Q) := by
  refine Cn.of (k0 := 3) (by decide) rfl ?_
  show Ev (d, n, md_X7_expression, σ, liI Q) M_X7_expression 0 [some (.ref 5), some (.int a1), none, none, none] [] σ
  refine e_iconst dX7_expression_0 ci_0 ?_
  refine e_istore_n dX7_expression_1 rfl rfl (by decide) ?_
  refine e_iconst dX7_expression_2 ci_0 ?_
  refine e_istore_n dX7_expression_3 rfl rfl (by decide) ?_
  refine e_iconst dX7_expression_4 ci_0 ?_
  refine e_istore dX7_expression_5 rfl (by decide) ?_
  exact h
theorem S_X7_oneOf {d n : Nat} {Q : Int32 → St → Prop} {σ : St} {a1 : Int32} (hn : FIX ≤ n) (hd : 1 ≤ d) (h : pre_X7_kind σ ∧ (((fn_X7_kind σ) = 6 → ((a1 < 9 → ∃ Q3 : Int32 → St → Prop, Cn (d - 1) n M_X7_take md_X7_take [.ref 5, .int (fn_X7_kind σ)] σ (liI Q3) ∧ ∀ (v6 : Int32) (σ5 : St), Q3 v6 σ5 → Fr md_X7_take σ σ5 → (((fn_X7_kind σ) ≠ 91 → ∃ Q10 : Int32 → St → Prop, Cn (d - 1) n M_X7_oneOf md_X7_oneOf [.ref 5, .int (a1 + 1)] σ5 (liI Q10) ∧ ∀ (v13 : Int32) (σ12 : St), Q10 v13 σ12 → Fr md_X7_oneOf σ5 σ12 → ((v13 ≠ 0 → ∃ Q17 : St → Prop, Cn (d - 1) n M_X7_emit md_X7_emit [.ref 5, .int (-6)] σ12 (liV Q17) ∧ ∀ (σ19 : St), Q17 σ19 → Fr md_X7_emit σ12 σ19 → Q 1 σ19) ∧ (v13 = 0 → Q 0 σ12))) ∧ ((fn_X7_kind σ) = 91 → ∃ Q23 : Int32 → St → Prop, Cn (d - 1) n M_X7_anyOf md_X7_anyOf [.ref 5, .int (a1 + 1)] σ5 (liI Q23) ∧ ∀ (v26 : Int32) (σ25 : St), Q23 v26 σ25 → Fr md_X7_anyOf σ5 σ25 → ((v26 = 0 → Q 0 σ25) ∧ (¬ v26 = 0 → ∃ Q30 : Int32 → St → Prop, Cn (d - 1) n M_X7_take md_X7_take [.ref 5, .int 93] σ25 (liI Q30) ∧ ∀ (v33 : Int32) (σ32 : St), Q30 v33 σ32 → Fr md_X7_take σ25 σ32 → ((v33 = 0 → Q 0 σ32) ∧ (¬ v33 = 0 → Q 1 σ32))))))) ∧ (¬ a1 < 9 → Q 0 σ))) ∧ (¬ (fn_X7_kind σ) = 6 → (((fn_X7_kind σ) ≠ 91 → ∃ Q38 : Int32 → St → Prop, Cn (d - 1) n M_X7_expression md_X7_expression [.ref 5, .int a1] σ (liI Q38) ∧ ∀ (v41 : Int32) (σ40 : St), Q38 v41 σ40 → Fr md_X7_expression σ σ40 → ((v41 ≠ 0 → pre_X7_kind σ40 ∧ (((fn_X7_kind σ40) = 60 → ∃ Q46 : Int32 → St → Prop, Cn (d - 1) n M_X7_take md_X7_take [.ref 5, .int (fn_X7_kind σ40)] σ40 (liI Q46) ∧ ∀ (v49 : Int32) (σ48 : St), Q46 v49 σ48 → Fr md_X7_take σ40 σ48 → ∃ Q52 : Int32 → St → Prop, Cn (d - 1) n M_X7_expression md_X7_expression [.ref 5, .int a1] σ48 (liI Q52) ∧ ∀ (v55 : Int32) (σ54 : St), Q52 v55 σ54 → Fr md_X7_expression σ48 σ54 → ((v55 ≠ 0 → ∃ Q59 : St → Prop, Cn (d - 1) n M_X7_emit md_X7_emit [.ref 5, .int (-(fn_X7_kind σ40))] σ54 (liV Q59) ∧ ∀ (σ61 : St), Q59 σ61 → Fr md_X7_emit σ54 σ61 → Q 1 σ61) ∧ (v55 = 0 → Q 0 σ54))) ∧ (¬ (fn_X7_kind σ40) = 60 → (((fn_X7_kind σ40) = 62 → ∃ Q66 : Int32 → St → Prop, Cn (d - 1) n M_X7_take md_X7_take [.ref 5, .int (fn_X7_kind σ40)] σ40 (liI Q66) ∧ ∀ (v69 : Int32) (σ68 : St), Q66 v69 σ68 → Fr md_X7_take σ40 σ68 → ∃ Q72 : Int32 → St → Prop, Cn (d - 1) n M_X7_expression md_X7_expression [.ref 5, .int a1] σ68 (liI Q72) ∧ ∀ (v75 : Int32) (σ74 : St), Q72 v75 σ74 → Fr md_X7_expression σ68 σ74 → ((v75 ≠ 0 → ∃ Q79 : St → Prop, Cn (d - 1) n M_X7_emit md_X7_emit [.ref 5, .int (-(fn_X7_kind σ40))] σ74 (liV Q79) ∧ ∀ (σ81 : St), Q79 σ81 → Fr md_X7_emit σ74 σ81 → Q 1 σ81) ∧ (v75 = 0 → Q 0 σ74))) ∧ (¬ (fn_X7_kind σ40) = 62 → (((fn_X7_kind σ40) = 61 → ∃ Q86 : Int32 → St → Prop, Cn (d - 1) n M_X7_take md_X7_take [.ref 5, .int (fn_X7_kind σ40)] σ40 (liI Q86) ∧ ∀ (v89 : Int32) (σ88 : St), Q86 v89 σ88 → Fr md_X7_take σ40 σ88 → ∃ Q92 : Int32 → St → Prop, Cn (d - 1) n M_X7_expression md_X7_expression [.ref 5, .int a1] σ88 (liI Q92) ∧ ∀ (v95 : Int32) (σ94 : St), Q92 v95 σ94 → Fr md_X7_expression σ88 σ94 → ((v95 ≠ 0 → ∃ Q99 : St → Prop, Cn (d - 1) n M_X7_emit md_X7_emit [.ref 5, .int (-(fn_X7_kind σ40))] σ94 (liV Q99) ∧ ∀ (σ101 : St), Q99 σ101 → Fr md_X7_emit σ94 σ101 → Q 1 σ101) ∧ (v95 = 0 → Q 0 σ94))) ∧ (¬ (fn_X7_kind σ40) = 61 → Q 0 σ40))))))) ∧ (v41 = 0 → Q 0 σ40))) ∧ ((fn_X7_kind σ) = 91 → ((a1 < 9 → ∃ Q106 : Int32 → St → Prop, Cn (d - 1) n M_X7_take md_X7_take [.ref 5, .int (fn_X7_kind σ)] σ (liI Q106) ∧ ∀ (v109 : Int32) (σ108 : St), Q106 v109 σ108 → Fr md_X7_take σ σ108 → (((fn_X7_kind σ) ≠ 91 → ∃ Q113 : Int32 → St → Prop, Cn (d - 1) n M_X7_oneOf md_X7_oneOf [.ref 5, .int (a1 + 1)] σ108 (liI Q113) ∧ ∀ (v116 : Int32) (σ115 : St), Q113 v116 σ115 → Fr md_X7_oneOf σ108 σ115 → ((v116 ≠ 0 → ∃ Q120 : St → Prop, Cn (d - 1) n M_X7_emit md_X7_emit [.ref 5, .int (-6)] σ115 (liV Q120) ∧ ∀ (σ122 : St), Q120 σ122 → Fr md_X7_emit σ115 σ122 → Q 1 σ122) ∧ (v116 = 0 → Q 0 σ115))) ∧ ((fn_X7_kind σ) = 91 → ∃ Q126 : Int32 → St → Prop, Cn (d - 1) n M_X7_anyOf md_X7_anyOf [.ref 5, .int (a1 + 1)] σ108 (liI Q126) ∧ ∀ (v129 : Int32) (σ128 : St), Q126 v129 σ128 → Fr md_X7_anyOf σ108 σ128 → ((v129 = 0 → Q 0 σ128) ∧ (¬ v129 = 0 → ∃ Q133 : Int32 → St → Prop, Cn (d - 1) n M_X7_take md_X7_take [.ref 5, .int 93] σ128 (liI Q133) ∧ ∀ (v136 : Int32) (σ135 : St), Q133 v136 σ135 → Fr md_X7_take σ128 σ135 → ((v136 = 0 → Q 0 σ135) ∧ (¬ v136 = 0 → Q 1 σ135))))))) ∧ (¬ a1 < 9 → Q 0 σ))))))) : Cn d n M_X7_oneOf md_X7_oneOf [.ref 5, .int a1] σ (liI Q) := by
  refine Cn.of (k0 := 2) (by decide) rfl ?_
  show Ev (d, n, md_X7_oneOf, σ, liI Q) M_X7_oneOf 0 [some (.ref 5), some (.int a1), none, none] [] σ
  refine e_aload_n dX7_oneOf_0 rfl rfl ?_
  refine e_callV (M' := M_X7_kind) (as := []) (rest := []) dX7_oneOf_1 ml_X7_35 mk_X7_kind (ob_5 hn) rfl rfl rfl (Nat.le_of_ble_eq_true rfl) (show 0 < d by omega) (sp_X7_kind hn h.1) Md_nil (fun v σv hq hf => ?_)
  obtain ⟨v, rfl, rfl, rfl⟩ := hq
  replace h := h.2
  refine e_istore_n dX7_oneOf_4 rfl rfl (by decide) ?_
  refine e_iload_n dX7_oneOf_5 rfl rfl ?_
  refine e_bipush dX7_oneOf_6 cb_6 ?_
  refine e_icmp_eq (tgt := 17) dX7_oneOf_8 (by decide) (fun c1 => ?_) (fun c1 => ?_)
  · replace h := h.1 c1
    refine e_iload_n dX7_oneOf_17 rfl rfl ?_
    refine e_bipush dX7_oneOf_18 cb_9 ?_
    refine e_icmp_lt (tgt := 25) dX7_oneOf_20 (by decide) (fun c2 => ?_) (fun c2 => ?_)
    · replace h := h.1 c2
      refine e_aload_n dX7_oneOf_25 rfl rfl ?_
      refine e_iload_n dX7_oneOf_26 rfl rfl ?_
      obtain ⟨Q3, hc4, h⟩ := h
      refine e_callV (M' := M_X7_take) (as := [.int (fn_X7_kind σ)]) (rest := []) dX7_oneOf_27 ml_X7_52 mk_X7_take (ob_5 hn) rfl rfl rfl (Nat.le_of_ble_eq_true rfl) (show 0 < d by omega) hc4 (Md_le (b := md_X7_oneOf) (by decide)) (fun v σ5 hq hf => ?_)
      obtain ⟨v6, rfl, hq⟩ := hq
      replace h := h v6 σ5 hq hf
      refine e_pop dX7_oneOf_30 rfl ?_
      refine e_iload_n dX7_oneOf_31 rfl rfl ?_
      refine e_bipush dX7_oneOf_32 cb_91 ?_
      refine e_icmp_ne (tgt := 62) dX7_oneOf_34 (by decide) (fun c9 => ?_) (fun c9 => ?_)
      · replace h := h.1 c9
        refine e_aload_n dX7_oneOf_62 rfl rfl ?_
        refine e_iload_n dX7_oneOf_63 rfl rfl ?_
        refine e_iconst dX7_oneOf_64 ci_1 ?_
        refine e_iadd dX7_oneOf_65 ?_
        obtain ⟨Q10, hc11, h⟩ := h
        refine e_callV (M' := M_X7_oneOf) (as := [.int (a1 + 1)]) (rest := []) dX7_oneOf_66 ml_X7_65 mk_X7_oneOf (ob_5 hn) rfl rfl rfl (Nat.le_of_ble_eq_true rfl) (show 0 < d by omega) hc11 (Md_le (b := md_X7_oneOf) (by decide)) (fun v σ12 hq hf => ?_)
        obtain ⟨v13, rfl, hq⟩ := hq
        replace h := h v13 σ12 hq hf
        refine e_if_ne (tgt := 74) dX7_oneOf_69 (by decide) (fun c16 => ?_) (fun c16 => ?_)
        · replace h := h.1 c16
          refine e_aload_n dX7_oneOf_74 rfl rfl ?_
          refine e_bipush dX7_oneOf_75 cb_m6 ?_
          obtain ⟨Q17, hc18, h⟩ := h
          refine e_callV (M' := M_X7_emit) (as := [.int (-6)]) (rest := []) dX7_oneOf_77 ml_X7_62 mk_X7_emit (ob_5 hn) rfl rfl rfl (Nat.le_of_ble_eq_true rfl) (show 0 < d by omega) hc18 (Md_le (b := md_X7_oneOf) (by decide)) (fun v σ19 hq hf => ?_)
          obtain ⟨rfl, hq⟩ := hq
          replace h := h σ19 hq hf
          refine e_iconst dX7_oneOf_80 ci_1 ?_
          exact e_zret dX7_oneOf_81 rfl (nar_z (Or.inr rfl)) ⟨_, rfl, h⟩
        · replace h := h.2 c16
          refine e_iconst dX7_oneOf_72 ci_0 ?_
          exact e_zret dX7_oneOf_73 rfl (nar_z (Or.inl rfl)) ⟨_, rfl, h⟩
      · replace h := h.2 c9
        refine e_aload_n dX7_oneOf_37 rfl rfl ?_
        refine e_iload_n dX7_oneOf_38 rfl rfl ?_
        refine e_iconst dX7_oneOf_39 ci_1 ?_
        refine e_iadd dX7_oneOf_40 ?_
        obtain ⟨Q23, hc24, h⟩ := h
        refine e_callV (M' := M_X7_anyOf) (as := [.int (a1 + 1)]) (rest := []) dX7_oneOf_41 ml_X7_59 mk_X7_anyOf (ob_5 hn) rfl rfl rfl (Nat.le_of_ble_eq_true rfl) (show 0 < d by omega) hc24 (Md_le (b := md_X7_oneOf) (by decide)) (fun v σ25 hq hf => ?_)
        obtain ⟨v26, rfl, hq⟩ := hq
        replace h := h v26 σ25 hq hf
        refine e_if_eq (tgt := 60) dX7_oneOf_44 (by decide) (fun c29 => ?_) (fun c29 => ?_)
        · replace h := h.1 c29
          refine e_iconst dX7_oneOf_60 ci_0 ?_
          exact e_zret dX7_oneOf_61 rfl (nar_z (Or.inl rfl)) ⟨_, rfl, h⟩
        · replace h := h.2 c29
          refine e_aload_n dX7_oneOf_47 rfl rfl ?_
          refine e_bipush dX7_oneOf_48 cb_93 ?_
          obtain ⟨Q30, hc31, h⟩ := h
          refine e_callV (M' := M_X7_take) (as := [.int 93]) (rest := []) dX7_oneOf_50 ml_X7_52 mk_X7_take (ob_5 hn) rfl rfl rfl (Nat.le_of_ble_eq_true rfl) (show 0 < d by omega) hc31 (Md_le (b := md_X7_oneOf) (by decide)) (fun v σ32 hq hf => ?_)
          obtain ⟨v33, rfl, hq⟩ := hq
          replace h := h v33 σ32 hq hf
          refine e_if_eq (tgt := 60) dX7_oneOf_53 (by decide) (fun c36 => ?_) (fun c36 => ?_)
          · replace h := h.1 c36
            refine e_iconst dX7_oneOf_60 ci_0 ?_
            exact e_zret dX7_oneOf_61 rfl (nar_z (Or.inl rfl)) ⟨_, rfl, h⟩
          · replace h := h.2 c36
            refine e_iconst dX7_oneOf_56 ci_1 ?_
            refine e_goto (tgt := 61) dX7_oneOf_57 (by decide) ?_
            exact e_zret dX7_oneOf_61 rfl (nar_z (Or.inr rfl)) ⟨_, rfl, h⟩
    · replace h := h.2 c2
      refine e_iconst dX7_oneOf_23 ci_0 ?_
      exact e_zret dX7_oneOf_24 rfl (nar_z (Or.inl rfl)) ⟨_, rfl, h⟩
  · replace h := h.2 c1
    refine e_iload_n dX7_oneOf_11 rfl rfl ?_
    refine e_bipush dX7_oneOf_12 cb_91 ?_
    refine e_icmp_ne (tgt := 82) dX7_oneOf_14 (by decide) (fun c37 => ?_) (fun c37 => ?_)
    · replace h := h.1 c37
      refine e_aload_n dX7_oneOf_82 rfl rfl ?_
      refine e_iload_n dX7_oneOf_83 rfl rfl ?_
      obtain ⟨Q38, hc39, h⟩ := h
      refine e_callV (M' := M_X7_expression) (as := [.int a1]) (rest := []) dX7_oneOf_84 ml_X7_56 mk_X7_expression (ob_5 hn) rfl rfl rfl (Nat.le_of_ble_eq_true rfl) (show 0 < d by omega) hc39 (Md_le (b := md_X7_oneOf) (by decide)) (fun v σ40 hq hf => ?_)
      obtain ⟨v41, rfl, hq⟩ := hq
      replace h := h v41 σ40 hq hf
      refine e_if_ne (tgt := 92) dX7_oneOf_87 (by decide) (fun c44 => ?_) (fun c44 => ?_)
      · replace h := h.1 c44
        refine e_aload_n dX7_oneOf_92 rfl rfl ?_
        refine e_callV (M' := M_X7_kind) (as := []) (rest := []) dX7_oneOf_93 ml_X7_35 mk_X7_kind (ob_5 hn) rfl rfl rfl (Nat.le_of_ble_eq_true rfl) (show 0 < d by omega) (sp_X7_kind hn h.1) Md_nil (fun v σv hq hf => ?_)
        obtain ⟨v, rfl, rfl, rfl⟩ := hq
        replace h := h.2
        refine e_istore_n dX7_oneOf_96 rfl rfl (by decide) ?_
        refine e_iload_n dX7_oneOf_97 rfl rfl ?_
        refine e_bipush dX7_oneOf_98 cb_60 ?_
        refine e_icmp_eq (tgt := 117) dX7_oneOf_100 (by decide) (fun c45 => ?_) (fun c45 => ?_)
        · replace h := h.1 c45
          refine e_aload_n dX7_oneOf_117 rfl rfl ?_
          refine e_iload_n dX7_oneOf_118 rfl rfl ?_
          obtain ⟨Q46, hc47, h⟩ := h
          refine e_callV (M' := M_X7_take) (as := [.int (fn_X7_kind σ40)]) (rest := []) dX7_oneOf_119 ml_X7_52 mk_X7_take (ob_5 hn) rfl rfl rfl (Nat.le_of_ble_eq_true rfl) (show 0 < d by omega) hc47 (Md_le (b := md_X7_oneOf) (by decide)) (fun v σ48 hq hf => ?_)
          obtain ⟨v49, rfl, hq⟩ := hq
          replace h := h v49 σ48 hq hf
          refine e_pop dX7_oneOf_122 rfl ?_
          refine e_aload_n dX7_oneOf_123 rfl rfl ?_
          refine e_iload_n dX7_oneOf_124 rfl rfl ?_
          obtain ⟨Q52, hc53, h⟩ := h
          refine e_callV (M' := M_X7_expression) (as := [.int a1]) (rest := []) dX7_oneOf_125 ml_X7_56 mk_X7_expression (ob_5 hn) rfl rfl rfl (Nat.le_of_ble_eq_true rfl) (show 0 < d by omega) hc53 (Md_le (b := md_X7_oneOf) (by decide)) (fun v σ54 hq hf => ?_)
          obtain ⟨v55, rfl, hq⟩ := hq
          replace h := h v55 σ54 hq hf
          refine e_if_ne (tgt := 133) dX7_oneOf_128 (by decide) (fun c58 => ?_) (fun c58 => ?_)
          · replace h := h.1 c58
            refine e_aload_n dX7_oneOf_133 rfl rfl ?_
            refine e_iload_n dX7_oneOf_134 rfl rfl ?_
            refine e_ineg dX7_oneOf_135 ?_
            obtain ⟨Q59, hc60, h⟩ := h
            refine e_callV (M' := M_X7_emit) (as := [.int (-(fn_X7_kind σ40))]) (rest := []) dX7_oneOf_136 ml_X7_62 mk_X7_emit (ob_5 hn) rfl rfl rfl (Nat.le_of_ble_eq_true rfl) (show 0 < d by omega) hc60 (Md_le (b := md_X7_oneOf) (by decide)) (fun v σ61 hq hf => ?_)
            obtain ⟨rfl, hq⟩ := hq
            replace h := h σ61 hq hf
            refine e_iconst dX7_oneOf_139 ci_1 ?_
            exact e_zret dX7_oneOf_140 rfl (nar_z (Or.inr rfl)) ⟨_, rfl, h⟩
          · replace h := h.2 c58
            refine e_iconst dX7_oneOf_131 ci_0 ?_
            exact e_zret dX7_oneOf_132 rfl (nar_z (Or.inl rfl)) ⟨_, rfl, h⟩
        · replace h := h.2 c45
          refine e_iload_n dX7_oneOf_103 rfl rfl ?_
          refine e_bipush dX7_oneOf_104 cb_62 ?_
          refine e_icmp_eq (tgt := 117) dX7_oneOf_106 (by decide) (fun c65 => ?_) (fun c65 => ?_)
          · replace h := h.1 c65
            refine e_aload_n dX7_oneOf_117 rfl rfl ?_
            refine e_iload_n dX7_oneOf_118 rfl rfl ?_
            obtain ⟨Q66, hc67, h⟩ := h
            refine e_callV (M' := M_X7_take) (as := [.int (fn_X7_kind σ40)]) (rest := []) dX7_oneOf_119 ml_X7_52 mk_X7_take (ob_5 hn) rfl rfl rfl (Nat.le_of_ble_eq_true rfl) (show 0 < d by omega) hc67 (Md_le (b := md_X7_oneOf) (by decide)) (fun v σ68 hq hf => ?_)
            obtain ⟨v69, rfl, hq⟩ := hq
            replace h := h v69 σ68 hq hf
            refine e_pop dX7_oneOf_122 rfl ?_
            refine e_aload_n dX7_oneOf_123 rfl rfl ?_
            refine e_iload_n dX7_oneOf_124 rfl rfl ?_
            obtain ⟨Q72, hc73, h⟩ := h
            refine e_callV (M' := M_X7_expression) (as := [.int a1]) (rest := []) dX7_oneOf_125 ml_X7_56 mk_X7_expression (ob_5 hn) rfl rfl rfl (Nat.le_of_ble_eq_true rfl) (show 0 < d by omega) hc73 (Md_le (b := md_X7_oneOf) (by decide)) (fun v σ74 hq hf => ?_)
            obtain ⟨v75, rfl, hq⟩ := hq
            replace h := h v75 σ74 hq hf
            refine e_if_ne (tgt := 133) dX7_oneOf_128 (by decide) (fun c78 => ?_) (fun c78 => ?_)
            · replace h := h.1 c78
              refine e_aload_n dX7_oneOf_133 rfl rfl ?_
              refine e_iload_n dX7_oneOf_134 rfl rfl ?_
              refine e_ineg dX7_oneOf_135 ?_
              obtain ⟨Q79, hc80, h⟩ := h
              refine e_callV (M' := M_X7_emit) (as := [.int (-(fn_X7_kind σ40))]) (rest := []) dX7_oneOf_136 ml_X7_62 mk_X7_emit (ob_5 hn) rfl rfl rfl (Nat.le_of_ble_eq_true rfl) (show 0 < d by omega) hc80 (Md_le (b := md_X7_oneOf) (by decide)) (fun v σ81 hq hf => ?_)
              obtain ⟨rfl, hq⟩ := hq
              replace h := h σ81 hq hf
              refine e_iconst dX7_oneOf_139 ci_1 ?_
              exact e_zret dX7_oneOf_140 rfl (nar_z (Or.inr rfl)) ⟨_, rfl, h⟩
            · replace h := h.2 c78
              refine e_iconst dX7_oneOf_131 ci_0 ?_
              exact e_zret dX7_oneOf_132 rfl (nar_z (Or.inl rfl)) ⟨_, rfl, h⟩
          · replace h := h.2 c65
            refine e_iload_n dX7_oneOf_109 rfl rfl ?_
            refine e_bipush dX7_oneOf_110 cb_61 ?_
            refine e_icmp_eq (tgt := 117) dX7_oneOf_112 (by decide) (fun c85 => ?_) (fun c85 => ?_)
            · replace h := h.1 c85
              refine e_aload_n dX7_oneOf_117 rfl rfl ?_
              refine e_iload_n dX7_oneOf_118 rfl rfl ?_
              obtain ⟨Q86, hc87, h⟩ := h
              refine e_callV (M' := M_X7_take) (as := [.int (fn_X7_kind σ40)]) (rest := []) dX7_oneOf_119 ml_X7_52 mk_X7_take (ob_5 hn) rfl rfl rfl (Nat.le_of_ble_eq_true rfl) (show 0 < d by omega) hc87 (Md_le (b := md_X7_oneOf) (by decide)) (fun v σ88 hq hf => ?_)
              obtain ⟨v89, rfl, hq⟩ := hq
              replace h := h v89 σ88 hq hf
              refine e_pop dX7_oneOf_122 rfl ?_
              refine e_aload_n dX7_oneOf_123 rfl rfl ?_
              refine e_iload_n dX7_oneOf_124 rfl rfl ?_
              obtain ⟨Q92, hc93, h⟩ := h
              refine e_callV (M' := M_X7_expression) (as := [.int a1]) (rest := []) dX7_oneOf_125 ml_X7_56 mk_X7_expression (ob_5 hn) rfl rfl rfl (Nat.le_of_ble_eq_true rfl) (show 0 < d by omega) hc93 (Md_le (b := md_X7_oneOf) (by decide)) (fun v σ94 hq hf => ?_)
              obtain ⟨v95, rfl, hq⟩ := hq
              replace h := h v95 σ94 hq hf
              refine e_if_ne (tgt := 133) dX7_oneOf_128 (by decide) (fun c98 => ?_) (fun c98 => ?_)
              · replace h := h.1 c98
                refine e_aload_n dX7_oneOf_133 rfl rfl ?_
                refine e_iload_n dX7_oneOf_134 rfl rfl ?_
                refine e_ineg dX7_oneOf_135 ?_
                obtain ⟨Q99, hc100, h⟩ := h
                refine e_callV (M' := M_X7_emit) (as := [.int (-(fn_X7_kind σ40))]) (rest := []) dX7_oneOf_136 ml_X7_62 mk_X7_emit (ob_5 hn) rfl rfl rfl (Nat.le_of_ble_eq_true rfl) (show 0 < d by omega) hc100 (Md_le (b := md_X7_oneOf) (by decide)) (fun v σ101 hq hf => ?_)
                obtain ⟨rfl, hq⟩ := hq
                replace h := h σ101 hq hf
                refine e_iconst dX7_oneOf_139 ci_1 ?_
                exact e_zret dX7_oneOf_140 rfl (nar_z (Or.inr rfl)) ⟨_, rfl, h⟩
              · replace h := h.2 c98
                refine e_iconst dX7_oneOf_131 ci_0 ?_
                exact e_zret dX7_oneOf_132 rfl (nar_z (Or.inl rfl)) ⟨_, rfl, h⟩
            · replace h := h.2 c85
              refine e_iconst dX7_oneOf_115 ci_0 ?_
              exact e_zret dX7_oneOf_116 rfl (nar_z (Or.inl rfl)) ⟨_, rfl, h⟩
      · replace h := h.2 c44
        refine e_iconst dX7_oneOf_90 ci_0 ?_
        exact e_zret dX7_oneOf_91 rfl (nar_z (Or.inl rfl)) ⟨_, rfl, h⟩
    · replace h := h.2 c37
      refine e_iload_n dX7_oneOf_17 rfl rfl ?_
      refine e_bipush dX7_oneOf_18 cb_9 ?_
      refine e_icmp_lt (tgt := 25) dX7_oneOf_20 (by decide) (fun c105 => ?_) (fun c105 => ?_)
      · replace h := h.1 c105
        refine e_aload_n dX7_oneOf_25 rfl rfl ?_
        refine e_iload_n dX7_oneOf_26 rfl rfl ?_
        obtain ⟨Q106, hc107, h⟩ := h
        refine e_callV (M' := M_X7_take) (as := [.int (fn_X7_kind σ)]) (rest := []) dX7_oneOf_27 ml_X7_52 mk_X7_take (ob_5 hn) rfl rfl rfl (Nat.le_of_ble_eq_true rfl) (show 0 < d by omega) hc107 (Md_le (b := md_X7_oneOf) (by decide)) (fun v σ108 hq hf => ?_)
        obtain ⟨v109, rfl, hq⟩ := hq
        replace h := h v109 σ108 hq hf
        refine e_pop dX7_oneOf_30 rfl ?_
        refine e_iload_n dX7_oneOf_31 rfl rfl ?_
        refine e_bipush dX7_oneOf_32 cb_91 ?_
        refine e_icmp_ne (tgt := 62) dX7_oneOf_34 (by decide) (fun c112 => ?_) (fun c112 => ?_)
        · replace h := h.1 c112
          refine e_aload_n dX7_oneOf_62 rfl rfl ?_
          refine e_iload_n dX7_oneOf_63 rfl rfl ?_
          refine e_iconst dX7_oneOf_64 ci_1 ?_
          refine e_iadd dX7_oneOf_65 ?_
          obtain ⟨Q113, hc114, h⟩ := h
          refine e_callV (M' := M_X7_oneOf) (as := [.int (a1 + 1)]) (rest := []) dX7_oneOf_66 ml_X7_65 mk_X7_oneOf (ob_5 hn) rfl rfl rfl (Nat.le_of_ble_eq_true rfl) (show 0 < d by omega) hc114 (Md_le (b := md_X7_oneOf) (by decide)) (fun v σ115 hq hf => ?_)
          obtain ⟨v116, rfl, hq⟩ := hq
          replace h := h v116 σ115 hq hf
          refine e_if_ne (tgt := 74) dX7_oneOf_69 (by decide) (fun c119 => ?_) (fun c119 => ?_)
          · replace h := h.1 c119
            refine e_aload_n dX7_oneOf_74 rfl rfl ?_
            refine e_bipush dX7_oneOf_75 cb_m6 ?_
            obtain ⟨Q120, hc121, h⟩ := h
            refine e_callV (M' := M_X7_emit) (as := [.int (-6)]) (rest := []) dX7_oneOf_77 ml_X7_62 mk_X7_emit (ob_5 hn) rfl rfl rfl (Nat.le_of_ble_eq_true rfl) (show 0 < d by omega) hc121 (Md_le (b := md_X7_oneOf) (by decide)) (fun v σ122 hq hf => ?_)
            obtain ⟨rfl, hq⟩ := hq
            replace h := h σ122 hq hf
            refine e_iconst dX7_oneOf_80 ci_1 ?_
            exact e_zret dX7_oneOf_81 rfl (nar_z (Or.inr rfl)) ⟨_, rfl, h⟩
          · replace h := h.2 c119
            refine e_iconst dX7_oneOf_72 ci_0 ?_
            exact e_zret dX7_oneOf_73 rfl (nar_z (Or.inl rfl)) ⟨_, rfl, h⟩
        · replace h := h.2 c112
          refine e_aload_n dX7_oneOf_37 rfl rfl ?_
          refine e_iload_n dX7_oneOf_38 rfl rfl ?_
          refine e_iconst dX7_oneOf_39 ci_1 ?_
          refine e_iadd dX7_oneOf_40 ?_
          obtain ⟨Q126, hc127, h⟩ := h
          refine e_callV (M' := M_X7_anyOf) (as := [.int (a1 + 1)]) (rest := []) dX7_oneOf_41 ml_X7_59 mk_X7_anyOf (ob_5 hn) rfl rfl rfl (Nat.le_of_ble_eq_true rfl) (show 0 < d by omega) hc127 (Md_le (b := md_X7_oneOf) (by decide)) (fun v σ128 hq hf => ?_)
          obtain ⟨v129, rfl, hq⟩ := hq
          replace h := h v129 σ128 hq hf
          refine e_if_eq (tgt := 60) dX7_oneOf_44 (by decide) (fun c132 => ?_) (fun c132 => ?_)
          · replace h := h.1 c132
            refine e_iconst dX7_oneOf_60 ci_0 ?_
            exact e_zret dX7_oneOf_61 rfl (nar_z (Or.inl rfl)) ⟨_, rfl, h⟩
          · replace h := h.2 c132
            refine e_aload_n dX7_oneOf_47 rfl rfl ?_
            refine e_bipush dX7_oneOf_48 cb_93 ?_
            obtain ⟨Q133, hc134, h⟩ := h
            refine e_callV (M' := M_X7_take) (as := [.int 93]) (rest := []) dX7_oneOf_50 ml_X7_52 mk_X7_take (ob_5 hn) rfl rfl rfl (Nat.le_of_ble_eq_true rfl) (show 0 < d by omega) hc134 (Md_le (b := md_X7_oneOf) (by decide)) (fun v σ135 hq hf => ?_)
            obtain ⟨v136, rfl, hq⟩ := hq
            replace h := h v136 σ135 hq hf
            refine e_if_eq (tgt := 60) dX7_oneOf_53 (by decide) (fun c139 => ?_) (fun c139 => ?_)
            · replace h := h.1 c139
              refine e_iconst dX7_oneOf_60 ci_0 ?_
              exact e_zret dX7_oneOf_61 rfl (nar_z (Or.inl rfl)) ⟨_, rfl, h⟩
            · replace h := h.2 c139
              refine e_iconst dX7_oneOf_56 ci_1 ?_
              refine e_goto (tgt := 61) dX7_oneOf_57 (by decide) ?_
              exact e_zret dX7_oneOf_61 rfl (nar_z (Or.inr rfl)) ⟨_, rfl, h⟩
      · replace h := h.2 c105
        refine e_iconst dX7_oneOf_23 ci_0 ?_
        exact e_zret dX7_oneOf_24 rfl (nar_z (Or.inl rfl)) ⟨_, rfl, h⟩
abbrev K_X7_anyOf_7 (d n : Nat) (σ0 : St) (Q : Int32 → St → Prop) (σ : St) (x1 : Int32) (x2 : Int32) (x3 : Int32) (x4 : Int32) : Prop := Ev (d, n, md_X7_anyOf, σ0, liI Q) M_X7_anyOf 7 [some (.ref 5), some (.int x1), some (.int x2), some (.int x3), some (.int x4)] [] σ
theorem B_X7_anyOf_7 {d n : Nat} {σ0 : St} {Q : Int32 → St → Prop}  {σ : St} {x1 : Int32} {x2 : Int32} {x3 : Int32} {x4 : Int32} (hn : FIX ≤ n) (hd : 1 ≤ d) (h : (((400 : Int32) ≤ x4 → Q 0 σ) ∧ (¬ (400 : Int32) ≤ x4 → ∃ Q2 : Int32 → St → Prop, Cn (d - 1) n M_X7_oneOf md_X7_oneOf [.ref 5, .int x1] σ (liI Q2) ∧ ∀ (v5 : Int32) (σ4 : St), Q2 v5 σ4 → Fr md_X7_oneOf σ σ4 → ((v5 ≠ 0 → ((x2 = 0 → ∃ Q10 : Int32 → St → Prop, Cn (d - 1) n M_X7_take md_X7_take [.ref 5, .int 5] σ4 (liI Q10) ∧ ∀ (v13 : Int32) (σ12 : St), Q10 v13 σ12 → Fr md_X7_take σ4 σ12 → ((v13 ≠ 0 → K_X7_anyOf_7 d n σ0 Q σ12 x1 v13 x3 (x4 + 1)) ∧ (v13 = 0 → ((x3 = 0 → ∃ Q18 : Int32 → St → Prop, Cn (d - 1) n M_X7_take md_X7_take [.ref 5, .int 4] σ12 (liI Q18) ∧ ∀ (v21 : Int32) (σ20 : St), Q18 v21 σ20 → Fr md_X7_take σ12 σ20 → ((v21 ≠ 0 → K_X7_anyOf_7 d n σ0 Q σ20 x1 v13 v21 (x4 + 1)) ∧ (v21 = 0 → Q 1 σ20))) ∧ (¬ x3 = 0 → ∃ Q25 : St → Prop, Cn (d - 1) n M_X7_emit md_X7_emit [.ref 5, .int (-4)] σ12 (liV Q25) ∧ ∀ (σ27 : St), Q25 σ27 → Fr md_X7_emit σ12 σ27 → ∃ Q31 : Int32 → St → Prop, Cn (d - 1) n M_X7_take md_X7_take [.ref 5, .int 4] σ27 (liI Q31) ∧ ∀ (v34 : Int32) (σ33 : St), Q31 v34 σ33 → Fr md_X7_take σ27 σ33 → ((v34 ≠ 0 → K_X7_anyOf_7 d n σ0 Q σ33 x1 v13 v34 (x4 + 1)) ∧ (v34 = 0 → Q 1 σ33))))))) ∧ (¬ x2 = 0 → ∃ Q38 : St → Prop, Cn (d - 1) n M_X7_emit md_X7_emit [.ref 5, .int (-5)] σ4 (liV Q38) ∧ ∀ (σ40 : St), Q38 σ40 → Fr md_X7_emit σ4 σ40 → ∃ Q44 : Int32 → St → Prop, Cn (d - 1) n M_X7_take md_X7_take [.ref 5, .int 5] σ40 (liI Q44) ∧ ∀ (v47 : Int32) (σ46 : St), Q44 v47 σ46 → Fr md_X7_take σ40 σ46 → ((v47 ≠ 0 → K_X7_anyOf_7 d n σ0 Q σ46 x1 v47 x3 (x4 + 1)) ∧ (v47 = 0 → ((x3 = 0 → ∃ Q52 : Int32 → St → Prop, Cn (d - 1) n M_X7_take md_X7_take [.ref 5, .int 4] σ46 (liI Q52) ∧ ∀ (v55 : Int32) (σ54 : St), Q52 v55 σ54 → Fr md_X7_take σ46 σ54 → ((v55 ≠ 0 → K_X7_anyOf_7 d n σ0 Q σ54 x1 v47 v55 (x4 + 1)) ∧ (v55 = 0 → Q 1 σ54))) ∧ (¬ x3 = 0 → ∃ Q59 : St → Prop, Cn (d - 1) n M_X7_emit md_X7_emit [.ref 5, .int (-4)] σ46 (liV Q59) ∧ ∀ (σ61 : St), Q59 σ61 → Fr md_X7_emit σ46 σ61 → ∃ Q65 : Int32 → St → Prop, Cn (d - 1) n M_X7_take md_X7_take [.ref 5, .int 4] σ61 (liI Q65) ∧ ∀ (v68 : Int32) (σ67 : St), Q65 v68 σ67 → Fr md_X7_take σ61 σ67 → ((v68 ≠ 0 → K_X7_anyOf_7 d n σ0 Q σ67 x1 v47 v68 (x4 + 1)) ∧ (v68 = 0 → Q 1 σ67))))))))) ∧ (v5 = 0 → Q 0 σ4))))) : K_X7_anyOf_7 d n σ0 Q σ x1 x2 x3 x4 := by
  refine e_iload dX7_anyOf_7 rfl ?_
  refine e_sipush dX7_anyOf_9 cs_400 ?_
  refine e_icmp_ge (tgt := 73) dX7_anyOf_12 (by decide) (fun c1 => ?_) (fun c1 => ?_)
  · replace h := h.1 c1
    refine e_iconst dX7_anyOf_73 ci_0 ?_
    exact e_zret dX7_anyOf_74 rfl (nar_z (Or.inl rfl)) ⟨_, rfl, h⟩
  · replace h := h.2 c1
    refine e_aload_n dX7_anyOf_15 rfl rfl ?_
    refine e_iload_n dX7_anyOf_16 rfl rfl ?_
    obtain ⟨Q2, hc3, h⟩ := h
    refine e_callV (M' := M_X7_oneOf) (as := [.int x1]) (rest := []) dX7_anyOf_17 ml_X7_65 mk_X7_oneOf (ob_5 hn) rfl rfl rfl (Nat.le_of_ble_eq_true rfl) (show 0 < d by omega) hc3 (Md_le (b := md_X7_anyOf) (by decide)) (fun v σ4 hq hf => ?_)
    obtain ⟨v5, rfl, hq⟩ := hq
    replace h := h v5 σ4 hq hf
    refine e_if_ne (tgt := 25) dX7_anyOf_20 (by decide) (fun c8 => ?_) (fun c8 => ?_)
    · replace h := h.1 c8
      refine e_iload_n dX7_anyOf_25 rfl rfl ?_
      refine e_if_eq (tgt := 35) dX7_anyOf_26 (by decide) (fun c9 => ?_) (fun c9 => ?_)
      · replace h := h.1 c9
        refine e_aload_n dX7_anyOf_35 rfl rfl ?_
        refine e_iconst dX7_anyOf_36 ci_5 ?_
        obtain ⟨Q10, hc11, h⟩ := h
        refine e_callV (M' := M_X7_take) (as := [.int 5]) (rest := []) dX7_anyOf_37 ml_X7_52 mk_X7_take (ob_5 hn) rfl rfl rfl (Nat.le_of_ble_eq_true rfl) (show 0 < d by omega) hc11 (Md_le (b := md_X7_anyOf) (by decide)) (fun v σ12 hq hf => ?_)
        obtain ⟨v13, rfl, hq⟩ := hq
        replace h := h v13 σ12 hq hf
        refine e_istore_n dX7_anyOf_40 rfl rfl (by decide) ?_
        refine e_iload_n dX7_anyOf_41 rfl rfl ?_
        refine e_if_ne (tgt := 67) dX7_anyOf_42 (by decide) (fun c16 => ?_) (fun c16 => ?_)
        · replace h := h.1 c16
          refine e_iinc dX7_anyOf_67 rfl (ii_1 _) rfl (by decide) ?_
          refine e_goto (tgt := 7) dX7_anyOf_70 (by decide) ?_
          exact h
        · replace h := h.2 c16
          refine e_iload_n dX7_anyOf_45 rfl rfl ?_
          refine e_if_eq (tgt := 55) dX7_anyOf_46 (by decide) (fun c17 => ?_) (fun c17 => ?_)
          · replace h := h.1 c17
            refine e_aload_n dX7_anyOf_55 rfl rfl ?_
            refine e_iconst dX7_anyOf_56 ci_4 ?_
            obtain ⟨Q18, hc19, h⟩ := h
            refine e_callV (M' := M_X7_take) (as := [.int 4]) (rest := []) dX7_anyOf_57 ml_X7_52 mk_X7_take (ob_5 hn) rfl rfl rfl (Nat.le_of_ble_eq_true rfl) (show 0 < d by omega) hc19 (Md_le (b := md_X7_anyOf) (by decide)) (fun v σ20 hq hf => ?_)
            obtain ⟨v21, rfl, hq⟩ := hq
            replace h := h v21 σ20 hq hf
            refine e_istore_n dX7_anyOf_60 rfl rfl (by decide) ?_
            refine e_iload_n dX7_anyOf_61 rfl rfl ?_
            refine e_if_ne (tgt := 67) dX7_anyOf_62 (by decide) (fun c24 => ?_) (fun c24 => ?_)
            · replace h := h.1 c24
              refine e_iinc dX7_anyOf_67 rfl (ii_1 _) rfl (by decide) ?_
              refine e_goto (tgt := 7) dX7_anyOf_70 (by decide) ?_
              exact h
            · replace h := h.2 c24
              refine e_iconst dX7_anyOf_65 ci_1 ?_
              exact e_zret dX7_anyOf_66 rfl (nar_z (Or.inr rfl)) ⟨_, rfl, h⟩
          · replace h := h.2 c17
            refine e_aload_n dX7_anyOf_49 rfl rfl ?_
            refine e_bipush dX7_anyOf_50 cb_m4 ?_
            obtain ⟨Q25, hc26, h⟩ := h
            refine e_callV (M' := M_X7_emit) (as := [.int (-4)]) (rest := []) dX7_anyOf_52 ml_X7_62 mk_X7_emit (ob_5 hn) rfl rfl rfl (Nat.le_of_ble_eq_true rfl) (show 0 < d by omega) hc26 (Md_le (b := md_X7_anyOf) (by decide)) (fun v σ27 hq hf => ?_)
            obtain ⟨rfl, hq⟩ := hq
            replace h := h σ27 hq hf
            refine e_aload_n dX7_anyOf_55 rfl rfl ?_
            refine e_iconst dX7_anyOf_56 ci_4 ?_
            obtain ⟨Q31, hc32, h⟩ := h
            refine e_callV (M' := M_X7_take) (as := [.int 4]) (rest := []) dX7_anyOf_57 ml_X7_52 mk_X7_take (ob_5 hn) rfl rfl rfl (Nat.le_of_ble_eq_true rfl) (show 0 < d by omega) hc32 (Md_le (b := md_X7_anyOf) (by decide)) (fun v σ33 hq hf => ?_)
            obtain ⟨v34, rfl, hq⟩ := hq
            replace h := h v34 σ33 hq hf
            refine e_istore_n dX7_anyOf_60 rfl rfl (by decide) ?_
            refine e_iload_n dX7_anyOf_61 rfl rfl ?_
            refine e_if_ne (tgt := 67) dX7_anyOf_62 (by decide) (fun c37 => ?_) (fun c37 => ?_)
            · replace h := h.1 c37
              refine e_iinc dX7_anyOf_67 rfl (ii_1 _) rfl (by decide) ?_
              refine e_goto (tgt := 7) dX7_anyOf_70 (by decide) ?_
              exact h
            · replace h := h.2 c37
              refine e_iconst dX7_anyOf_65 ci_1 ?_
              exact e_zret dX7_anyOf_66 rfl (nar_z (Or.inr rfl)) ⟨_, rfl, h⟩
      · replace h := h.2 c9
        refine e_aload_n dX7_anyOf_29 rfl rfl ?_
        refine e_bipush dX7_anyOf_30 cb_m5 ?_
        obtain ⟨Q38, hc39, h⟩ := h
        refine e_callV (M' := M_X7_emit) (as := [.int (-5)]) (rest := []) dX7_anyOf_32 ml_X7_62 mk_X7_emit (ob_5 hn) rfl rfl rfl (Nat.le_of_ble_eq_true rfl) (show 0 < d by omega) hc39 (Md_le (b := md_X7_anyOf) (by decide)) (fun v σ40 hq hf => ?_)
        obtain ⟨rfl, hq⟩ := hq
        replace h := h σ40 hq hf
        refine e_aload_n dX7_anyOf_35 rfl rfl ?_
        refine e_iconst dX7_anyOf_36 ci_5 ?_
        obtain ⟨Q44, hc45, h⟩ := h
        refine e_callV (M' := M_X7_take) (as := [.int 5]) (rest := []) dX7_anyOf_37 ml_X7_52 mk_X7_take (ob_5 hn) rfl rfl rfl (Nat.le_of_ble_eq_true rfl) (show 0 < d by omega) hc45 (Md_le (b := md_X7_anyOf) (by decide)) (fun v σ46 hq hf => ?_)
        obtain ⟨v47, rfl, hq⟩ := hq
        replace h := h v47 σ46 hq hf
        refine e_istore_n dX7_anyOf_40 rfl rfl (by decide) ?_
        refine e_iload_n dX7_anyOf_41 rfl rfl ?_
        refine e_if_ne (tgt := 67) dX7_anyOf_42 (by decide) (fun c50 => ?_) (fun c50 => ?_)
        · replace h := h.1 c50
          refine e_iinc dX7_anyOf_67 rfl (ii_1 _) rfl (by decide) ?_
          refine e_goto (tgt := 7) dX7_anyOf_70 (by decide) ?_
          exact h
        · replace h := h.2 c50
          refine e_iload_n dX7_anyOf_45 rfl rfl ?_
          refine e_if_eq (tgt := 55) dX7_anyOf_46 (by decide) (fun c51 => ?_) (fun c51 => ?_)
          · replace h := h.1 c51
            refine e_aload_n dX7_anyOf_55 rfl rfl ?_
            refine e_iconst dX7_anyOf_56 ci_4 ?_
            obtain ⟨Q52, hc53, h⟩ := h
            refine e_callV (M' := M_X7_take) (as := [.int 4]) (rest := []) dX7_anyOf_57 ml_X7_52 mk_X7_take (ob_5 hn) rfl rfl rfl (Nat.le_of_ble_eq_true rfl) (show 0 < d by omega) hc53 (Md_le (b := md_X7_anyOf) (by decide)) (fun v σ54 hq hf => ?_)
            obtain ⟨v55, rfl, hq⟩ := hq
            replace h := h v55 σ54 hq hf
            refine e_istore_n dX7_anyOf_60 rfl rfl (by decide) ?_
            refine e_iload_n dX7_anyOf_61 rfl rfl ?_
            refine e_if_ne (tgt := 67) dX7_anyOf_62 (by decide) (fun c58 => ?_) (fun c58 => ?_)
            · replace h := h.1 c58
              refine e_iinc dX7_anyOf_67 rfl (ii_1 _) rfl (by decide) ?_
              refine e_goto (tgt := 7) dX7_anyOf_70 (by decide) ?_
              exact h
            · replace h := h.2 c58
              refine e_iconst dX7_anyOf_65 ci_1 ?_
              exact e_zret dX7_anyOf_66 rfl (nar_z (Or.inr rfl)) ⟨_, rfl, h⟩
          · replace h := h.2 c51
            refine e_aload_n dX7_anyOf_49 rfl rfl ?_
            refine e_bipush dX7_anyOf_50 cb_m4 ?_
            obtain ⟨Q59, hc60, h⟩ := h
            refine e_callV (M' := M_X7_emit) (as := [.int (-4)]) (rest := []) dX7_anyOf_52 ml_X7_62 mk_X7_emit (ob_5 hn) rfl rfl rfl (Nat.le_of_ble_eq_true rfl) (show 0 < d by omega) hc60 (Md_le (b := md_X7_anyOf) (by decide)) (fun v σ61 hq hf => ?_)
            obtain ⟨rfl, hq⟩ := hq
            replace h := h σ61 hq hf
            refine e_aload_n dX7_anyOf_55 rfl rfl ?_
            refine e_iconst dX7_anyOf_56 ci_4 ?_
            obtain ⟨Q65, hc66, h⟩ := h
            refine e_callV (M' := M_X7_take) (as := [.int 4]) (rest := []) dX7_anyOf_57 ml_X7_52 mk_X7_take (ob_5 hn) rfl rfl rfl (Nat.le_of_ble_eq_true rfl) (show 0 < d by omega) hc66 (Md_le (b := md_X7_anyOf) (by decide)) (fun v σ67 hq hf => ?_)
            obtain ⟨v68, rfl, hq⟩ := hq
            replace h := h v68 σ67 hq hf
            refine e_istore_n dX7_anyOf_60 rfl rfl (by decide) ?_
            refine e_iload_n dX7_anyOf_61 rfl rfl ?_
            refine e_if_ne (tgt := 67) dX7_anyOf_62 (by decide) (fun c71 => ?_) (fun c71 => ?_)
            · replace h := h.1 c71
              refine e_iinc dX7_anyOf_67 rfl (ii_1 _) rfl (by decide) ?_
              refine e_goto (tgt := 7) dX7_anyOf_70 (by decide) ?_
              exact h
            · replace h := h.2 c71
              refine e_iconst dX7_anyOf_65 ci_1 ?_
              exact e_zret dX7_anyOf_66 rfl (nar_z (Or.inr rfl)) ⟨_, rfl, h⟩
    · replace h := h.2 c8
      refine e_iconst dX7_anyOf_23 ci_0 ?_
      exact e_zret dX7_anyOf_24 rfl (nar_z (Or.inl rfl)) ⟨_, rfl, h⟩
theorem S_X7_anyOf {d n : Nat} {Q : Int32 → St → Prop} {σ : St} {a1 : Int32} (hn : FIX ≤ n) (hd : 1 ≤ d) (h : K_X7_anyOf_7 d n σ Q σ a1 0 0 0) : Cn d n M_X7_anyOf md_X7_anyOf [.ref 5, .int a1] σ (liI Q) := by
  refine Cn.of (k0 := 3) (by decide) rfl ?_
  show Ev (d, n, md_X7_anyOf, σ, liI Q) M_X7_anyOf 0 [some (.ref 5), some (.int a1), none, none, none] [] σ
  refine e_iconst dX7_anyOf_0 ci_0 ?_
  refine e_istore_n dX7_anyOf_1 rfl rfl (by decide) ?_
  refine e_iconst dX7_anyOf_2 ci_0 ?_
  refine e_istore_n dX7_anyOf_3 rfl rfl (by decide) ?_
  refine e_iconst dX7_anyOf_4 ci_0 ?_
  refine e_istore dX7_anyOf_5 rfl (by decide) ?_
  exact h
theorem S_X7_statement {d n : Nat} {Q : Int32 → St → Prop} {σ : St}  (hn : FIX ≤ n) (hd : 1 ≤ d) (h : pre_X7_kind σ ∧ (((fn_X7_kind σ) = 1 → ∃ Q2 : Int32 → St → Prop, Cn (d - 1) n M_X7_take md_X7_take [.ref 5, .int (fn_X7_kind σ)] σ (liI Q2) ∧ ∀ (v5 : Int32) (σ4 : St), Q2 v5 σ4 → Fr md_X7_take σ σ4 → (((fn_X7_kind σ) ≠ 1 → ∃ Q9 : Int32 → St → Prop, Cn (d - 1) n M_X7_take md_X7_take [.ref 5, .int 3] σ4 (liI Q9) ∧ ∀ (v12 : Int32) (σ11 : St), Q9 v12 σ11 → Fr md_X7_take σ4 σ11 → ((v12 = 0 → ∃ Q16 : St → Prop, Cn (d - 1) n M_X7_emit md_X7_emit [.ref 5, .int 1] σ11 (liV Q16) ∧ ∀ (σ18 : St), Q16 σ18 → Fr md_X7_emit σ11 σ18 → ∃ Q22 : Int32 → St → Prop, Cn (d - 1) n M_X7_take md_X7_take [.ref 5, .int 59] σ18 (liI Q22) ∧ ∀ (v25 : Int32) (σ24 : St), Q22 v25 σ24 → Fr md_X7_take σ18 σ24 → ((v25 ≠ 0 → ∃ Q29 : St → Prop, Cn (d - 1) n M_X7_emit md_X7_emit [.ref 5, .int (-(fn_X7_kind σ))] σ24 (liV Q29) ∧ ∀ (σ31 : St), Q29 σ31 → Fr md_X7_emit σ24 σ31 → Q 1 σ31) ∧ (v25 = 0 → Q 0 σ24))) ∧ (¬ v12 = 0 → ∃ Q35 : Int32 → St → Prop, Cn (d - 1) n M_X7_anyOf md_X7_anyOf [.ref 5, .int 0] σ11 (liI Q35) ∧ ∀ (v38 : Int32) (σ37 : St), Q35 v38 σ37 → Fr md_X7_anyOf σ11 σ37 → ((v38 ≠ 0 → ∃ Q42 : Int32 → St → Prop, Cn (d - 1) n M_X7_take md_X7_take [.ref 5, .int 59] σ37 (liI Q42) ∧ ∀ (v45 : Int32) (σ44 : St), Q42 v45 σ44 → Fr md_X7_take σ37 σ44 → ((v45 ≠ 0 → ∃ Q49 : St → Prop, Cn (d - 1) n M_X7_emit md_X7_emit [.ref 5, .int (-(fn_X7_kind σ))] σ44 (liV Q49) ∧ ∀ (σ51 : St), Q49 σ51 → Fr md_X7_emit σ44 σ51 → Q 1 σ51) ∧ (v45 = 0 → Q 0 σ44))) ∧ (v38 = 0 → Q 0 σ37))))) ∧ ((fn_X7_kind σ) = 1 → ∃ Q55 : Int32 → St → Prop, Cn (d - 1) n M_X7_expression md_X7_expression [.ref 5, .int 0] σ4 (liI Q55) ∧ ∀ (v58 : Int32) (σ57 : St), Q55 v58 σ57 → Fr md_X7_expression σ4 σ57 → ((v58 ≠ 0 → ∃ Q62 : Int32 → St → Prop, Cn (d - 1) n M_X7_take md_X7_take [.ref 5, .int 3] σ57 (liI Q62) ∧ ∀ (v65 : Int32) (σ64 : St), Q62 v65 σ64 → Fr md_X7_take σ57 σ64 → ((v65 = 0 → ∃ Q69 : St → Prop, Cn (d - 1) n M_X7_emit md_X7_emit [.ref 5, .int 1] σ64 (liV Q69) ∧ ∀ (σ71 : St), Q69 σ71 → Fr md_X7_emit σ64 σ71 → ∃ Q75 : Int32 → St → Prop, Cn (d - 1) n M_X7_take md_X7_take [.ref 5, .int 59] σ71 (liI Q75) ∧ ∀ (v78 : Int32) (σ77 : St), Q75 v78 σ77 → Fr md_X7_take σ71 σ77 → ((v78 ≠ 0 → ∃ Q82 : St → Prop, Cn (d - 1) n M_X7_emit md_X7_emit [.ref 5, .int (-(fn_X7_kind σ))] σ77 (liV Q82) ∧ ∀ (σ84 : St), Q82 σ84 → Fr md_X7_emit σ77 σ84 → Q 1 σ84) ∧ (v78 = 0 → Q 0 σ77))) ∧ (¬ v65 = 0 → ∃ Q88 : Int32 → St → Prop, Cn (d - 1) n M_X7_anyOf md_X7_anyOf [.ref 5, .int 0] σ64 (liI Q88) ∧ ∀ (v91 : Int32) (σ90 : St), Q88 v91 σ90 → Fr md_X7_anyOf σ64 σ90 → ((v91 ≠ 0 → ∃ Q95 : Int32 → St → Prop, Cn (d - 1) n M_X7_take md_X7_take [.ref 5, .int 59] σ90 (liI Q95) ∧ ∀ (v98 : Int32) (σ97 : St), Q95 v98 σ97 → Fr md_X7_take σ90 σ97 → ((v98 ≠ 0 → ∃ Q102 : St → Prop, Cn (d - 1) n M_X7_emit md_X7_emit [.ref 5, .int (-(fn_X7_kind σ))] σ97 (liV Q102) ∧ ∀ (σ104 : St), Q102 σ104 → Fr md_X7_emit σ97 σ104 → Q 1 σ104) ∧ (v98 = 0 → Q 0 σ97))) ∧ (v91 = 0 → Q 0 σ90))))) ∧ (v58 = 0 → Q 0 σ57))))) ∧ (¬ (fn_X7_kind σ) = 1 → (((fn_X7_kind σ) = 2 → ∃ Q109 : Int32 → St → Prop, Cn (d - 1) n M_X7_take md_X7_take [.ref 5, .int (fn_X7_kind σ)] σ (liI Q109) ∧ ∀ (v112 : Int32) (σ111 : St), Q109 v112 σ111 → Fr md_X7_take σ σ111 → (((fn_X7_kind σ) ≠ 1 → ∃ Q116 : Int32 → St → Prop, Cn (d - 1) n M_X7_take md_X7_take [.ref 5, .int 3] σ111 (liI Q116) ∧ ∀ (v119 : Int32) (σ118 : St), Q116 v119 σ118 → Fr md_X7_take σ111 σ118 → ((v119 = 0 → ∃ Q123 : St → Prop, Cn (d - 1) n M_X7_emit md_X7_emit [.ref 5, .int 1] σ118 (liV Q123) ∧ ∀ (σ125 : St), Q123 σ125 → Fr md_X7_emit σ118 σ125 → ∃ Q129 : Int32 → St → Prop, Cn (d - 1) n M_X7_take md_X7_take [.ref 5, .int 59] σ125 (liI Q129) ∧ ∀ (v132 : Int32) (σ131 : St), Q129 v132 σ131 → Fr md_X7_take σ125 σ131 → ((v132 ≠ 0 → ∃ Q136 : St → Prop, Cn (d - 1) n M_X7_emit md_X7_emit [.ref 5, .int (-(fn_X7_kind σ))] σ131 (liV Q136) ∧ ∀ (σ138 : St), Q136 σ138 → Fr md_X7_emit σ131 σ138 → Q 1 σ138) ∧ (v132 = 0 → Q 0 σ131))) ∧ (¬ v119 = 0 → ∃ Q142 : Int32 → St → Prop, Cn (d - 1) n M_X7_anyOf md_X7_anyOf [.ref 5, .int 0] σ118 (liI Q142) ∧ ∀ (v145 : Int32) (σ144 : St), Q142 v145 σ144 → Fr md_X7_anyOf σ118 σ144 → ((v145 ≠ 0 → ∃ Q149 : Int32 → St → Prop, Cn (d - 1) n M_X7_take md_X7_take [.ref 5, .int 59] σ144 (liI Q149) ∧ ∀ (v152 : Int32) (σ151 : St), Q149 v152 σ151 → Fr md_X7_take σ144 σ151 → ((v152 ≠ 0 → ∃ Q156 : St → Prop, Cn (d - 1) n M_X7_emit md_X7_emit [.ref 5, .int (-(fn_X7_kind σ))] σ151 (liV Q156) ∧ ∀ (σ158 : St), Q156 σ158 → Fr md_X7_emit σ151 σ158 → Q 1 σ158) ∧ (v152 = 0 → Q 0 σ151))) ∧ (v145 = 0 → Q 0 σ144))))) ∧ ((fn_X7_kind σ) = 1 → ∃ Q162 : Int32 → St → Prop, Cn (d - 1) n M_X7_expression md_X7_expression [.ref 5, .int 0] σ111 (liI Q162) ∧ ∀ (v165 : Int32) (σ164 : St), Q162 v165 σ164 → Fr md_X7_expression σ111 σ164 → ((v165 ≠ 0 → ∃ Q169 : Int32 → St → Prop, Cn (d - 1) n M_X7_take md_X7_take [.ref 5, .int 3] σ164 (liI Q169) ∧ ∀ (v172 : Int32) (σ171 : St), Q169 v172 σ171 → Fr md_X7_take σ164 σ171 → ((v172 = 0 → ∃ Q176 : St → Prop, Cn (d - 1) n M_X7_emit md_X7_emit [.ref 5, .int 1] σ171 (liV Q176) ∧ ∀ (σ178 : St), Q176 σ178 → Fr md_X7_emit σ171 σ178 → ∃ Q182 : Int32 → St → Prop, Cn (d - 1) n M_X7_take md_X7_take [.ref 5, .int 59] σ178 (liI Q182) ∧ ∀ (v185 : Int32) (σ184 : St), Q182 v185 σ184 → Fr md_X7_take σ178 σ184 → ((v185 ≠ 0 → ∃ Q189 : St → Prop, Cn (d - 1) n M_X7_emit md_X7_emit [.ref 5, .int (-(fn_X7_kind σ))] σ184 (liV Q189) ∧ ∀ (σ191 : St), Q189 σ191 → Fr md_X7_emit σ184 σ191 → Q 1 σ191) ∧ (v185 = 0 → Q 0 σ184))) ∧ (¬ v172 = 0 → ∃ Q195 : Int32 → St → Prop, Cn (d - 1) n M_X7_anyOf md_X7_anyOf [.ref 5, .int 0] σ171 (liI Q195) ∧ ∀ (v198 : Int32) (σ197 : St), Q195 v198 σ197 → Fr md_X7_anyOf σ171 σ197 → ((v198 ≠ 0 → ∃ Q202 : Int32 → St → Prop, Cn (d - 1) n M_X7_take md_X7_take [.ref 5, .int 59] σ197 (liI Q202) ∧ ∀ (v205 : Int32) (σ204 : St), Q202 v205 σ204 → Fr md_X7_take σ197 σ204 → ((v205 ≠ 0 → ∃ Q209 : St → Prop, Cn (d - 1) n M_X7_emit md_X7_emit [.ref 5, .int (-(fn_X7_kind σ))] σ204 (liV Q209) ∧ ∀ (σ211 : St), Q209 σ211 → Fr md_X7_emit σ204 σ211 → Q 1 σ211) ∧ (v205 = 0 → Q 0 σ204))) ∧ (v198 = 0 → Q 0 σ197))))) ∧ (v165 = 0 → Q 0 σ164))))) ∧ (¬ (fn_X7_kind σ) = 2 → Q 0 σ))))) : Cn d n M_X7_statement md_X7_statement [.ref 5] σ (liI Q) := by
  refine Cn.of (k0 := 1) (by decide) rfl ?_
  show Ev (d, n, md_X7_statement, σ, liI Q) M_X7_statement 0 [some (.ref 5), none] [] σ
  refine e_aload_n dX7_statement_0 rfl rfl ?_
  refine e_callV (M' := M_X7_kind) (as := []) (rest := []) dX7_statement_1 ml_X7_35 mk_X7_kind (ob_5 hn) rfl rfl rfl (Nat.le_of_ble_eq_true rfl) (show 0 < d by omega) (sp_X7_kind hn h.1) Md_nil (fun v σv hq hf => ?_)
  obtain ⟨v, rfl, rfl, rfl⟩ := hq
  replace h := h.2
  refine e_istore_n dX7_statement_4 rfl rfl (by decide) ?_
  refine e_iload_n dX7_statement_5 rfl rfl ?_
  refine e_iconst dX7_statement_6 ci_1 ?_
  refine e_icmp_eq (tgt := 17) dX7_statement_7 (by decide) (fun c1 => ?_) (fun c1 => ?_)
  · replace h := h.1 c1
    refine e_aload_n dX7_statement_17 rfl rfl ?_
    refine e_iload_n dX7_statement_18 rfl rfl ?_
    obtain ⟨Q2, hc3, h⟩ := h
    refine e_callV (M' := M_X7_take) (as := [.int (fn_X7_kind σ)]) (rest := []) dX7_statement_19 ml_X7_52 mk_X7_take (ob_5 hn) rfl rfl rfl (Nat.le_of_ble_eq_true rfl) (show 0 < d by omega) hc3 (Md_le (b := md_X7_statement) (by decide)) (fun v σ4 hq hf => ?_)
    obtain ⟨v5, rfl, hq⟩ := hq
    replace h := h v5 σ4 hq hf
    refine e_pop dX7_statement_22 rfl ?_
    refine e_iload_n dX7_statement_23 rfl rfl ?_
    refine e_iconst dX7_statement_24 ci_1 ?_
    refine e_icmp_ne (tgt := 38) dX7_statement_25 (by decide) (fun c8 => ?_) (fun c8 => ?_)
    · replace h := h.1 c8
      refine e_aload_n dX7_statement_38 rfl rfl ?_
      refine e_iconst dX7_statement_39 ci_3 ?_
      obtain ⟨Q9, hc10, h⟩ := h
      refine e_callV (M' := M_X7_take) (as := [.int 3]) (rest := []) dX7_statement_40 ml_X7_52 mk_X7_take (ob_5 hn) rfl rfl rfl (Nat.le_of_ble_eq_true rfl) (show 0 < d by omega) hc10 (Md_le (b := md_X7_statement) (by decide)) (fun v σ11 hq hf => ?_)
      obtain ⟨v12, rfl, hq⟩ := hq
      replace h := h v12 σ11 hq hf
      refine e_if_eq (tgt := 56) dX7_statement_43 (by decide) (fun c15 => ?_) (fun c15 => ?_)
      · replace h := h.1 c15
        refine e_aload_n dX7_statement_56 rfl rfl ?_
        refine e_iconst dX7_statement_57 ci_1 ?_
        obtain ⟨Q16, hc17, h⟩ := h
        refine e_callV (M' := M_X7_emit) (as := [.int 1]) (rest := []) dX7_statement_58 ml_X7_62 mk_X7_emit (ob_5 hn) rfl rfl rfl (Nat.le_of_ble_eq_true rfl) (show 0 < d by omega) hc17 (Md_le (b := md_X7_statement) (by decide)) (fun v σ18 hq hf => ?_)
        obtain ⟨rfl, hq⟩ := hq
        replace h := h σ18 hq hf
        refine e_aload_n dX7_statement_61 rfl rfl ?_
        refine e_bipush dX7_statement_62 cb_59 ?_
        obtain ⟨Q22, hc23, h⟩ := h
        refine e_callV (M' := M_X7_take) (as := [.int 59]) (rest := []) dX7_statement_64 ml_X7_52 mk_X7_take (ob_5 hn) rfl rfl rfl (Nat.le_of_ble_eq_true rfl) (show 0 < d by omega) hc23 (Md_le (b := md_X7_statement) (by decide)) (fun v σ24 hq hf => ?_)
        obtain ⟨v25, rfl, hq⟩ := hq
        replace h := h v25 σ24 hq hf
        refine e_if_ne (tgt := 72) dX7_statement_67 (by decide) (fun c28 => ?_) (fun c28 => ?_)
        · replace h := h.1 c28
          refine e_aload_n dX7_statement_72 rfl rfl ?_
          refine e_iload_n dX7_statement_73 rfl rfl ?_
          refine e_ineg dX7_statement_74 ?_
          obtain ⟨Q29, hc30, h⟩ := h
          refine e_callV (M' := M_X7_emit) (as := [.int (-(fn_X7_kind σ))]) (rest := []) dX7_statement_75 ml_X7_62 mk_X7_emit (ob_5 hn) rfl rfl rfl (Nat.le_of_ble_eq_true rfl) (show 0 < d by omega) hc30 (Md_le (b := md_X7_statement) (by decide)) (fun v σ31 hq hf => ?_)
          obtain ⟨rfl, hq⟩ := hq
          replace h := h σ31 hq hf
          refine e_iconst dX7_statement_78 ci_1 ?_
          exact e_zret dX7_statement_79 rfl (nar_z (Or.inr rfl)) ⟨_, rfl, h⟩
        · replace h := h.2 c28
          refine e_iconst dX7_statement_70 ci_0 ?_
          exact e_zret dX7_statement_71 rfl (nar_z (Or.inl rfl)) ⟨_, rfl, h⟩
      · replace h := h.2 c15
        refine e_aload_n dX7_statement_46 rfl rfl ?_
        refine e_iconst dX7_statement_47 ci_0 ?_
        obtain ⟨Q35, hc36, h⟩ := h
        refine e_callV (M' := M_X7_anyOf) (as := [.int 0]) (rest := []) dX7_statement_48 ml_X7_59 mk_X7_anyOf (ob_5 hn) rfl rfl rfl (Nat.le_of_ble_eq_true rfl) (show 0 < d by omega) hc36 (Md_le (b := md_X7_statement) (by decide)) (fun v σ37 hq hf => ?_)
        obtain ⟨v38, rfl, hq⟩ := hq
        replace h := h v38 σ37 hq hf
        refine e_if_ne (tgt := 61) dX7_statement_51 (by decide) (fun c41 => ?_) (fun c41 => ?_)
        · replace h := h.1 c41
          refine e_aload_n dX7_statement_61 rfl rfl ?_
          refine e_bipush dX7_statement_62 cb_59 ?_
          obtain ⟨Q42, hc43, h⟩ := h
          refine e_callV (M' := M_X7_take) (as := [.int 59]) (rest := []) dX7_statement_64 ml_X7_52 mk_X7_take (ob_5 hn) rfl rfl rfl (Nat.le_of_ble_eq_true rfl) (show 0 < d by omega) hc43 (Md_le (b := md_X7_statement) (by decide)) (fun v σ44 hq hf => ?_)
          obtain ⟨v45, rfl, hq⟩ := hq
          replace h := h v45 σ44 hq hf
          refine e_if_ne (tgt := 72) dX7_statement_67 (by decide) (fun c48 => ?_) (fun c48 => ?_)
          · replace h := h.1 c48
            refine e_aload_n dX7_statement_72 rfl rfl ?_
            refine e_iload_n dX7_statement_73 rfl rfl ?_
            refine e_ineg dX7_statement_74 ?_
            obtain ⟨Q49, hc50, h⟩ := h
            refine e_callV (M' := M_X7_emit) (as := [.int (-(fn_X7_kind σ))]) (rest := []) dX7_statement_75 ml_X7_62 mk_X7_emit (ob_5 hn) rfl rfl rfl (Nat.le_of_ble_eq_true rfl) (show 0 < d by omega) hc50 (Md_le (b := md_X7_statement) (by decide)) (fun v σ51 hq hf => ?_)
            obtain ⟨rfl, hq⟩ := hq
            replace h := h σ51 hq hf
            refine e_iconst dX7_statement_78 ci_1 ?_
            exact e_zret dX7_statement_79 rfl (nar_z (Or.inr rfl)) ⟨_, rfl, h⟩
          · replace h := h.2 c48
            refine e_iconst dX7_statement_70 ci_0 ?_
            exact e_zret dX7_statement_71 rfl (nar_z (Or.inl rfl)) ⟨_, rfl, h⟩
        · replace h := h.2 c41
          refine e_iconst dX7_statement_54 ci_0 ?_
          exact e_zret dX7_statement_55 rfl (nar_z (Or.inl rfl)) ⟨_, rfl, h⟩
    · replace h := h.2 c8
      refine e_aload_n dX7_statement_28 rfl rfl ?_
      refine e_iconst dX7_statement_29 ci_0 ?_
      obtain ⟨Q55, hc56, h⟩ := h
      refine e_callV (M' := M_X7_expression) (as := [.int 0]) (rest := []) dX7_statement_30 ml_X7_56 mk_X7_expression (ob_5 hn) rfl rfl rfl (Nat.le_of_ble_eq_true rfl) (show 0 < d by omega) hc56 (Md_le (b := md_X7_statement) (by decide)) (fun v σ57 hq hf => ?_)
      obtain ⟨v58, rfl, hq⟩ := hq
      replace h := h v58 σ57 hq hf
      refine e_if_ne (tgt := 38) dX7_statement_33 (by decide) (fun c61 => ?_) (fun c61 => ?_)
      · replace h := h.1 c61
        refine e_aload_n dX7_statement_38 rfl rfl ?_
        refine e_iconst dX7_statement_39 ci_3 ?_
        obtain ⟨Q62, hc63, h⟩ := h
        refine e_callV (M' := M_X7_take) (as := [.int 3]) (rest := []) dX7_statement_40 ml_X7_52 mk_X7_take (ob_5 hn) rfl rfl rfl (Nat.le_of_ble_eq_true rfl) (show 0 < d by omega) hc63 (Md_le (b := md_X7_statement) (by decide)) (fun v σ64 hq hf => ?_)
        obtain ⟨v65, rfl, hq⟩ := hq
        replace h := h v65 σ64 hq hf
        refine e_if_eq (tgt := 56) dX7_statement_43 (by decide) (fun c68 => ?_) (fun c68 => ?_)
        · replace h := h.1 c68
          refine e_aload_n dX7_statement_56 rfl rfl ?_
          refine e_iconst dX7_statement_57 ci_1 ?_
          obtain ⟨Q69, hc70, h⟩ := h
          refine e_callV (M' := M_X7_emit) (as := [.int 1]) (rest := []) dX7_statement_58 ml_X7_62 mk_X7_emit (ob_5 hn) rfl rfl rfl (Nat.le_of_ble_eq_true rfl) (show 0 < d by omega) hc70 (Md_le (b := md_X7_statement) (by decide)) (fun v σ71 hq hf => ?_)
          obtain ⟨rfl, hq⟩ := hq
          replace h := h σ71 hq hf
          refine e_aload_n dX7_statement_61 rfl rfl ?_
          refine e_bipush dX7_statement_62 cb_59 ?_
          obtain ⟨Q75, hc76, h⟩ := h
          refine e_callV (M' := M_X7_take) (as := [.int 59]) (rest := []) dX7_statement_64 ml_X7_52 mk_X7_take (ob_5 hn) rfl rfl rfl (Nat.le_of_ble_eq_true rfl) (show 0 < d by omega) hc76 (Md_le (b := md_X7_statement) (by decide)) (fun v σ77 hq hf => ?_)
          obtain ⟨v78, rfl, hq⟩ := hq
          replace h := h v78 σ77 hq hf
          refine e_if_ne (tgt := 72) dX7_statement_67 (by decide) (fun c81 => ?_) (fun c81 => ?_)
          · replace h := h.1 c81
            refine e_aload_n dX7_statement_72 rfl rfl ?_
            refine e_iload_n dX7_statement_73 rfl rfl ?_
            refine e_ineg dX7_statement_74 ?_
            obtain ⟨Q82, hc83, h⟩ := h
            refine e_callV (M' := M_X7_emit) (as := [.int (-(fn_X7_kind σ))]) (rest := []) dX7_statement_75 ml_X7_62 mk_X7_emit (ob_5 hn) rfl rfl rfl (Nat.le_of_ble_eq_true rfl) (show 0 < d by omega) hc83 (Md_le (b := md_X7_statement) (by decide)) (fun v σ84 hq hf => ?_)
            obtain ⟨rfl, hq⟩ := hq
            replace h := h σ84 hq hf
            refine e_iconst dX7_statement_78 ci_1 ?_
            exact e_zret dX7_statement_79 rfl (nar_z (Or.inr rfl)) ⟨_, rfl, h⟩
          · replace h := h.2 c81
            refine e_iconst dX7_statement_70 ci_0 ?_
            exact e_zret dX7_statement_71 rfl (nar_z (Or.inl rfl)) ⟨_, rfl, h⟩
        · replace h := h.2 c68
          refine e_aload_n dX7_statement_46 rfl rfl ?_
          refine e_iconst dX7_statement_47 ci_0 ?_
          obtain ⟨Q88, hc89, h⟩ := h
          refine e_callV (M' := M_X7_anyOf) (as := [.int 0]) (rest := []) dX7_statement_48 ml_X7_59 mk_X7_anyOf (ob_5 hn) rfl rfl rfl (Nat.le_of_ble_eq_true rfl) (show 0 < d by omega) hc89 (Md_le (b := md_X7_statement) (by decide)) (fun v σ90 hq hf => ?_)
          obtain ⟨v91, rfl, hq⟩ := hq
          replace h := h v91 σ90 hq hf
          refine e_if_ne (tgt := 61) dX7_statement_51 (by decide) (fun c94 => ?_) (fun c94 => ?_)
          · replace h := h.1 c94
            refine e_aload_n dX7_statement_61 rfl rfl ?_
            refine e_bipush dX7_statement_62 cb_59 ?_
            obtain ⟨Q95, hc96, h⟩ := h
            refine e_callV (M' := M_X7_take) (as := [.int 59]) (rest := []) dX7_statement_64 ml_X7_52 mk_X7_take (ob_5 hn) rfl rfl rfl (Nat.le_of_ble_eq_true rfl) (show 0 < d by omega) hc96 (Md_le (b := md_X7_statement) (by decide)) (fun v σ97 hq hf => ?_)
            obtain ⟨v98, rfl, hq⟩ := hq
            replace h := h v98 σ97 hq hf
            refine e_if_ne (tgt := 72) dX7_statement_67 (by decide) (fun c101 => ?_) (fun c101 => ?_)
            · replace h := h.1 c101
              refine e_aload_n dX7_statement_72 rfl rfl ?_
              refine e_iload_n dX7_statement_73 rfl rfl ?_
              refine e_ineg dX7_statement_74 ?_
              obtain ⟨Q102, hc103, h⟩ := h
              refine e_callV (M' := M_X7_emit) (as := [.int (-(fn_X7_kind σ))]) (rest := []) dX7_statement_75 ml_X7_62 mk_X7_emit (ob_5 hn) rfl rfl rfl (Nat.le_of_ble_eq_true rfl) (show 0 < d by omega) hc103 (Md_le (b := md_X7_statement) (by decide)) (fun v σ104 hq hf => ?_)
              obtain ⟨rfl, hq⟩ := hq
              replace h := h σ104 hq hf
              refine e_iconst dX7_statement_78 ci_1 ?_
              exact e_zret dX7_statement_79 rfl (nar_z (Or.inr rfl)) ⟨_, rfl, h⟩
            · replace h := h.2 c101
              refine e_iconst dX7_statement_70 ci_0 ?_
              exact e_zret dX7_statement_71 rfl (nar_z (Or.inl rfl)) ⟨_, rfl, h⟩
          · replace h := h.2 c94
            refine e_iconst dX7_statement_54 ci_0 ?_
            exact e_zret dX7_statement_55 rfl (nar_z (Or.inl rfl)) ⟨_, rfl, h⟩
      · replace h := h.2 c61
        refine e_iconst dX7_statement_36 ci_0 ?_
        exact e_zret dX7_statement_37 rfl (nar_z (Or.inl rfl)) ⟨_, rfl, h⟩
  · replace h := h.2 c1
    refine e_iload_n dX7_statement_10 rfl rfl ?_
    refine e_iconst dX7_statement_11 ci_2 ?_
    refine e_icmp_eq (tgt := 17) dX7_statement_12 (by decide) (fun c108 => ?_) (fun c108 => ?_)
    · replace h := h.1 c108
      refine e_aload_n dX7_statement_17 rfl rfl ?_
      refine e_iload_n dX7_statement_18 rfl rfl ?_
      obtain ⟨Q109, hc110, h⟩ := h
      refine e_callV (M' := M_X7_take) (as := [.int (fn_X7_kind σ)]) (rest := []) dX7_statement_19 ml_X7_52 mk_X7_take (ob_5 hn) rfl rfl rfl (Nat.le_of_ble_eq_true rfl) (show 0 < d by omega) hc110 (Md_le (b := md_X7_statement) (by decide)) (fun v σ111 hq hf => ?_)
      obtain ⟨v112, rfl, hq⟩ := hq
      replace h := h v112 σ111 hq hf
      refine e_pop dX7_statement_22 rfl ?_
      refine e_iload_n dX7_statement_23 rfl rfl ?_
      refine e_iconst dX7_statement_24 ci_1 ?_
      refine e_icmp_ne (tgt := 38) dX7_statement_25 (by decide) (fun c115 => ?_) (fun c115 => ?_)
      · replace h := h.1 c115
        refine e_aload_n dX7_statement_38 rfl rfl ?_
        refine e_iconst dX7_statement_39 ci_3 ?_
        obtain ⟨Q116, hc117, h⟩ := h
        refine e_callV (M' := M_X7_take) (as := [.int 3]) (rest := []) dX7_statement_40 ml_X7_52 mk_X7_take (ob_5 hn) rfl rfl rfl (Nat.le_of_ble_eq_true rfl) (show 0 < d by omega) hc117 (Md_le (b := md_X7_statement) (by decide)) (fun v σ118 hq hf => ?_)
        obtain ⟨v119, rfl, hq⟩ := hq
        replace h := h v119 σ118 hq hf
        refine e_if_eq (tgt := 56) dX7_statement_43 (by decide) (fun c122 => ?_) (fun c122 => ?_)
        · replace h := h.1 c122
          refine e_aload_n dX7_statement_56 rfl rfl ?_
          refine e_iconst dX7_statement_57 ci_1 ?_
          obtain ⟨Q123, hc124, h⟩ := h
          refine e_callV (M' := M_X7_emit) (as := [.int 1]) (rest := []) dX7_statement_58 ml_X7_62 mk_X7_emit (ob_5 hn) rfl rfl rfl (Nat.le_of_ble_eq_true rfl) (show 0 < d by omega) hc124 (Md_le (b := md_X7_statement) (by decide)) (fun v σ125 hq hf => ?_)
          obtain ⟨rfl, hq⟩ := hq
          replace h := h σ125 hq hf
          refine e_aload_n dX7_statement_61 rfl rfl ?_
          refine e_bipush dX7_statement_62 cb_59 ?_
          obtain ⟨Q129, hc130, h⟩ := h
          refine e_callV (M' := M_X7_take) (as := [.int 59]) (rest := []) dX7_statement_64 ml_X7_52 mk_X7_take (ob_5 hn) rfl rfl rfl (Nat.le_of_ble_eq_true rfl) (show 0 < d by omega) hc130 (Md_le (b := md_X7_statement) (by decide)) (fun v σ131 hq hf => ?_)
          obtain ⟨v132, rfl, hq⟩ := hq
          replace h := h v132 σ131 hq hf
          refine e_if_ne (tgt := 72) dX7_statement_67 (by decide) (fun c135 => ?_) (fun c135 => ?_)
          · replace h := h.1 c135
            refine e_aload_n dX7_statement_72 rfl rfl ?_
            refine e_iload_n dX7_statement_73 rfl rfl ?_
            refine e_ineg dX7_statement_74 ?_
            obtain ⟨Q136, hc137, h⟩ := h
            refine e_callV (M' := M_X7_emit) (as := [.int (-(fn_X7_kind σ))]) (rest := []) dX7_statement_75 ml_X7_62 mk_X7_emit (ob_5 hn) rfl rfl rfl (Nat.le_of_ble_eq_true rfl) (show 0 < d by omega) hc137 (Md_le (b := md_X7_statement) (by decide)) (fun v σ138 hq hf => ?_)
            obtain ⟨rfl, hq⟩ := hq
            replace h := h σ138 hq hf
            refine e_iconst dX7_statement_78 ci_1 ?_
            exact e_zret dX7_statement_79 rfl (nar_z (Or.inr rfl)) ⟨_, rfl, h⟩
          · replace h := h.2 c135
            refine e_iconst dX7_statement_70 ci_0 ?_
            exact e_zret dX7_statement_71 rfl (nar_z (Or.inl rfl)) ⟨_, rfl, h⟩
        · replace h := h.2 c122
          refine e_aload_n dX7_statement_46 rfl rfl ?_
          refine e_iconst dX7_statement_47 ci_0 ?_
          obtain ⟨Q142, hc143, h⟩ := h
          refine e_callV (M' := M_X7_anyOf) (as := [.int 0]) (rest := []) dX7_statement_48 ml_X7_59 mk_X7_anyOf (ob_5 hn) rfl rfl rfl (Nat.le_of_ble_eq_true rfl) (show 0 < d by omega) hc143 (Md_le (b := md_X7_statement) (by decide)) (fun v σ144 hq hf => ?_)
          obtain ⟨v145, rfl, hq⟩ := hq
          replace h := h v145 σ144 hq hf
          refine e_if_ne (tgt := 61) dX7_statement_51 (by decide) (fun c148 => ?_) (fun c148 => ?_)
          · replace h := h.1 c148
            refine e_aload_n dX7_statement_61 rfl rfl ?_
            refine e_bipush dX7_statement_62 cb_59 ?_
            obtain ⟨Q149, hc150, h⟩ := h
            refine e_callV (M' := M_X7_take) (as := [.int 59]) (rest := []) dX7_statement_64 ml_X7_52 mk_X7_take (ob_5 hn) rfl rfl rfl (Nat.le_of_ble_eq_true rfl) (show 0 < d by omega) hc150 (Md_le (b := md_X7_statement) (by decide)) (fun v σ151 hq hf => ?_)
            obtain ⟨v152, rfl, hq⟩ := hq
            replace h := h v152 σ151 hq hf
            refine e_if_ne (tgt := 72) dX7_statement_67 (by decide) (fun c155 => ?_) (fun c155 => ?_)
            · replace h := h.1 c155
              refine e_aload_n dX7_statement_72 rfl rfl ?_
              refine e_iload_n dX7_statement_73 rfl rfl ?_
              refine e_ineg dX7_statement_74 ?_
              obtain ⟨Q156, hc157, h⟩ := h
              refine e_callV (M' := M_X7_emit) (as := [.int (-(fn_X7_kind σ))]) (rest := []) dX7_statement_75 ml_X7_62 mk_X7_emit (ob_5 hn) rfl rfl rfl (Nat.le_of_ble_eq_true rfl) (show 0 < d by omega) hc157 (Md_le (b := md_X7_statement) (by decide)) (fun v σ158 hq hf => ?_)
              obtain ⟨rfl, hq⟩ := hq
              replace h := h σ158 hq hf
              refine e_iconst dX7_statement_78 ci_1 ?_
              exact e_zret dX7_statement_79 rfl (nar_z (Or.inr rfl)) ⟨_, rfl, h⟩
            · replace h := h.2 c155
              refine e_iconst dX7_statement_70 ci_0 ?_
              exact e_zret dX7_statement_71 rfl (nar_z (Or.inl rfl)) ⟨_, rfl, h⟩
          · replace h := h.2 c148
            refine e_iconst dX7_statement_54 ci_0 ?_
            exact e_zret dX7_statement_55 rfl (nar_z (Or.inl rfl)) ⟨_, rfl, h⟩
      · replace h := h.2 c115
        refine e_aload_n dX7_statement_28 rfl rfl ?_
        refine e_iconst dX7_statement_29 ci_0 ?_
        obtain ⟨Q162, hc163, h⟩ := h
        refine e_callV (M' := M_X7_expression) (as := [.int 0]) (rest := []) dX7_statement_30 ml_X7_56 mk_X7_expression (ob_5 hn) rfl rfl rfl (Nat.le_of_ble_eq_true rfl) (show 0 < d by omega) hc163 (Md_le (b := md_X7_statement) (by decide)) (fun v σ164 hq hf => ?_)
        obtain ⟨v165, rfl, hq⟩ := hq
        replace h := h v165 σ164 hq hf
        refine e_if_ne (tgt := 38) dX7_statement_33 (by decide) (fun c168 => ?_) (fun c168 => ?_)
        · replace h := h.1 c168
          refine e_aload_n dX7_statement_38 rfl rfl ?_
          refine e_iconst dX7_statement_39 ci_3 ?_
          obtain ⟨Q169, hc170, h⟩ := h
          refine e_callV (M' := M_X7_take) (as := [.int 3]) (rest := []) dX7_statement_40 ml_X7_52 mk_X7_take (ob_5 hn) rfl rfl rfl (Nat.le_of_ble_eq_true rfl) (show 0 < d by omega) hc170 (Md_le (b := md_X7_statement) (by decide)) (fun v σ171 hq hf => ?_)
          obtain ⟨v172, rfl, hq⟩ := hq
          replace h := h v172 σ171 hq hf
          refine e_if_eq (tgt := 56) dX7_statement_43 (by decide) (fun c175 => ?_) (fun c175 => ?_)
          · replace h := h.1 c175
            refine e_aload_n dX7_statement_56 rfl rfl ?_
            refine e_iconst dX7_statement_57 ci_1 ?_
            obtain ⟨Q176, hc177, h⟩ := h
            refine e_callV (M' := M_X7_emit) (as := [.int 1]) (rest := []) dX7_statement_58 ml_X7_62 mk_X7_emit (ob_5 hn) rfl rfl rfl (Nat.le_of_ble_eq_true rfl) (show 0 < d by omega) hc177 (Md_le (b := md_X7_statement) (by decide)) (fun v σ178 hq hf => ?_)
            obtain ⟨rfl, hq⟩ := hq
            replace h := h σ178 hq hf
            refine e_aload_n dX7_statement_61 rfl rfl ?_
            refine e_bipush dX7_statement_62 cb_59 ?_
            obtain ⟨Q182, hc183, h⟩ := h
            refine e_callV (M' := M_X7_take) (as := [.int 59]) (rest := []) dX7_statement_64 ml_X7_52 mk_X7_take (ob_5 hn) rfl rfl rfl (Nat.le_of_ble_eq_true rfl) (show 0 < d by omega) hc183 (Md_le (b := md_X7_statement) (by decide)) (fun v σ184 hq hf => ?_)
            obtain ⟨v185, rfl, hq⟩ := hq
            replace h := h v185 σ184 hq hf
            refine e_if_ne (tgt := 72) dX7_statement_67 (by decide) (fun c188 => ?_) (fun c188 => ?_)
            · replace h := h.1 c188
              refine e_aload_n dX7_statement_72 rfl rfl ?_
              refine e_iload_n dX7_statement_73 rfl rfl ?_
              refine e_ineg dX7_statement_74 ?_
              obtain ⟨Q189, hc190, h⟩ := h
              refine e_callV (M' := M_X7_emit) (as := [.int (-(fn_X7_kind σ))]) (rest := []) dX7_statement_75 ml_X7_62 mk_X7_emit (ob_5 hn) rfl rfl rfl (Nat.le_of_ble_eq_true rfl) (show 0 < d by omega) hc190 (Md_le (b := md_X7_statement) (by decide)) (fun v σ191 hq hf => ?_)
              obtain ⟨rfl, hq⟩ := hq
              replace h := h σ191 hq hf
              refine e_iconst dX7_statement_78 ci_1 ?_
              exact e_zret dX7_statement_79 rfl (nar_z (Or.inr rfl)) ⟨_, rfl, h⟩
            · replace h := h.2 c188
              refine e_iconst dX7_statement_70 ci_0 ?_
              exact e_zret dX7_statement_71 rfl (nar_z (Or.inl rfl)) ⟨_, rfl, h⟩
          · replace h := h.2 c175
            refine e_aload_n dX7_statement_46 rfl rfl ?_
            refine e_iconst dX7_statement_47 ci_0 ?_
            obtain ⟨Q195, hc196, h⟩ := h
            refine e_callV (M' := M_X7_anyOf) (as := [.int 0]) (rest := []) dX7_statement_48 ml_X7_59 mk_X7_anyOf (ob_5 hn) rfl rfl rfl (Nat.le_of_ble_eq_true rfl) (show 0 < d by omega) hc196 (Md_le (b := md_X7_statement) (by decide)) (fun v σ197 hq hf => ?_)
            obtain ⟨v198, rfl, hq⟩ := hq
            replace h := h v198 σ197 hq hf
            refine e_if_ne (tgt := 61) dX7_statement_51 (by decide) (fun c201 => ?_) (fun c201 => ?_)
            · replace h := h.1 c201
              refine e_aload_n dX7_statement_61 rfl rfl ?_
              refine e_bipush dX7_statement_62 cb_59 ?_
              obtain ⟨Q202, hc203, h⟩ := h
              refine e_callV (M' := M_X7_take) (as := [.int 59]) (rest := []) dX7_statement_64 ml_X7_52 mk_X7_take (ob_5 hn) rfl rfl rfl (Nat.le_of_ble_eq_true rfl) (show 0 < d by omega) hc203 (Md_le (b := md_X7_statement) (by decide)) (fun v σ204 hq hf => ?_)
              obtain ⟨v205, rfl, hq⟩ := hq
              replace h := h v205 σ204 hq hf
              refine e_if_ne (tgt := 72) dX7_statement_67 (by decide) (fun c208 => ?_) (fun c208 => ?_)
              · replace h := h.1 c208
                refine e_aload_n dX7_statement_72 rfl rfl ?_
                refine e_iload_n dX7_statement_73 rfl rfl ?_
                refine e_ineg dX7_statement_74 ?_
                obtain ⟨Q209, hc210, h⟩ := h
                refine e_callV (M' := M_X7_emit) (as := [.int (-(fn_X7_kind σ))]) (rest := []) dX7_statement_75 ml_X7_62 mk_X7_emit (ob_5 hn) rfl rfl rfl (Nat.le_of_ble_eq_true rfl) (show 0 < d by omega) hc210 (Md_le (b := md_X7_statement) (by decide)) (fun v σ211 hq hf => ?_)
                obtain ⟨rfl, hq⟩ := hq
                replace h := h σ211 hq hf
                refine e_iconst dX7_statement_78 ci_1 ?_
                exact e_zret dX7_statement_79 rfl (nar_z (Or.inr rfl)) ⟨_, rfl, h⟩
              · replace h := h.2 c208
                refine e_iconst dX7_statement_70 ci_0 ?_
                exact e_zret dX7_statement_71 rfl (nar_z (Or.inl rfl)) ⟨_, rfl, h⟩
            · replace h := h.2 c201
              refine e_iconst dX7_statement_54 ci_0 ?_
              exact e_zret dX7_statement_55 rfl (nar_z (Or.inl rfl)) ⟨_, rfl, h⟩
        · replace h := h.2 c168
          refine e_iconst dX7_statement_36 ci_0 ?_
          exact e_zret dX7_statement_37 rfl (nar_z (Or.inl rfl)) ⟨_, rfl, h⟩
    · replace h := h.2 c108
      refine e_iconst dX7_statement_15 ci_0 ?_
      exact e_zret dX7_statement_16 rfl (nar_z (Or.inl rfl)) ⟨_, rfl, h⟩
abbrev K_X7_read_20 (d n : Nat) (σ0 : St) (Q : Int32 → St → Prop) (σ : St) (x2 : Int32) : Prop := Ev (d, n, md_X7_read, σ0, liI Q) M_X7_read 20 [some (.ref 5), none, some (.int x2)] [] σ
theorem B_X7_read_20 {d n : Nat} {σ0 : St} {Q : Int32 → St → Prop}  {σ : St} {x2 : Int32} (hn : FIX ≤ n) (hd : 1 ≤ d) (h : (((16 : Int32) ≤ x2 → pre_X7_kind σ ∧ (((fn_X7_kind σ) = 258 → Q x2 (sI σ 5 4 (-1))) ∧ (¬ (fn_X7_kind σ) = 258 → ∃ Q3 : Int32 → St → Prop, Cn (d - 1) n M_X7_failed md_X7_failed [.ref 5] σ (liI Q3) ∧ ∀ (v6 : Int32) (σ5 : St), Q3 v6 σ5 → Fr md_X7_failed σ σ5 → Q v6 σ5))) ∧ (¬ (16 : Int32) ≤ x2 → pre_X7_kind σ ∧ (((fn_X7_kind σ) = 258 → pre_X7_kind σ ∧ (((fn_X7_kind σ) = 258 → Q x2 (sI σ 5 4 (-1))) ∧ (¬ (fn_X7_kind σ) = 258 → ∃ Q11 : Int32 → St → Prop, Cn (d - 1) n M_X7_failed md_X7_failed [.ref 5] σ (liI Q11) ∧ ∀ (v14 : Int32) (σ13 : St), Q11 v14 σ13 → Fr md_X7_failed σ σ13 → Q v14 σ13))) ∧ (¬ (fn_X7_kind σ) = 258 → ∃ Q17 : Int32 → St → Prop, Cn (d - 1) n M_X7_statement md_X7_statement [.ref 5] σ (liI Q17) ∧ ∀ (v20 : Int32) (σ19 : St), Q17 v20 σ19 → Fr md_X7_statement σ σ19 → ((v20 ≠ 0 → K_X7_read_20 d n σ0 Q σ19 (x2 + 1)) ∧ (v20 = 0 → ∃ Q24 : Int32 → St → Prop, Cn (d - 1) n M_X7_failed md_X7_failed [.ref 5] σ19 (liI Q24) ∧ ∀ (v27 : Int32) (σ26 : St), Q24 v27 σ26 → Fr md_X7_failed σ19 σ26 → Q v27 σ26))))))) : K_X7_read_20 d n σ0 Q σ x2 := by
  refine e_iload_n dX7_read_20 rfl rfl ?_
  refine e_bipush dX7_read_21 cb_16 ?_
  refine e_icmp_ge (tgt := 54) dX7_read_23 (by decide) (fun c1 => ?_) (fun c1 => ?_)
  · replace h := h.1 c1
    refine e_aload_n dX7_read_54 rfl rfl ?_
    refine e_callV (M' := M_X7_kind) (as := []) (rest := []) dX7_read_55 ml_X7_35 mk_X7_kind (ob_5 hn) rfl rfl rfl (Nat.le_of_ble_eq_true rfl) (show 0 < d by omega) (sp_X7_kind hn h.1) Md_nil (fun v σv hq hf => ?_)
    obtain ⟨v, rfl, rfl, rfl⟩ := hq
    replace h := h.2
    refine e_sipush dX7_read_58 cs_258 ?_
    refine e_icmp_eq (tgt := 69) dX7_read_61 (by decide) (fun c2 => ?_) (fun c2 => ?_)
    · replace h := h.1 c2
      refine e_aload_n dX7_read_69 rfl rfl ?_
      refine e_iconst dX7_read_70 ci_m1 ?_
      refine e_putI dX7_read_71 fl_X7_15 (ob_5 hn) rfl (fpI_7_4 _) (md_c (m := md_X7_read) (by decide)) ?_
      refine e_iload_n dX7_read_74 rfl rfl ?_
      exact e_iret dX7_read_75 rfl ⟨_, rfl, h⟩
    · replace h := h.2 c2
      refine e_aload_n dX7_read_64 rfl rfl ?_
      obtain ⟨Q3, hc4, h⟩ := h
      refine e_callV (M' := M_X7_failed) (as := []) (rest := []) dX7_read_65 ml_X7_43 mk_X7_failed (ob_5 hn) rfl rfl rfl (Nat.le_of_ble_eq_true rfl) (show 0 < d by omega) hc4 (Md_le (b := md_X7_read) (by decide)) (fun v σ5 hq hf => ?_)
      obtain ⟨v6, rfl, hq⟩ := hq
      replace h := h v6 σ5 hq hf
      exact e_iret dX7_read_68 rfl ⟨_, rfl, h⟩
  · replace h := h.2 c1
    refine e_aload_n dX7_read_26 rfl rfl ?_
    refine e_callV (M' := M_X7_kind) (as := []) (rest := []) dX7_read_27 ml_X7_35 mk_X7_kind (ob_5 hn) rfl rfl rfl (Nat.le_of_ble_eq_true rfl) (show 0 < d by omega) (sp_X7_kind hn h.1) Md_nil (fun v σv hq hf => ?_)
    obtain ⟨v, rfl, rfl, rfl⟩ := hq
    replace h := h.2
    refine e_sipush dX7_read_30 cs_258 ?_
    refine e_icmp_eq (tgt := 54) dX7_read_33 (by decide) (fun c9 => ?_) (fun c9 => ?_)
    · replace h := h.1 c9
      refine e_aload_n dX7_read_54 rfl rfl ?_
      refine e_callV (M' := M_X7_kind) (as := []) (rest := []) dX7_read_55 ml_X7_35 mk_X7_kind (ob_5 hn) rfl rfl rfl (Nat.le_of_ble_eq_true rfl) (show 0 < d by omega) (sp_X7_kind hn h.1) Md_nil (fun v σv hq hf => ?_)
      obtain ⟨v, rfl, rfl, rfl⟩ := hq
      replace h := h.2
      refine e_sipush dX7_read_58 cs_258 ?_
      refine e_icmp_eq (tgt := 69) dX7_read_61 (by decide) (fun c10 => ?_) (fun c10 => ?_)
      · replace h := h.1 c10
        refine e_aload_n dX7_read_69 rfl rfl ?_
        refine e_iconst dX7_read_70 ci_m1 ?_
        refine e_putI dX7_read_71 fl_X7_15 (ob_5 hn) rfl (fpI_7_4 _) (md_c (m := md_X7_read) (by decide)) ?_
        refine e_iload_n dX7_read_74 rfl rfl ?_
        exact e_iret dX7_read_75 rfl ⟨_, rfl, h⟩
      · replace h := h.2 c10
        refine e_aload_n dX7_read_64 rfl rfl ?_
        obtain ⟨Q11, hc12, h⟩ := h
        refine e_callV (M' := M_X7_failed) (as := []) (rest := []) dX7_read_65 ml_X7_43 mk_X7_failed (ob_5 hn) rfl rfl rfl (Nat.le_of_ble_eq_true rfl) (show 0 < d by omega) hc12 (Md_le (b := md_X7_read) (by decide)) (fun v σ13 hq hf => ?_)
        obtain ⟨v14, rfl, hq⟩ := hq
        replace h := h v14 σ13 hq hf
        exact e_iret dX7_read_68 rfl ⟨_, rfl, h⟩
    · replace h := h.2 c9
      refine e_aload_n dX7_read_36 rfl rfl ?_
      obtain ⟨Q17, hc18, h⟩ := h
      refine e_callV (M' := M_X7_statement) (as := []) (rest := []) dX7_read_37 ml_X7_39 mk_X7_statement (ob_5 hn) rfl rfl rfl (Nat.le_of_ble_eq_true rfl) (show 0 < d by omega) hc18 (Md_le (b := md_X7_read) (by decide)) (fun v σ19 hq hf => ?_)
      obtain ⟨v20, rfl, hq⟩ := hq
      replace h := h v20 σ19 hq hf
      refine e_if_ne (tgt := 48) dX7_read_40 (by decide) (fun c23 => ?_) (fun c23 => ?_)
      · replace h := h.1 c23
        refine e_iinc dX7_read_48 rfl (ii_1 _) rfl (by decide) ?_
        refine e_goto (tgt := 20) dX7_read_51 (by decide) ?_
        exact h
      · replace h := h.2 c23
        refine e_aload_n dX7_read_43 rfl rfl ?_
        obtain ⟨Q24, hc25, h⟩ := h
        refine e_callV (M' := M_X7_failed) (as := []) (rest := []) dX7_read_44 ml_X7_43 mk_X7_failed (ob_5 hn) rfl rfl rfl (Nat.le_of_ble_eq_true rfl) (show 0 < d by omega) hc25 (Md_le (b := md_X7_read) (by decide)) (fun v σ26 hq hf => ?_)
        obtain ⟨v27, rfl, hq⟩ := hq
        replace h := h v27 σ26 hq hf
        exact e_iret dX7_read_47 rfl ⟨_, rfl, h⟩
theorem S_X7_read {d n : Nat} {Q : Int32 → St → Prop} {σ : St} {a1 : Int32} (hn : FIX ≤ n) (hd : 1 ≤ d) (h : ∃ Q1 : St → Prop, Cn (d - 1) n M_X9_cut md_X9_cut [.ref 4, .int a1] σ (liV Q1) ∧ ∀ (σ3 : St), Q1 σ3 → Fr md_X9_cut σ σ3 → K_X7_read_20 d n σ Q (sI (sI σ3 5 1 0) 5 3 0) 0) : Cn d n M_X7_read md_X7_read [.ref 5, .int a1] σ (liI Q) := by
  refine Cn.of (k0 := 1) (by decide) rfl ?_
  show Ev (d, n, md_X7_read, σ, liI Q) M_X7_read 0 [some (.ref 5), some (.int a1), none] [] σ
  refine e_aload_n dX7_read_0 rfl rfl ?_
  refine e_getR (y := 4) dX7_read_1 fl_X7_19 (ob_5 hn) rfl rfl ?_
  refine e_iload_n dX7_read_4 rfl rfl ?_
  obtain ⟨Q1, hc2, h⟩ := h
  refine e_callV (M' := M_X9_cut) (as := [.int a1]) (rest := []) dX7_read_5 ml_X7_23 mk_X9_cut (ob_4 hn) rfl rfl rfl (Nat.le_of_ble_eq_true rfl) (show 0 < d by omega) hc2 (Md_le (b := md_X7_read) (by decide)) (fun v σ3 hq hf => ?_)
  obtain ⟨rfl, hq⟩ := hq
  replace h := h σ3 hq hf
  refine e_aload_n dX7_read_8 rfl rfl ?_
  refine e_iconst dX7_read_9 ci_0 ?_
  refine e_putI dX7_read_10 fl_X7_29 (ob_5 hn) rfl (fpI_7_1 _) (md_c (m := md_X7_read) (by decide)) ?_
  refine e_aload_n dX7_read_13 rfl rfl ?_
  refine e_iconst dX7_read_14 ci_0 ?_
  refine e_putI dX7_read_15 fl_X7_32 (ob_5 hn) rfl (fpI_7_3 _) (md_c (m := md_X7_read) (by decide)) ?_
  refine e_iconst dX7_read_18 ci_0 ?_
  refine e_istore_n dX7_read_19 rfl rfl (by decide) ?_
  refine e_kill [true, false, true] ?_
  exact h
theorem S_X8_copy {d n : Nat} {Q : St → Prop} {σ : St} {q1 : Nat} {N1 : Nat} {q2 : Nat} {N2 : Nat} (hd : 1 ≤ d) (ha_q1 : Ar n q1 20 N1) (ha_q2 : Ar n q2 20 N2) (h : ((¬ (10 : Int32) < 0) ∧ 10 ≤ N1 ∧ 10 ≤ N2) ∧ Q (sA σ q2 (va_cpy (gI σ q1) (gI σ q2) 0 0 10))) : Cn d n M_X8_copy (md_X8_copy q2) [.ref q1, .ref q2] σ (liV Q) := by
  refine Cn.of (k0 := 0) (by decide) rfl ?_
  show Ev (d, n, (md_X8_copy q2), σ, liV Q) M_X8_copy 0 [some (.ref q1), some (.ref q2)] [] σ
  refine e_aload_n dX8_copy_0 rfl rfl ?_
  refine e_iconst dX8_copy_1 ci_0 ?_
  refine e_aload_n dX8_copy_2 rfl rfl ?_
  refine e_iconst dX8_copy_3 ci_0 ?_
  refine e_bipush dX8_copy_4 cb_10 ?_
  refine e_copy dX8_copy_6 ml_X8_122 ha_q1 ha_q2 h.1.1 h.1.2.1 h.1.2.2 (Nat.le_of_ble_eq_true rfl) (show 0 < d by omega) (fun _ => (show inMd (md_X8_copy q2) _ _ from Or.inl (by simp [md_X8_copy, mdP]))) ?_
  replace h := h.2
  exact e_vret dX8_copy_9 rfl ⟨rfl, h⟩
theorem S_X8_change {d n : Nat} {Q : St → Prop} {σ : St} {a1 : Int32} {a2 : Int32} (hn : FIX ≤ n) (hd : 1 ≤ d) (h : vp_in a1 10 ∧ vp_in a1 10 ∧ Q (sI σ 31 a1.toNatClampNeg (mxI 0 (mnI 250 ((gI σ 29 a1.toNatClampNeg) + (a2 * (gI σ 6 3))))))) : Cn d n M_X8_change md_X8_change [.ref 7, .int a1, .int a2] σ (liV Q) := by
  refine Cn.of (k0 := 1) (by decide) rfl ?_
  show Ev (d, n, md_X8_change, σ, liV Q) M_X8_change 0 [some (.ref 7), some (.int a1), some (.int a2), none] [] σ
  refine e_aload_n dX8_change_0 rfl rfl ?_
  refine e_getR (y := 29) dX8_change_1 fl_X8_15 (ob_7 hn) rfl rfl ?_
  refine e_iload_n dX8_change_4 rfl rfl ?_
  refine e_iald dX8_change_5 (ar_29 hn) h.1 ?_
  replace h := h.2
  refine e_iload_n dX8_change_6 rfl rfl ?_
  refine e_aload_n dX8_change_7 rfl rfl ?_
  refine e_getR (y := 6) dX8_change_8 fl_X8_36 (ob_7 hn) rfl rfl ?_
  refine e_getI dX8_change_11 fl_X8_85 (ob_6 hn) rfl ?_
  refine e_imul dX8_change_14 ?_
  refine e_iadd dX8_change_15 ?_
  refine e_istore_n dX8_change_16 rfl rfl (by decide) ?_
  refine e_aload_n dX8_change_17 rfl rfl ?_
  refine e_getR (y := 31) dX8_change_18 fl_X8_21 (ob_7 hn) rfl rfl ?_
  refine e_iload_n dX8_change_21 rfl rfl ?_
  refine e_iconst dX8_change_22 ci_0 ?_
  refine e_sipush dX8_change_23 cs_250 ?_
  refine e_iload_n dX8_change_26 rfl rfl ?_
  refine e_mmin (st := [.int 0, .int a1, .ref 31]) dX8_change_27 ml_X8_88 (Nat.le_of_ble_eq_true rfl) (show 0 < d by omega) ?_
  refine e_mmax (st := [.int a1, .ref 31]) dX8_change_30 ml_X8_94 (Nat.le_of_ble_eq_true rfl) (show 0 < d by omega) ?_
  refine e_iast dX8_change_33 (ar_31 hn) h.1 (md_r (m := md_X8_change) (by decide)) ?_
  replace h := h.2
  exact e_vret dX8_change_34 rfl ⟨rfl, h⟩
abbrev K_X8_isTrial_2 (d n : Nat) (σ0 : St) (Q : Int32 → St → Prop) (σ : St) (q1 : Nat) (N1 : Nat) (x2 : Int32) : Prop := Ev (d, n, md_X8_isTrial, σ0, liI Q) M_X8_isTrial 2 [some (.ref 7), some (.ref q1), some (.int x2)] [] σ
theorem B_X8_isTrial_2 {d n : Nat} {σ0 : St} {Q : Int32 → St → Prop}  {σ : St} {q1 : Nat} {N1 : Nat} {x2 : Int32} (hn : FIX ≤ n) (ha_q1 : Ar n q1 20 N1) (h : (((gI σ 1 0) ≤ x2 → Q 1 σ) ∧ (¬ (gI σ 1 0) ≤ x2 → vp_in x2 N1 ∧ vp_in x2 10 ∧ (((gI σ q1 x2.toNatClampNeg) = (gI σ 31 x2.toNatClampNeg) → K_X8_isTrial_2 d n σ0 Q σ q1 N1 (x2 + 1)) ∧ (¬ (gI σ q1 x2.toNatClampNeg) = (gI σ 31 x2.toNatClampNeg) → Q 0 σ))))) : K_X8_isTrial_2 d n σ0 Q σ q1 N1 x2 := by
  refine e_iload_n dX8_isTrial_2 rfl rfl ?_
  refine e_aload_n dX8_isTrial_3 rfl rfl ?_
  refine e_getR (y := 1) dX8_isTrial_4 fl_X8_32 (ob_7 hn) rfl rfl ?_
  refine e_getI dX8_isTrial_7 fl_X8_70 (ob_1 hn) rfl ?_
  refine e_icmp_ge (tgt := 33) dX8_isTrial_10 (by decide) (fun c1 => ?_) (fun c1 => ?_)
  · replace h := h.1 c1
    refine e_iconst dX8_isTrial_33 ci_1 ?_
    exact e_zret dX8_isTrial_34 rfl (nar_z (Or.inr rfl)) ⟨_, rfl, h⟩
  · replace h := h.2 c1
    refine e_aload_n dX8_isTrial_13 rfl rfl ?_
    refine e_iload_n dX8_isTrial_14 rfl rfl ?_
    refine e_iald dX8_isTrial_15 ha_q1 h.1 ?_
    replace h := h.2
    refine e_aload_n dX8_isTrial_16 rfl rfl ?_
    refine e_getR (y := 31) dX8_isTrial_17 fl_X8_21 (ob_7 hn) rfl rfl ?_
    refine e_iload_n dX8_isTrial_20 rfl rfl ?_
    refine e_iald dX8_isTrial_21 (ar_31 hn) h.1 ?_
    replace h := h.2
    refine e_icmp_eq (tgt := 27) dX8_isTrial_22 (by decide) (fun c2 => ?_) (fun c2 => ?_)
    · replace h := h.1 c2
      refine e_iinc dX8_isTrial_27 rfl (ii_1 _) rfl (by decide) ?_
      refine e_goto (tgt := 2) dX8_isTrial_30 (by decide) ?_
      exact h
    · replace h := h.2 c2
      refine e_iconst dX8_isTrial_25 ci_0 ?_
      exact e_zret dX8_isTrial_26 rfl (nar_z (Or.inl rfl)) ⟨_, rfl, h⟩
theorem S_X8_isTrial {d n : Nat} {Q : Int32 → St → Prop} {σ : St} {q1 : Nat} {N1 : Nat} (hn : FIX ≤ n) (ha_q1 : Ar n q1 20 N1) (h : K_X8_isTrial_2 d n σ Q σ q1 N1 0) : Cn d n M_X8_isTrial md_X8_isTrial [.ref 7, .ref q1] σ (liI Q) := by
  refine Cn.of (k0 := 1) (by decide) rfl ?_
  show Ev (d, n, md_X8_isTrial, σ, liI Q) M_X8_isTrial 0 [some (.ref 7), some (.ref q1), none] [] σ
  refine e_iconst dX8_isTrial_0 ci_0 ?_
  refine e_istore_n dX8_isTrial_1 rfl rfl (by decide) ?_
  exact h
abbrev K_X8_isGone_2 (d n : Nat) (σ0 : St) (Q : Int32 → St → Prop) (σ : St) (x1 : Int32) : Prop := Ev (d, n, md_X8_isGone, σ0, liI Q) M_X8_isGone 2 [some (.ref 7), some (.int x1)] [] σ
theorem B_X8_isGone_2 {d n : Nat} {σ0 : St} {Q : Int32 → St → Prop}  {σ : St} {x1 : Int32} (hn : FIX ≤ n) (hd : 1 ≤ d) (h : (((8 : Int32) ≤ x1 → Q 0 σ) ∧ (¬ (8 : Int32) ≤ x1 → (((gI σ 7 4) < x1 → Q 0 σ) ∧ (¬ (gI σ 7 4) < x1 → vp_in x1 8 ∧ ∃ Q4 : Int32 → St → Prop, Cn (d - 1) n M_X8_isTrial md_X8_isTrial [.ref 7, .ref (GONE0 + x1.toNatClampNeg)] σ (liI Q4) ∧ ∀ (v7 : Int32) (σ6 : St), Q4 v7 σ6 → Fr md_X8_isTrial σ σ6 → ((v7 = 0 → K_X8_isGone_2 d n σ0 Q σ6 (x1 + 1)) ∧ (¬ v7 = 0 → Q 1 σ6))))))) : K_X8_isGone_2 d n σ0 Q σ x1 := by
  refine e_iload_n dX8_isGone_2 rfl rfl ?_
  refine e_bipush dX8_isGone_3 cb_8 ?_
  refine e_icmp_ge (tgt := 37) dX8_isGone_5 (by decide) (fun c1 => ?_) (fun c1 => ?_)
  · replace h := h.1 c1
    refine e_iconst dX8_isGone_37 ci_0 ?_
    exact e_zret dX8_isGone_38 rfl (nar_z (Or.inl rfl)) ⟨_, rfl, h⟩
  · replace h := h.2 c1
    refine e_iload_n dX8_isGone_8 rfl rfl ?_
    refine e_aload_n dX8_isGone_9 rfl rfl ?_
    refine e_getI dX8_isGone_10 fl_X8_40 (ob_7 hn) rfl ?_
    refine e_icmp_gt (tgt := 37) dX8_isGone_13 (by decide) (fun c2 => ?_) (fun c2 => ?_)
    · replace h := h.1 c2
      refine e_iconst dX8_isGone_37 ci_0 ?_
      exact e_zret dX8_isGone_38 rfl (nar_z (Or.inl rfl)) ⟨_, rfl, h⟩
    · replace h := h.2 c2
      refine e_aload_n dX8_isGone_16 rfl rfl ?_
      refine e_aload_n dX8_isGone_17 rfl rfl ?_
      refine e_getR (y := 33) dX8_isGone_18 fl_X8_29 (ob_7 hn) rfl rfl ?_
      refine e_iload_n dX8_isGone_21 rfl rfl ?_
      have hg3 := h.1
      refine e_aldG dX8_isGone_22 hn h.1 ?_
      replace h := h.2
      obtain ⟨Q4, hc5, h⟩ := h
      refine e_callV (M' := M_X8_isTrial) (as := [.ref (GONE0 + x1.toNatClampNeg)]) (rest := []) dX8_isGone_23 ml_X8_100 mk_X8_isTrial (ob_7 hn) rfl rfl rfl (Nat.le_of_ble_eq_true rfl) (show 0 < d by omega) hc5 (Md_le (b := md_X8_isGone) (by decide)) (fun v σ6 hq hf => ?_)
      obtain ⟨v7, rfl, hq⟩ := hq
      replace h := h v7 σ6 hq hf
      refine e_if_eq (tgt := 31) dX8_isGone_26 (by decide) (fun c10 => ?_) (fun c10 => ?_)
      · replace h := h.1 c10
        refine e_iinc dX8_isGone_31 rfl (ii_1 _) rfl (by decide) ?_
        refine e_goto (tgt := 2) dX8_isGone_34 (by decide) ?_
        exact h
      · replace h := h.2 c10
        refine e_iconst dX8_isGone_29 ci_1 ?_
        exact e_zret dX8_isGone_30 rfl (nar_z (Or.inr rfl)) ⟨_, rfl, h⟩
theorem S_X8_isGone {d n : Nat} {Q : Int32 → St → Prop} {σ : St}  (hn : FIX ≤ n) (hd : 1 ≤ d) (h : K_X8_isGone_2 d n σ Q σ 0) : Cn d n M_X8_isGone md_X8_isGone [.ref 7] σ (liI Q) := by
  refine Cn.of (k0 := 1) (by decide) rfl ?_
  show Ev (d, n, md_X8_isGone, σ, liI Q) M_X8_isGone 0 [some (.ref 7), none] [] σ
  refine e_iconst dX8_isGone_0 ci_0 ?_
  refine e_istore_n dX8_isGone_1 rfl rfl (by decide) ?_
  exact h
theorem S_X8_consider {d n : Nat} {Q : St → Prop} {σ : St}  (hn : FIX ≤ n) (hd : 1 ≤ d) (h : ∃ Q1 : Int32 → St → Prop, Cn (d - 1) n M_X8_isGone md_X8_isGone [.ref 7] σ (liI Q1) ∧ ∀ (v4 : Int32) (σ3 : St), Q1 v4 σ3 → Fr md_X8_isGone σ σ3 → ((v4 = 0 → ∃ Q8 : Int32 → St → Prop, Cn (d - 1) n M_X4_squareAt md_X4_squareAt [.ref 6, .ref 31] σ3 (liI Q8) ∧ ∀ (v11 : Int32) (σ10 : St), Q8 v11 σ10 → Fr md_X4_squareAt σ3 σ10 → (((gI σ10 7 9) = (-1) → ∃ Q15 : St → Prop, Cn (d - 1) n M_X8_copy (md_X8_copy 32) [.ref 31, .ref 32] (sI σ10 7 9 v11) (liV Q15) ∧ ∀ (σ17 : St), Q15 σ17 → Fr (md_X8_copy 32) (sI σ10 7 9 v11) σ17 → Q σ17) ∧ (¬ (gI σ10 7 9) = (-1) → (((gI σ10 7 9) ≤ v11 → Q σ10) ∧ (¬ (gI σ10 7 9) ≤ v11 → ∃ Q22 : St → Prop, Cn (d - 1) n M_X8_copy (md_X8_copy 32) [.ref 31, .ref 32] (sI σ10 7 9 v11) (liV Q22) ∧ ∀ (σ24 : St), Q22 σ24 → Fr (md_X8_copy 32) (sI σ10 7 9 v11) σ24 → Q σ24))))) ∧ (¬ v4 = 0 → Q σ3))) : Cn d n M_X8_consider md_X8_consider [.ref 7] σ (liV Q) := by
  refine Cn.of (k0 := 1) (by decide) rfl ?_
  show Ev (d, n, md_X8_consider, σ, liV Q) M_X8_consider 0 [some (.ref 7), none] [] σ
  refine e_aload_n dX8_consider_0 rfl rfl ?_
  obtain ⟨Q1, hc2, h⟩ := h
  refine e_callV (M' := M_X8_isGone) (as := []) (rest := []) dX8_consider_1 ml_X8_97 mk_X8_isGone (ob_7 hn) rfl rfl rfl (Nat.le_of_ble_eq_true rfl) (show 0 < d by omega) hc2 (Md_le (b := md_X8_consider) (by decide)) (fun v σ3 hq hf => ?_)
  obtain ⟨v4, rfl, hq⟩ := hq
  replace h := h v4 σ3 hq hf
  refine e_if_eq (tgt := 8) dX8_consider_4 (by decide) (fun c7 => ?_) (fun c7 => ?_)
  · replace h := h.1 c7
    refine e_aload_n dX8_consider_8 rfl rfl ?_
    refine e_getR (y := 6) dX8_consider_9 fl_X8_36 (ob_7 hn) rfl rfl ?_
    refine e_aload_n dX8_consider_12 rfl rfl ?_
    refine e_getR (y := 31) dX8_consider_13 fl_X8_21 (ob_7 hn) rfl rfl ?_
    obtain ⟨Q8, hc9, h⟩ := h
    refine e_callV (M' := M_X4_squareAt) (as := [.ref 31]) (rest := []) dX8_consider_16 ml_X8_53 mk_X4_squareAt (ob_6 hn) rfl rfl rfl (Nat.le_of_ble_eq_true rfl) (show 0 < d by omega) hc9 (Md_le (b := md_X8_consider) (by decide)) (fun v σ10 hq hf => ?_)
    obtain ⟨v11, rfl, hq⟩ := hq
    replace h := h v11 σ10 hq hf
    refine e_istore_n dX8_consider_19 rfl rfl (by decide) ?_
    refine e_aload_n dX8_consider_20 rfl rfl ?_
    refine e_getI dX8_consider_21 fl_X8_67 (ob_7 hn) rfl ?_
    refine e_iconst dX8_consider_24 ci_m1 ?_
    refine e_icmp_eq (tgt := 36) dX8_consider_25 (by decide) (fun c14 => ?_) (fun c14 => ?_)
    · replace h := h.1 c14
      refine e_aload_n dX8_consider_36 rfl rfl ?_
      refine e_iload_n dX8_consider_37 rfl rfl ?_
      refine e_putI dX8_consider_38 fl_X8_67 (ob_7 hn) rfl (fpI_8_9 _) (md_c (m := md_X8_consider) (by decide)) ?_
      refine e_aload_n dX8_consider_41 rfl rfl ?_
      refine e_getR (y := 31) dX8_consider_42 fl_X8_21 (ob_7 hn) rfl rfl ?_
      refine e_aload_n dX8_consider_45 rfl rfl ?_
      refine e_getR (y := 32) dX8_consider_46 fl_X8_24 (ob_7 hn) rfl rfl ?_
      obtain ⟨Q15, hc16, h⟩ := h
      refine e_callS (M' := M_X8_copy) (as := [.ref 31, .ref 32]) (rest := []) dX8_consider_49 ml_X8_49 mk_X8_copy rfl (Nat.le_of_ble_eq_true rfl) (show 0 < d by omega) hc16 (Md_le (b := md_X8_consider) (by decide)) (fun v σ17 hq hf => ?_)
      obtain ⟨rfl, hq⟩ := hq
      replace h := h σ17 hq hf
      exact e_vret dX8_consider_52 rfl ⟨rfl, h⟩
    · replace h := h.2 c14
      refine e_iload_n dX8_consider_28 rfl rfl ?_
      refine e_aload_n dX8_consider_29 rfl rfl ?_
      refine e_getI dX8_consider_30 fl_X8_67 (ob_7 hn) rfl ?_
      refine e_icmp_ge (tgt := 52) dX8_consider_33 (by decide) (fun c21 => ?_) (fun c21 => ?_)
      · replace h := h.1 c21
        exact e_vret dX8_consider_52 rfl ⟨rfl, h⟩
      · replace h := h.2 c21
        refine e_aload_n dX8_consider_36 rfl rfl ?_
        refine e_iload_n dX8_consider_37 rfl rfl ?_
        refine e_putI dX8_consider_38 fl_X8_67 (ob_7 hn) rfl (fpI_8_9 _) (md_c (m := md_X8_consider) (by decide)) ?_
        refine e_aload_n dX8_consider_41 rfl rfl ?_
        refine e_getR (y := 31) dX8_consider_42 fl_X8_21 (ob_7 hn) rfl rfl ?_
        refine e_aload_n dX8_consider_45 rfl rfl ?_
        refine e_getR (y := 32) dX8_consider_46 fl_X8_24 (ob_7 hn) rfl rfl ?_
        obtain ⟨Q22, hc23, h⟩ := h
        refine e_callS (M' := M_X8_copy) (as := [.ref 31, .ref 32]) (rest := []) dX8_consider_49 ml_X8_49 mk_X8_copy rfl (Nat.le_of_ble_eq_true rfl) (show 0 < d by omega) hc23 (Md_le (b := md_X8_consider) (by decide)) (fun v σ24 hq hf => ?_)
        obtain ⟨rfl, hq⟩ := hq
        replace h := h σ24 hq hf
        exact e_vret dX8_consider_52 rfl ⟨rfl, h⟩
  · replace h := h.2 c7
    exact e_vret dX8_consider_7 rfl ⟨rfl, h⟩
theorem S_X8_goToChosen {d n : Nat} {Q : St → Prop} {σ : St}  (hn : FIX ≤ n) (hd : 1 ≤ d) (h : ∃ Q1 : St → Prop, Cn (d - 1) n M_X8_copy (md_X8_copy 29) [.ref 32, .ref 29] (sI σ 7 4 ((gI σ 7 4) + 1)) (liV Q1) ∧ ∀ (σ3 : St), Q1 σ3 → Fr (md_X8_copy 29) (sI σ 7 4 ((gI σ 7 4) + 1)) σ3 → vp_in ((gI σ3 7 4) - (gI σ3 7 4) / 8 * 8) 8 ∧ ∃ Q8 : St → Prop, Cn (d - 1) n M_X8_copy (md_X8_copy (GONE0 + ((gI σ3 7 4) - (gI σ3 7 4) / 8 * 8).toNatClampNeg)) [.ref 32, .ref (GONE0 + ((gI σ3 7 4) - (gI σ3 7 4) / 8 * 8).toNatClampNeg)] σ3 (liV Q8) ∧ ∀ (σ10 : St), Q8 σ10 → Fr (md_X8_copy (GONE0 + ((gI σ3 7 4) - (gI σ3 7 4) / 8 * 8).toNatClampNeg)) σ3 σ10 → (((gI σ10 7 3) ≤ (gI σ10 7 9) → Q σ10) ∧ (¬ (gI σ10 7 3) ≤ (gI σ10 7 9) → ∃ Q15 : St → Prop, Cn (d - 1) n M_X8_copy (md_X8_copy 28) [.ref 32, .ref 28] (sI σ10 7 3 (gI σ10 7 9)) (liV Q15) ∧ ∀ (σ17 : St), Q15 σ17 → Fr (md_X8_copy 28) (sI σ10 7 3 (gI σ10 7 9)) σ17 → Q σ17))) : Cn d n M_X8_goToChosen md_X8_goToChosen [.ref 7] σ (liV Q) := by
  refine Cn.of (k0 := 0) (by decide) rfl ?_
  show Ev (d, n, md_X8_goToChosen, σ, liV Q) M_X8_goToChosen 0 [some (.ref 7)] [] σ
  refine e_aload_n dX8_goToChosen_0 rfl rfl ?_
  refine e_dup dX8_goToChosen_1 rfl ?_
  refine e_getI dX8_goToChosen_2 fl_X8_40 (ob_7 hn) rfl ?_
  refine e_iconst dX8_goToChosen_5 ci_1 ?_
  refine e_iadd dX8_goToChosen_6 ?_
  refine e_putI dX8_goToChosen_7 fl_X8_40 (ob_7 hn) rfl (fpI_8_4 _) (md_c (m := md_X8_goToChosen) (by decide)) ?_
  refine e_aload_n dX8_goToChosen_10 rfl rfl ?_
  refine e_getR (y := 32) dX8_goToChosen_11 fl_X8_24 (ob_7 hn) rfl rfl ?_
  refine e_aload_n dX8_goToChosen_14 rfl rfl ?_
  refine e_getR (y := 29) dX8_goToChosen_15 fl_X8_15 (ob_7 hn) rfl rfl ?_
  obtain ⟨Q1, hc2, h⟩ := h
  refine e_callS (M' := M_X8_copy) (as := [.ref 32, .ref 29]) (rest := []) dX8_goToChosen_18 ml_X8_49 mk_X8_copy rfl (Nat.le_of_ble_eq_true rfl) (show 0 < d by omega) hc2 (Md_le (b := md_X8_goToChosen) (by decide)) (fun v σ3 hq hf => ?_)
  obtain ⟨rfl, hq⟩ := hq
  replace h := h σ3 hq hf
  refine e_aload_n dX8_goToChosen_21 rfl rfl ?_
  refine e_getR (y := 32) dX8_goToChosen_22 fl_X8_24 (ob_7 hn) rfl rfl ?_
  refine e_aload_n dX8_goToChosen_25 rfl rfl ?_
  refine e_getR (y := 33) dX8_goToChosen_26 fl_X8_29 (ob_7 hn) rfl rfl ?_
  refine e_aload_n dX8_goToChosen_29 rfl rfl ?_
  refine e_getI dX8_goToChosen_30 fl_X8_40 (ob_7 hn) rfl ?_
  refine e_bipush dX8_goToChosen_33 cb_8 ?_
  refine e_irem dX8_goToChosen_35 (by decide) ?_
  have hg7 := h.1
  refine e_aldG dX8_goToChosen_36 hn h.1 ?_
  replace h := h.2
  obtain ⟨Q8, hc9, h⟩ := h
  refine e_callS (M' := M_X8_copy) (as := [.ref 32, .ref (GONE0 + ((gI σ3 7 4) - (gI σ3 7 4) / 8 * 8).toNatClampNeg)]) (rest := []) dX8_goToChosen_37 ml_X8_49 mk_X8_copy rfl (Nat.le_of_ble_eq_true rfl) (show 0 < d by omega) hc9 (Md_gone (m := md_X8_goToChosen) hg7 (by decide)) (fun v σ10 hq hf => ?_)
  obtain ⟨rfl, hq⟩ := hq
  replace h := h σ10 hq hf
  refine e_aload_n dX8_goToChosen_40 rfl rfl ?_
  refine e_getI dX8_goToChosen_41 fl_X8_67 (ob_7 hn) rfl ?_
  refine e_aload_n dX8_goToChosen_44 rfl rfl ?_
  refine e_getI dX8_goToChosen_45 fl_X8_57 (ob_7 hn) rfl ?_
  refine e_icmp_ge (tgt := 70) dX8_goToChosen_48 (by decide) (fun c14 => ?_) (fun c14 => ?_)
  · replace h := h.1 c14
    exact e_vret dX8_goToChosen_70 rfl ⟨rfl, h⟩
  · replace h := h.2 c14
    refine e_aload_n dX8_goToChosen_51 rfl rfl ?_
    refine e_aload_n dX8_goToChosen_52 rfl rfl ?_
    refine e_getI dX8_goToChosen_53 fl_X8_67 (ob_7 hn) rfl ?_
    refine e_putI dX8_goToChosen_56 fl_X8_57 (ob_7 hn) rfl (fpI_8_3 _) (md_c (m := md_X8_goToChosen) (by decide)) ?_
    refine e_aload_n dX8_goToChosen_59 rfl rfl ?_
    refine e_getR (y := 32) dX8_goToChosen_60 fl_X8_24 (ob_7 hn) rfl rfl ?_
    refine e_aload_n dX8_goToChosen_63 rfl rfl ?_
    refine e_getR (y := 28) dX8_goToChosen_64 fl_X8_9 (ob_7 hn) rfl rfl ?_
    obtain ⟨Q15, hc16, h⟩ := h
    refine e_callS (M' := M_X8_copy) (as := [.ref 32, .ref 28]) (rest := []) dX8_goToChosen_67 ml_X8_49 mk_X8_copy rfl (Nat.le_of_ble_eq_true rfl) (show 0 < d by omega) hc16 (Md_le (b := md_X8_goToChosen) (by decide)) (fun v σ17 hq hf => ?_)
    obtain ⟨rfl, hq⟩ := hq
    replace h := h σ17 hq hf
    exact e_vret dX8_goToChosen_70 rfl ⟨rfl, h⟩
abbrev K_X8_goOn_33 (d n : Nat) (σ0 : St) (Q : Int32 → St → Prop) (σ : St) (x1 : Int32) : Prop := Ev (d, n, md_X8_goOn, σ0, liI Q) M_X8_goOn 33 [some (.ref 7), some (.int x1)] [] σ
abbrev K_X8_goOn_106 (d n : Nat) (σ0 : St) (Q : Int32 → St → Prop) (σ : St) (x1 : Int32) : Prop := Ev (d, n, md_X8_goOn, σ0, liI Q) M_X8_goOn 106 [some (.ref 7), some (.int x1)] [] σ
theorem B_X8_goOn_33 {d n : Nat} {σ0 : St} {Q : Int32 → St → Prop}  {σ : St} {x1 : Int32} (hn : FIX ≤ n) (hd : 1 ≤ d) (h : (((gI σ 1 0) ≤ x1 → ∃ Q2 : St → Prop, Cn (d - 1) n M_X8_copy (md_X8_copy 31) [.ref 29, .ref 31] σ (liV Q2) ∧ ∀ (σ4 : St), Q2 σ4 → Fr (md_X8_copy 31) σ σ4 → K_X8_goOn_106 d n σ0 Q σ4 0) ∧ (¬ (gI σ 1 0) ≤ x1 → vp_in x1 10 ∧ (((gI σ 30 x1.toNatClampNeg) = 0 → K_X8_goOn_33 d n σ0 Q σ (x1 + 1)) ∧ (¬ (gI σ 30 x1.toNatClampNeg) = 0 → ∃ Q9 : St → Prop, Cn (d - 1) n M_X8_copy (md_X8_copy 31) [.ref 29, .ref 31] σ (liV Q9) ∧ ∀ (σ11 : St), Q9 σ11 → Fr (md_X8_copy 31) σ σ11 → vp_in x1 10 ∧ (((gI σ11 30 x1.toNatClampNeg) ≤ 0 → ∃ Q16 : St → Prop, Cn (d - 1) n M_X8_change md_X8_change [.ref 7, .int x1, .int (-1)] σ11 (liV Q16) ∧ ∀ (σ18 : St), Q16 σ18 → Fr md_X8_change σ11 σ18 → ∃ Q22 : St → Prop, Cn (d - 1) n M_X8_consider md_X8_consider [.ref 7] σ18 (liV Q22) ∧ ∀ (σ24 : St), Q22 σ24 → Fr md_X8_consider σ18 σ24 → K_X8_goOn_33 d n σ0 Q σ24 (x1 + 1)) ∧ (¬ (gI σ11 30 x1.toNatClampNeg) ≤ 0 → ∃ Q28 : St → Prop, Cn (d - 1) n M_X8_change md_X8_change [.ref 7, .int x1, .int 1] σ11 (liV Q28) ∧ ∀ (σ30 : St), Q28 σ30 → Fr md_X8_change σ11 σ30 → ∃ Q34 : St → Prop, Cn (d - 1) n M_X8_consider md_X8_consider [.ref 7] σ30 (liV Q34) ∧ ∀ (σ36 : St), Q34 σ36 → Fr md_X8_consider σ30 σ36 → K_X8_goOn_33 d n σ0 Q σ36 (x1 + 1)))))))) : K_X8_goOn_33 d n σ0 Q σ x1 := by
  refine e_iload_n dX8_goOn_33 rfl rfl ?_
  refine e_aload_n dX8_goOn_34 rfl rfl ?_
  refine e_getR (y := 1) dX8_goOn_35 fl_X8_32 (ob_7 hn) rfl rfl ?_
  refine e_getI dX8_goOn_38 fl_X8_70 (ob_1 hn) rfl ?_
  refine e_icmp_ge (tgt := 93) dX8_goOn_41 (by decide) (fun c1 => ?_) (fun c1 => ?_)
  · replace h := h.1 c1
    refine e_aload_n dX8_goOn_93 rfl rfl ?_
    refine e_getR (y := 29) dX8_goOn_94 fl_X8_15 (ob_7 hn) rfl rfl ?_
    refine e_aload_n dX8_goOn_97 rfl rfl ?_
    refine e_getR (y := 31) dX8_goOn_98 fl_X8_21 (ob_7 hn) rfl rfl ?_
    obtain ⟨Q2, hc3, h⟩ := h
    refine e_callS (M' := M_X8_copy) (as := [.ref 29, .ref 31]) (rest := []) dX8_goOn_101 ml_X8_49 mk_X8_copy rfl (Nat.le_of_ble_eq_true rfl) (show 0 < d by omega) hc3 (Md_le (b := md_X8_goOn) (by decide)) (fun v σ4 hq hf => ?_)
    obtain ⟨rfl, hq⟩ := hq
    replace h := h σ4 hq hf
    refine e_iconst dX8_goOn_104 ci_0 ?_
    refine e_istore_n dX8_goOn_105 rfl rfl (by decide) ?_
    exact h
  · replace h := h.2 c1
    refine e_aload_n dX8_goOn_44 rfl rfl ?_
    refine e_getR (y := 30) dX8_goOn_45 fl_X8_18 (ob_7 hn) rfl rfl ?_
    refine e_iload_n dX8_goOn_48 rfl rfl ?_
    refine e_iald dX8_goOn_49 (ar_30 hn) h.1 ?_
    replace h := h.2
    refine e_if_eq (tgt := 87) dX8_goOn_50 (by decide) (fun c8 => ?_) (fun c8 => ?_)
    · replace h := h.1 c8
      refine e_iinc dX8_goOn_87 rfl (ii_1 _) rfl (by decide) ?_
      refine e_goto (tgt := 33) dX8_goOn_90 (by decide) ?_
      exact h
    · replace h := h.2 c8
      refine e_aload_n dX8_goOn_53 rfl rfl ?_
      refine e_getR (y := 29) dX8_goOn_54 fl_X8_15 (ob_7 hn) rfl rfl ?_
      refine e_aload_n dX8_goOn_57 rfl rfl ?_
      refine e_getR (y := 31) dX8_goOn_58 fl_X8_21 (ob_7 hn) rfl rfl ?_
      obtain ⟨Q9, hc10, h⟩ := h
      refine e_callS (M' := M_X8_copy) (as := [.ref 29, .ref 31]) (rest := []) dX8_goOn_61 ml_X8_49 mk_X8_copy rfl (Nat.le_of_ble_eq_true rfl) (show 0 < d by omega) hc10 (Md_le (b := md_X8_goOn) (by decide)) (fun v σ11 hq hf => ?_)
      obtain ⟨rfl, hq⟩ := hq
      replace h := h σ11 hq hf
      refine e_aload_n dX8_goOn_64 rfl rfl ?_
      refine e_iload_n dX8_goOn_65 rfl rfl ?_
      refine e_aload_n dX8_goOn_66 rfl rfl ?_
      refine e_getR (y := 30) dX8_goOn_67 fl_X8_18 (ob_7 hn) rfl rfl ?_
      refine e_iload_n dX8_goOn_70 rfl rfl ?_
      refine e_iald dX8_goOn_71 (ar_30 hn) h.1 ?_
      replace h := h.2
      refine e_if_le (tgt := 79) dX8_goOn_72 (by decide) (fun c15 => ?_) (fun c15 => ?_)
      · replace h := h.1 c15
        refine e_iconst dX8_goOn_79 ci_m1 ?_
        obtain ⟨Q16, hc17, h⟩ := h
        refine e_callV (M' := M_X8_change) (as := [.int x1, .int (-1)]) (rest := []) dX8_goOn_80 ml_X8_75 mk_X8_change (ob_7 hn) rfl rfl rfl (Nat.le_of_ble_eq_true rfl) (show 0 < d by omega) hc17 (Md_le (b := md_X8_goOn) (by decide)) (fun v σ18 hq hf => ?_)
        obtain ⟨rfl, hq⟩ := hq
        replace h := h σ18 hq hf
        refine e_aload_n dX8_goOn_83 rfl rfl ?_
        obtain ⟨Q22, hc23, h⟩ := h
        refine e_callV (M' := M_X8_consider) (as := []) (rest := []) dX8_goOn_84 ml_X8_79 mk_X8_consider (ob_7 hn) rfl rfl rfl (Nat.le_of_ble_eq_true rfl) (show 0 < d by omega) hc23 (Md_le (b := md_X8_goOn) (by decide)) (fun v σ24 hq hf => ?_)
        obtain ⟨rfl, hq⟩ := hq
        replace h := h σ24 hq hf
        refine e_iinc dX8_goOn_87 rfl (ii_1 _) rfl (by decide) ?_
        refine e_goto (tgt := 33) dX8_goOn_90 (by decide) ?_
        exact h
      · replace h := h.2 c15
        refine e_iconst dX8_goOn_75 ci_1 ?_
        refine e_goto (tgt := 80) dX8_goOn_76 (by decide) ?_
        obtain ⟨Q28, hc29, h⟩ := h
        refine e_callV (M' := M_X8_change) (as := [.int x1, .int 1]) (rest := []) dX8_goOn_80 ml_X8_75 mk_X8_change (ob_7 hn) rfl rfl rfl (Nat.le_of_ble_eq_true rfl) (show 0 < d by omega) hc29 (Md_le (b := md_X8_goOn) (by decide)) (fun v σ30 hq hf => ?_)
        obtain ⟨rfl, hq⟩ := hq
        replace h := h σ30 hq hf
        refine e_aload_n dX8_goOn_83 rfl rfl ?_
        obtain ⟨Q34, hc35, h⟩ := h
        refine e_callV (M' := M_X8_consider) (as := []) (rest := []) dX8_goOn_84 ml_X8_79 mk_X8_consider (ob_7 hn) rfl rfl rfl (Nat.le_of_ble_eq_true rfl) (show 0 < d by omega) hc35 (Md_le (b := md_X8_goOn) (by decide)) (fun v σ36 hq hf => ?_)
        obtain ⟨rfl, hq⟩ := hq
        replace h := h σ36 hq hf
        refine e_iinc dX8_goOn_87 rfl (ii_1 _) rfl (by decide) ?_
        refine e_goto (tgt := 33) dX8_goOn_90 (by decide) ?_
        exact h
theorem B_X8_goOn_106 {d n : Nat} {σ0 : St} {Q : Int32 → St → Prop}  {σ : St} {x1 : Int32} (hn : FIX ≤ n) (hd : 1 ≤ d) (h : (((gI σ 1 0) ≤ x1 → ∃ Q2 : St → Prop, Cn (d - 1) n M_X8_consider md_X8_consider [.ref 7] σ (liV Q2) ∧ ∀ (σ4 : St), Q2 σ4 → Fr md_X8_consider σ σ4 → (((gI σ4 7 9) ≠ (-1) → ∃ Q9 : St → Prop, Cn (d - 1) n M_X8_goToChosen md_X8_goToChosen [.ref 7] σ4 (liV Q9) ∧ ∀ (σ11 : St), Q9 σ11 → Fr md_X8_goToChosen σ4 σ11 → Q 1 σ11) ∧ ((gI σ4 7 9) = (-1) → Q 0 σ4))) ∧ (¬ (gI σ 1 0) ≤ x1 → vp_in x1 10 ∧ ∃ Q15 : St → Prop, Cn (d - 1) n M_X8_change md_X8_change [.ref 7, .int x1, .int (gI σ 30 x1.toNatClampNeg)] σ (liV Q15) ∧ ∀ (σ17 : St), Q15 σ17 → Fr md_X8_change σ σ17 → K_X8_goOn_106 d n σ0 Q σ17 (x1 + 1)))) : K_X8_goOn_106 d n σ0 Q σ x1 := by
  refine e_iload_n dX8_goOn_106 rfl rfl ?_
  refine e_aload_n dX8_goOn_107 rfl rfl ?_
  refine e_getR (y := 1) dX8_goOn_108 fl_X8_32 (ob_7 hn) rfl rfl ?_
  refine e_getI dX8_goOn_111 fl_X8_70 (ob_1 hn) rfl ?_
  refine e_icmp_ge (tgt := 134) dX8_goOn_114 (by decide) (fun c1 => ?_) (fun c1 => ?_)
  · replace h := h.1 c1
    refine e_aload_n dX8_goOn_134 rfl rfl ?_
    obtain ⟨Q2, hc3, h⟩ := h
    refine e_callV (M' := M_X8_consider) (as := []) (rest := []) dX8_goOn_135 ml_X8_79 mk_X8_consider (ob_7 hn) rfl rfl rfl (Nat.le_of_ble_eq_true rfl) (show 0 < d by omega) hc3 (Md_le (b := md_X8_goOn) (by decide)) (fun v σ4 hq hf => ?_)
    obtain ⟨rfl, hq⟩ := hq
    replace h := h σ4 hq hf
    refine e_aload_n dX8_goOn_138 rfl rfl ?_
    refine e_getI dX8_goOn_139 fl_X8_67 (ob_7 hn) rfl ?_
    refine e_iconst dX8_goOn_142 ci_m1 ?_
    refine e_icmp_ne (tgt := 148) dX8_goOn_143 (by decide) (fun c8 => ?_) (fun c8 => ?_)
    · replace h := h.1 c8
      refine e_aload_n dX8_goOn_148 rfl rfl ?_
      obtain ⟨Q9, hc10, h⟩ := h
      refine e_callV (M' := M_X8_goToChosen) (as := []) (rest := []) dX8_goOn_149 ml_X8_82 mk_X8_goToChosen (ob_7 hn) rfl rfl rfl (Nat.le_of_ble_eq_true rfl) (show 0 < d by omega) hc10 (Md_le (b := md_X8_goOn) (by decide)) (fun v σ11 hq hf => ?_)
      obtain ⟨rfl, hq⟩ := hq
      replace h := h σ11 hq hf
      refine e_iconst dX8_goOn_152 ci_1 ?_
      exact e_zret dX8_goOn_153 rfl (nar_z (Or.inr rfl)) ⟨_, rfl, h⟩
    · replace h := h.2 c8
      refine e_iconst dX8_goOn_146 ci_0 ?_
      exact e_zret dX8_goOn_147 rfl (nar_z (Or.inl rfl)) ⟨_, rfl, h⟩
  · replace h := h.2 c1
    refine e_aload_n dX8_goOn_117 rfl rfl ?_
    refine e_iload_n dX8_goOn_118 rfl rfl ?_
    refine e_aload_n dX8_goOn_119 rfl rfl ?_
    refine e_getR (y := 30) dX8_goOn_120 fl_X8_18 (ob_7 hn) rfl rfl ?_
    refine e_iload_n dX8_goOn_123 rfl rfl ?_
    refine e_iald dX8_goOn_124 (ar_30 hn) h.1 ?_
    replace h := h.2
    obtain ⟨Q15, hc16, h⟩ := h
    refine e_callV (M' := M_X8_change) (as := [.int x1, .int (gI σ 30 x1.toNatClampNeg)]) (rest := []) dX8_goOn_125 ml_X8_75 mk_X8_change (ob_7 hn) rfl rfl rfl (Nat.le_of_ble_eq_true rfl) (show 0 < d by omega) hc16 (Md_le (b := md_X8_goOn) (by decide)) (fun v σ17 hq hf => ?_)
    obtain ⟨rfl, hq⟩ := hq
    replace h := h σ17 hq hf
    refine e_iinc dX8_goOn_128 rfl (ii_1 _) rfl (by decide) ?_
    refine e_goto (tgt := 106) dX8_goOn_131 (by decide) ?_
    exact h
theorem S_X8_goOn {d n : Nat} {Q : Int32 → St → Prop} {σ : St}  (hn : FIX ≤ n) (hd : 1 ≤ d) (h : ∃ Q1 : Int32 → St → Prop, Cn (d - 1) n M_X4_squareAt md_X4_squareAt [.ref 6, .ref 29] σ (liI Q1) ∧ ∀ (v4 : Int32) (σ3 : St), Q1 v4 σ3 → Fr md_X4_squareAt σ σ3 → ∃ Q7 : St → Prop, Cn (d - 1) n M_X8_copy (md_X8_copy 30) [.ref 25, .ref 30] σ3 (liV Q7) ∧ ∀ (σ9 : St), Q7 σ9 → Fr (md_X8_copy 30) σ3 σ9 → K_X8_goOn_33 d n σ Q (sI σ9 7 9 (-1)) 0) : Cn d n M_X8_goOn md_X8_goOn [.ref 7] σ (liI Q) := by
  refine Cn.of (k0 := 1) (by decide) rfl ?_
  show Ev (d, n, md_X8_goOn, σ, liI Q) M_X8_goOn 0 [some (.ref 7), none] [] σ
  refine e_aload_n dX8_goOn_0 rfl rfl ?_
  refine e_getR (y := 6) dX8_goOn_1 fl_X8_36 (ob_7 hn) rfl rfl ?_
  refine e_aload_n dX8_goOn_4 rfl rfl ?_
  refine e_getR (y := 29) dX8_goOn_5 fl_X8_15 (ob_7 hn) rfl rfl ?_
  obtain ⟨Q1, hc2, h⟩ := h
  refine e_callV (M' := M_X4_squareAt) (as := [.ref 29]) (rest := []) dX8_goOn_8 ml_X8_53 mk_X4_squareAt (ob_6 hn) rfl rfl rfl (Nat.le_of_ble_eq_true rfl) (show 0 < d by omega) hc2 (Md_le (b := md_X8_goOn) (by decide)) (fun v σ3 hq hf => ?_)
  obtain ⟨v4, rfl, hq⟩ := hq
  replace h := h v4 σ3 hq hf
  refine e_pop dX8_goOn_11 rfl ?_
  refine e_aload_n dX8_goOn_12 rfl rfl ?_
  refine e_getR (y := 6) dX8_goOn_13 fl_X8_36 (ob_7 hn) rfl rfl ?_
  refine e_getR (y := 25) dX8_goOn_16 fl_X8_64 (ob_6 hn) rfl rfl ?_
  refine e_aload_n dX8_goOn_19 rfl rfl ?_
  refine e_getR (y := 30) dX8_goOn_20 fl_X8_18 (ob_7 hn) rfl rfl ?_
  obtain ⟨Q7, hc8, h⟩ := h
  refine e_callS (M' := M_X8_copy) (as := [.ref 25, .ref 30]) (rest := []) dX8_goOn_23 ml_X8_49 mk_X8_copy rfl (Nat.le_of_ble_eq_true rfl) (show 0 < d by omega) hc8 (Md_le (b := md_X8_goOn) (by decide)) (fun v σ9 hq hf => ?_)
  obtain ⟨rfl, hq⟩ := hq
  replace h := h σ9 hq hf
  refine e_aload_n dX8_goOn_26 rfl rfl ?_
  refine e_iconst dX8_goOn_27 ci_m1 ?_
  refine e_putI dX8_goOn_28 fl_X8_67 (ob_7 hn) rfl (fpI_8_9 _) (md_c (m := md_X8_goOn) (by decide)) ?_
  refine e_iconst dX8_goOn_31 ci_0 ?_
  refine e_istore_n dX8_goOn_32 rfl rfl (by decide) ?_
  exact h
abbrev K_X8_run_60 (d n : Nat) (σ0 : St) (Q : St → Prop) (σ : St) (x1 : Int32) (x2 : Int32) : Prop := Ev (d, n, md_X8_run, σ0, liV Q) M_X8_run 60 [some (.ref 7), some (.int x1), some (.int x2)] [] σ
theorem B_X8_run_60 {d n : Nat} {σ0 : St} {Q : St → Prop}  {σ : St} {x1 : Int32} {x2 : Int32} (hn : FIX ≤ n) (hd : 1 ≤ d) (h : ((x1 ≤ x2 → Q σ) ∧ (¬ x1 ≤ x2 → ∃ Q2 : Int32 → St → Prop, Cn (d - 1) n M_X8_goOn md_X8_goOn [.ref 7] σ (liI Q2) ∧ ∀ (v5 : Int32) (σ4 : St), Q2 v5 σ4 → Fr md_X8_goOn σ σ4 → ((v5 ≠ 0 → K_X8_run_60 d n σ0 Q σ4 x1 (x2 + 1)) ∧ (v5 = 0 → Q σ4))))) : K_X8_run_60 d n σ0 Q σ x1 x2 := by
  refine e_iload_n dX8_run_60 rfl rfl ?_
  refine e_iload_n dX8_run_61 rfl rfl ?_
  refine e_icmp_ge (tgt := 79) dX8_run_62 (by decide) (fun c1 => ?_) (fun c1 => ?_)
  · replace h := h.1 c1
    exact e_vret dX8_run_79 rfl ⟨rfl, h⟩
  · replace h := h.2 c1
    refine e_aload_n dX8_run_65 rfl rfl ?_
    obtain ⟨Q2, hc3, h⟩ := h
    refine e_callV (M' := M_X8_goOn) (as := []) (rest := []) dX8_run_66 ml_X8_60 mk_X8_goOn (ob_7 hn) rfl rfl rfl (Nat.le_of_ble_eq_true rfl) (show 0 < d by omega) hc3 (Md_le (b := md_X8_run) (by decide)) (fun v σ4 hq hf => ?_)
    obtain ⟨v5, rfl, hq⟩ := hq
    replace h := h v5 σ4 hq hf
    refine e_if_ne (tgt := 73) dX8_run_69 (by decide) (fun c8 => ?_) (fun c8 => ?_)
    · replace h := h.1 c8
      refine e_iinc dX8_run_73 rfl (ii_1 _) rfl (by decide) ?_
      refine e_goto (tgt := 60) dX8_run_76 (by decide) ?_
      exact h
    · replace h := h.2 c8
      exact e_vret dX8_run_72 rfl ⟨rfl, h⟩
theorem S_X8_run {d n : Nat} {Q : St → Prop} {σ : St} {a1 : Int32} (hn : FIX ≤ n) (hd : 1 ≤ d) (h : ∃ Q1 : St → Prop, Cn (d - 1) n M_X8_copy (md_X8_copy 29) [.ref 24, .ref 29] (sI σ 7 4 0) (liV Q1) ∧ ∀ (σ3 : St), Q1 σ3 → Fr (md_X8_copy 29) (sI σ 7 4 0) σ3 → vp_in 0 8 ∧ ∃ Q8 : St → Prop, Cn (d - 1) n M_X8_copy (md_X8_copy (GONE0 + 0)) [.ref 29, .ref (GONE0 + 0)] σ3 (liV Q8) ∧ ∀ (σ10 : St), Q8 σ10 → Fr (md_X8_copy (GONE0 + 0)) σ3 σ10 → ∃ Q14 : St → Prop, Cn (d - 1) n M_X8_copy (md_X8_copy 28) [.ref 29, .ref 28] σ10 (liV Q14) ∧ ∀ (σ16 : St), Q14 σ16 → Fr (md_X8_copy 28) σ10 σ16 → ∃ Q20 : Int32 → St → Prop, Cn (d - 1) n M_X4_squareAt md_X4_squareAt [.ref 6, .ref 29] σ16 (liI Q20) ∧ ∀ (v23 : Int32) (σ22 : St), Q20 v23 σ22 → Fr md_X4_squareAt σ16 σ22 → K_X8_run_60 d n σ Q (sI σ22 7 3 v23) a1 0) : Cn d n M_X8_run md_X8_run [.ref 7, .int a1] σ (liV Q) := by
  refine Cn.of (k0 := 1) (by decide) rfl ?_
  show Ev (d, n, md_X8_run, σ, liV Q) M_X8_run 0 [some (.ref 7), some (.int a1), none] [] σ
  refine e_aload_n dX8_run_0 rfl rfl ?_
  refine e_iconst dX8_run_1 ci_0 ?_
  refine e_putI dX8_run_2 fl_X8_40 (ob_7 hn) rfl (fpI_8_4 _) (md_c (m := md_X8_run) (by decide)) ?_
  refine e_aload_n dX8_run_5 rfl rfl ?_
  refine e_getR (y := 6) dX8_run_6 fl_X8_36 (ob_7 hn) rfl rfl ?_
  refine e_getR (y := 24) dX8_run_9 fl_X8_44 (ob_6 hn) rfl rfl ?_
  refine e_aload_n dX8_run_12 rfl rfl ?_
  refine e_getR (y := 29) dX8_run_13 fl_X8_15 (ob_7 hn) rfl rfl ?_
  obtain ⟨Q1, hc2, h⟩ := h
  refine e_callS (M' := M_X8_copy) (as := [.ref 24, .ref 29]) (rest := []) dX8_run_16 ml_X8_49 mk_X8_copy rfl (Nat.le_of_ble_eq_true rfl) (show 0 < d by omega) hc2 (Md_le (b := md_X8_run) (by decide)) (fun v σ3 hq hf => ?_)
  obtain ⟨rfl, hq⟩ := hq
  replace h := h σ3 hq hf
  refine e_aload_n dX8_run_19 rfl rfl ?_
  refine e_getR (y := 29) dX8_run_20 fl_X8_15 (ob_7 hn) rfl rfl ?_
  refine e_aload_n dX8_run_23 rfl rfl ?_
  refine e_getR (y := 33) dX8_run_24 fl_X8_29 (ob_7 hn) rfl rfl ?_
  refine e_iconst dX8_run_27 ci_0 ?_
  have hg7 := h.1
  refine e_aldG dX8_run_28 hn h.1 ?_
  replace h := h.2
  obtain ⟨Q8, hc9, h⟩ := h
  refine e_callS (M' := M_X8_copy) (as := [.ref 29, .ref (GONE0 + 0)]) (rest := []) dX8_run_29 ml_X8_49 mk_X8_copy rfl (Nat.le_of_ble_eq_true rfl) (show 0 < d by omega) hc9 (Md_gone (m := md_X8_run) hg7 (by decide)) (fun v σ10 hq hf => ?_)
  obtain ⟨rfl, hq⟩ := hq
  replace h := h σ10 hq hf
  refine e_aload_n dX8_run_32 rfl rfl ?_
  refine e_getR (y := 29) dX8_run_33 fl_X8_15 (ob_7 hn) rfl rfl ?_
  refine e_aload_n dX8_run_36 rfl rfl ?_
  refine e_getR (y := 28) dX8_run_37 fl_X8_9 (ob_7 hn) rfl rfl ?_
  obtain ⟨Q14, hc15, h⟩ := h
  refine e_callS (M' := M_X8_copy) (as := [.ref 29, .ref 28]) (rest := []) dX8_run_40 ml_X8_49 mk_X8_copy rfl (Nat.le_of_ble_eq_true rfl) (show 0 < d by omega) hc15 (Md_le (b := md_X8_run) (by decide)) (fun v σ16 hq hf => ?_)
  obtain ⟨rfl, hq⟩ := hq
  replace h := h σ16 hq hf
  refine e_aload_n dX8_run_43 rfl rfl ?_
  refine e_aload_n dX8_run_44 rfl rfl ?_
  refine e_getR (y := 6) dX8_run_45 fl_X8_36 (ob_7 hn) rfl rfl ?_
  refine e_aload_n dX8_run_48 rfl rfl ?_
  refine e_getR (y := 29) dX8_run_49 fl_X8_15 (ob_7 hn) rfl rfl ?_
  obtain ⟨Q20, hc21, h⟩ := h
  refine e_callV (M' := M_X4_squareAt) (as := [.ref 29]) (rest := [.ref 7]) dX8_run_52 ml_X8_53 mk_X4_squareAt (ob_6 hn) rfl rfl rfl (Nat.le_of_ble_eq_true rfl) (show 0 < d by omega) hc21 (Md_le (b := md_X8_run) (by decide)) (fun v σ22 hq hf => ?_)
  obtain ⟨v23, rfl, hq⟩ := hq
  replace h := h v23 σ22 hq hf
  refine e_putI dX8_run_55 fl_X8_57 (ob_7 hn) rfl (fpI_8_3 _) (md_c (m := md_X8_run) (by decide)) ?_
  refine e_iconst dX8_run_58 ci_0 ?_
  refine e_istore_n dX8_run_59 rfl rfl (by decide) ?_
  exact h
abbrev K_X8_leastSquare_22 (d n : Nat) (σ0 : St) (Q : Int32 → St → Prop) (σ : St) (x1 : Int32) (x2 : Int32) (x3 : Int32) (x4 : Int32) : Prop := Ev (d, n, md_X8_leastSquare, σ0, liI Q) M_X8_leastSquare 22 [some (.ref 7), some (.int x1), some (.int x2), some (.int x3), some (.int x4), none, none, none] [] σ
abbrev K_X8_leastSquare_50 (d n : Nat) (σ0 : St) (Q : Int32 → St → Prop) (σ : St) (x1 : Int32) (x2 : Int32) (x3 : Int32) (x4 : Int32) (x5 : Int32) : Prop := Ev (d, n, md_X8_leastSquare, σ0, liI Q) M_X8_leastSquare 50 [some (.ref 7), some (.int x1), some (.int x2), some (.int x3), some (.int x4), some (.int x5), none, none] [] σ
abbrev K_X8_leastSquare_63 (d n : Nat) (σ0 : St) (Q : Int32 → St → Prop) (σ : St) (x1 : Int32) (x2 : Int32) (x3 : Int32) (x4 : Int32) (x5 : Int32) (x6 : Int32) (x7 : Int32) : Prop := Ev (d, n, md_X8_leastSquare, σ0, liI Q) M_X8_leastSquare 63 [some (.ref 7), some (.int x1), some (.int x2), some (.int x3), some (.int x4), some (.int x5), some (.int x6), some (.int x7)] [] σ
theorem B_X8_leastSquare_22 {d n : Nat} {σ0 : St} {Q : Int32 → St → Prop}  {σ : St} {x1 : Int32} {x2 : Int32} {x3 : Int32} {x4 : Int32} (hn : FIX ≤ n) (hd : 1 ≤ d) (h : (((gI σ 1 0) ≤ x4 → K_X8_leastSquare_50 d n σ0 Q σ x1 x2 x3 (-1) 0) ∧ (¬ (gI σ 1 0) ≤ x4 → K_X8_leastSquare_22 d n σ0 Q σ x1 x2 (x3 * x2) (x4 + 1)))) : K_X8_leastSquare_22 d n σ0 Q σ x1 x2 x3 x4 := by
  refine e_iload dX8_leastSquare_22 rfl ?_
  refine e_aload_n dX8_leastSquare_24 rfl rfl ?_
  refine e_getR (y := 1) dX8_leastSquare_25 fl_X8_32 (ob_7 hn) rfl rfl ?_
  refine e_getI dX8_leastSquare_28 fl_X8_70 (ob_1 hn) rfl ?_
  refine e_icmp_ge (tgt := 44) dX8_leastSquare_31 (by decide) (fun c1 => ?_) (fun c1 => ?_)
  · replace h := h.1 c1
    refine e_iconst dX8_leastSquare_44 ci_m1 ?_
    refine e_istore dX8_leastSquare_45 rfl (by decide) ?_
    refine e_iconst dX8_leastSquare_47 ci_0 ?_
    refine e_istore dX8_leastSquare_48 rfl (by decide) ?_
    exact h
  · replace h := h.2 c1
    refine e_iload_n dX8_leastSquare_34 rfl rfl ?_
    refine e_iload_n dX8_leastSquare_35 rfl rfl ?_
    refine e_imul dX8_leastSquare_36 ?_
    refine e_istore_n dX8_leastSquare_37 rfl rfl (by decide) ?_
    refine e_iinc dX8_leastSquare_38 rfl (ii_1 _) rfl (by decide) ?_
    refine e_goto (tgt := 22) dX8_leastSquare_41 (by decide) ?_
    exact h
theorem B_X8_leastSquare_50 {d n : Nat} {σ0 : St} {Q : Int32 → St → Prop}  {σ : St} {x1 : Int32} {x2 : Int32} {x3 : Int32} {x4 : Int32} {x5 : Int32} (hn : FIX ≤ n) (hd : 1 ≤ d) (h : ((x3 ≤ x5 → Q x4 σ) ∧ (¬ x3 ≤ x5 → K_X8_leastSquare_63 d n σ0 Q σ x1 x2 x3 x4 x5 x5 0))) : K_X8_leastSquare_50 d n σ0 Q σ x1 x2 x3 x4 x5 := by
  refine e_iload dX8_leastSquare_50 rfl ?_
  refine e_iload_n dX8_leastSquare_52 rfl rfl ?_
  refine e_icmp_ge (tgt := 136) dX8_leastSquare_53 (by decide) (fun c1 => ?_) (fun c1 => ?_)
  · replace h := h.1 c1
    refine e_iload dX8_leastSquare_136 rfl ?_
    exact e_iret dX8_leastSquare_138 rfl ⟨_, rfl, h⟩
  · replace h := h.2 c1
    refine e_iload dX8_leastSquare_56 rfl ?_
    refine e_istore dX8_leastSquare_58 rfl (by decide) ?_
    refine e_iconst dX8_leastSquare_60 ci_0 ?_
    refine e_istore dX8_leastSquare_61 rfl (by decide) ?_
    exact h
theorem B_X8_leastSquare_63 {d n : Nat} {σ0 : St} {Q : Int32 → St → Prop}  {σ : St} {x1 : Int32} {x2 : Int32} {x3 : Int32} {x4 : Int32} {x5 : Int32} {x6 : Int32} {x7 : Int32} (hn : FIX ≤ n) (hd : 1 ≤ d) (h : (((gI σ 1 0) ≤ x7 → ∃ Q2 : Int32 → St → Prop, Cn (d - 1) n M_X4_squareAt md_X4_squareAt [.ref 6, .ref 31] σ (liI Q2) ∧ ∀ (v5 : Int32) (σ4 : St), Q2 v5 σ4 → Fr md_X4_squareAt σ σ4 → ((x4 = (-1) → K_X8_leastSquare_50 d n σ0 Q σ4 x1 x2 x3 v5 (x5 + 1)) ∧ (¬ x4 = (-1) → ((x4 ≤ v5 → K_X8_leastSquare_50 d n σ0 Q σ4 x1 x2 x3 x4 (x5 + 1)) ∧ (¬ x4 ≤ v5 → K_X8_leastSquare_50 d n σ0 Q σ4 x1 x2 x3 v5 (x5 + 1)))))) ∧ (¬ (gI σ 1 0) ≤ x7 → (¬ x2 = 0) ∧ vp_in x7 10 ∧ (¬ x2 = 0) ∧ K_X8_leastSquare_63 d n σ0 Q (sI σ 31 x7.toNatClampNeg ((x6 - x6 / x2 * x2) * x1)) x1 x2 x3 x4 x5 (x6 / x2) (x7 + 1)))) : K_X8_leastSquare_63 d n σ0 Q σ x1 x2 x3 x4 x5 x6 x7 := by
  refine e_iload dX8_leastSquare_63 rfl ?_
  refine e_aload_n dX8_leastSquare_65 rfl rfl ?_
  refine e_getR (y := 1) dX8_leastSquare_66 fl_X8_32 (ob_7 hn) rfl rfl ?_
  refine e_getI dX8_leastSquare_69 fl_X8_70 (ob_1 hn) rfl ?_
  refine e_icmp_ge (tgt := 100) dX8_leastSquare_72 (by decide) (fun c1 => ?_) (fun c1 => ?_)
  · replace h := h.1 c1
    refine e_aload_n dX8_leastSquare_100 rfl rfl ?_
    refine e_getR (y := 6) dX8_leastSquare_101 fl_X8_36 (ob_7 hn) rfl rfl ?_
    refine e_aload_n dX8_leastSquare_104 rfl rfl ?_
    refine e_getR (y := 31) dX8_leastSquare_105 fl_X8_21 (ob_7 hn) rfl rfl ?_
    obtain ⟨Q2, hc3, h⟩ := h
    refine e_callV (M' := M_X4_squareAt) (as := [.ref 31]) (rest := []) dX8_leastSquare_108 ml_X8_53 mk_X4_squareAt (ob_6 hn) rfl rfl rfl (Nat.le_of_ble_eq_true rfl) (show 0 < d by omega) hc3 (Md_le (b := md_X8_leastSquare) (by decide)) (fun v σ4 hq hf => ?_)
    obtain ⟨v5, rfl, hq⟩ := hq
    replace h := h v5 σ4 hq hf
    refine e_istore dX8_leastSquare_111 rfl (by decide) ?_
    refine e_iload dX8_leastSquare_113 rfl ?_
    refine e_iconst dX8_leastSquare_115 ci_m1 ?_
    refine e_icmp_eq (tgt := 126) dX8_leastSquare_116 (by decide) (fun c8 => ?_) (fun c8 => ?_)
    · replace h := h.1 c8
      refine e_iload dX8_leastSquare_126 rfl ?_
      refine e_istore dX8_leastSquare_128 rfl (by decide) ?_
      refine e_iinc dX8_leastSquare_130 rfl (ii_1 _) rfl (by decide) ?_
      refine e_goto (tgt := 50) dX8_leastSquare_133 (by decide) ?_
      refine e_kill [true, true, true, true, true, true, false, false] ?_
      exact h
    · replace h := h.2 c8
      refine e_iload dX8_leastSquare_119 rfl ?_
      refine e_iload dX8_leastSquare_121 rfl ?_
      refine e_icmp_ge (tgt := 130) dX8_leastSquare_123 (by decide) (fun c9 => ?_) (fun c9 => ?_)
      · replace h := h.1 c9
        refine e_iinc dX8_leastSquare_130 rfl (ii_1 _) rfl (by decide) ?_
        refine e_goto (tgt := 50) dX8_leastSquare_133 (by decide) ?_
        refine e_kill [true, true, true, true, true, true, false, false] ?_
        exact h
      · replace h := h.2 c9
        refine e_iload dX8_leastSquare_126 rfl ?_
        refine e_istore dX8_leastSquare_128 rfl (by decide) ?_
        refine e_iinc dX8_leastSquare_130 rfl (ii_1 _) rfl (by decide) ?_
        refine e_goto (tgt := 50) dX8_leastSquare_133 (by decide) ?_
        refine e_kill [true, true, true, true, true, true, false, false] ?_
        exact h
  · replace h := h.2 c1
    refine e_aload_n dX8_leastSquare_75 rfl rfl ?_
    refine e_getR (y := 31) dX8_leastSquare_76 fl_X8_21 (ob_7 hn) rfl rfl ?_
    refine e_iload dX8_leastSquare_79 rfl ?_
    refine e_iload dX8_leastSquare_81 rfl ?_
    refine e_iload_n dX8_leastSquare_83 rfl rfl ?_
    refine e_irem dX8_leastSquare_84 h.1 ?_
    replace h := h.2
    refine e_iload_n dX8_leastSquare_85 rfl rfl ?_
    refine e_imul dX8_leastSquare_86 ?_
    refine e_iast dX8_leastSquare_87 (ar_31 hn) h.1 (md_r (m := md_X8_leastSquare) (by decide)) ?_
    replace h := h.2
    refine e_iload dX8_leastSquare_88 rfl ?_
    refine e_iload_n dX8_leastSquare_90 rfl rfl ?_
    refine e_idiv dX8_leastSquare_91 h.1 ?_
    replace h := h.2
    refine e_istore dX8_leastSquare_92 rfl (by decide) ?_
    refine e_iinc dX8_leastSquare_94 rfl (ii_1 _) rfl (by decide) ?_
    refine e_goto (tgt := 63) dX8_leastSquare_97 (by decide) ?_
    exact h
theorem S_X8_leastSquare {d n : Nat} {Q : Int32 → St → Prop} {σ : St} {a1 : Int32} (hn : FIX ≤ n) (hd : 1 ≤ d) (h : (¬ (mxI 1 a1) = 0) ∧ K_X8_leastSquare_22 d n σ Q σ a1 (mnI 20 ((250 / (mxI 1 a1)) + 1)) 1 0) : Cn d n M_X8_leastSquare md_X8_leastSquare [.ref 7, .int a1] σ (liI Q) := by
  refine Cn.of (k0 := 6) (by decide) rfl ?_
  show Ev (d, n, md_X8_leastSquare, σ, liI Q) M_X8_leastSquare 0 [some (.ref 7), some (.int a1), none, none, none, none, none, none] [] σ
  refine e_bipush dX8_leastSquare_0 cb_20 ?_
  refine e_sipush dX8_leastSquare_2 cs_250 ?_
  refine e_iconst dX8_leastSquare_5 ci_1 ?_
  refine e_iload_n dX8_leastSquare_6 rfl rfl ?_
  refine e_mmax (st := [.int 250, .int 20]) dX8_leastSquare_7 ml_X8_94 (Nat.le_of_ble_eq_true rfl) (show 0 < d by omega) ?_
  refine e_idiv dX8_leastSquare_10 h.1 ?_
  replace h := h.2
  refine e_iconst dX8_leastSquare_11 ci_1 ?_
  refine e_iadd dX8_leastSquare_12 ?_
  refine e_mmin (st := []) dX8_leastSquare_13 ml_X8_88 (Nat.le_of_ble_eq_true rfl) (show 0 < d by omega) ?_
  refine e_istore_n dX8_leastSquare_16 rfl rfl (by decide) ?_
  refine e_iconst dX8_leastSquare_17 ci_1 ?_
  refine e_istore_n dX8_leastSquare_18 rfl rfl (by decide) ?_
  refine e_iconst dX8_leastSquare_19 ci_0 ?_
  refine e_istore dX8_leastSquare_20 rfl (by decide) ?_
  exact h
abbrev K_X8_edgeOf_16 (d n : Nat) (σ0 : St) (Q : Int32 → St → Prop) (σ : St) (x1 : Nat) (x2 : Int32) (x3 : Int32) : Prop := Ev (d, n, md_X8_edgeOf, σ0, liI Q) M_X8_edgeOf 16 [some (.ref 7), some (.ref x1), some (.int x2), some (.int x3)] [] σ
theorem B_X8_edgeOf_16 {d n : Nat} {σ0 : St} {Q : Int32 → St → Prop}  {σ : St} {x1 : Nat} {x2 : Int32} {x3 : Int32} (hn : FIX ≤ n) (hd : 1 ≤ d) (hp_x1 : IsP n x1) (h : (((250 : Int32) < x3 → Q (-1) σ) ∧ (¬ (250 : Int32) < x3 → vp_in x2 10 ∧ ∃ Q2 : St → Prop, Cn (d - 1) n M_X4_mark md_X4_mark [.ref 6, .ref 31] (sI σ 31 x2.toNatClampNeg x3) (liV Q2) ∧ ∀ (σ4 : St), Q2 σ4 → Fr md_X4_mark (sI σ 31 x2.toNatClampNeg x3) σ4 → ∃ Q8 : Int32 → St → Prop, Cn (d - 1) n M_X4_pick md_X4_pick [.ref 6, .ref x1, .int 0] σ4 (liI Q8) ∧ ∀ (v11 : Int32) (σ10 : St), Q8 v11 σ10 → Fr md_X4_pick σ4 σ10 → pre_X5_bundleAt σ10 x1 v11 ∧ (((fn_X11_contains (fn_X5_bundleAt σ10 x1 v11) x2) ≠ 0 → K_X8_edgeOf_16 d n σ0 Q σ10 x1 x2 (x3 + 1)) ∧ ((fn_X11_contains (fn_X5_bundleAt σ10 x1 v11) x2) = 0 → Q x3 σ10))))) : K_X8_edgeOf_16 d n σ0 Q σ x1 x2 x3 := by
  refine e_iload_n dX8_edgeOf_16 rfl rfl ?_
  refine e_sipush dX8_edgeOf_17 cs_250 ?_
  refine e_icmp_gt (tgt := 69) dX8_edgeOf_20 (by decide) (fun c1 => ?_) (fun c1 => ?_)
  · replace h := h.1 c1
    refine e_iconst dX8_edgeOf_69 ci_m1 ?_
    exact e_iret dX8_edgeOf_70 rfl ⟨_, rfl, h⟩
  · replace h := h.2 c1
    refine e_aload_n dX8_edgeOf_23 rfl rfl ?_
    refine e_getR (y := 31) dX8_edgeOf_24 fl_X8_21 (ob_7 hn) rfl rfl ?_
    refine e_iload_n dX8_edgeOf_27 rfl rfl ?_
    refine e_iload_n dX8_edgeOf_28 rfl rfl ?_
    refine e_iast dX8_edgeOf_29 (ar_31 hn) h.1 (md_r (m := md_X8_edgeOf) (by decide)) ?_
    replace h := h.2
    refine e_aload_n dX8_edgeOf_30 rfl rfl ?_
    refine e_getR (y := 6) dX8_edgeOf_31 fl_X8_36 (ob_7 hn) rfl rfl ?_
    refine e_aload_n dX8_edgeOf_34 rfl rfl ?_
    refine e_getR (y := 31) dX8_edgeOf_35 fl_X8_21 (ob_7 hn) rfl rfl ?_
    obtain ⟨Q2, hc3, h⟩ := h
    refine e_callV (M' := M_X4_mark) (as := [.ref 31]) (rest := []) dX8_edgeOf_38 ml_X8_104 mk_X4_mark (ob_6 hn) rfl rfl rfl (Nat.le_of_ble_eq_true rfl) (show 0 < d by omega) hc3 (Md_le (b := md_X8_edgeOf) (by decide)) (fun v σ4 hq hf => ?_)
    obtain ⟨rfl, hq⟩ := hq
    replace h := h σ4 hq hf
    refine e_aload_n dX8_edgeOf_41 rfl rfl ?_
    refine e_aload_n dX8_edgeOf_42 rfl rfl ?_
    refine e_getR (y := 6) dX8_edgeOf_43 fl_X8_36 (ob_7 hn) rfl rfl ?_
    refine e_aload_n dX8_edgeOf_46 rfl rfl ?_
    refine e_iconst dX8_edgeOf_47 ci_0 ?_
    obtain ⟨Q8, hc9, h⟩ := h
    refine e_callV (M' := M_X4_pick) (as := [.ref x1, .int 0]) (rest := [.ref x1]) dX8_edgeOf_48 ml_X8_108 mk_X4_pick (ob_6 hn) rfl rfl rfl (Nat.le_of_ble_eq_true rfl) (show 0 < d by omega) hc9 (Md_le (b := md_X8_edgeOf) (by decide)) (fun v σ10 hq hf => ?_)
    obtain ⟨v11, rfl, hq⟩ := hq
    replace h := h v11 σ10 hq hf
    refine e_callV (M' := M_X5_bundleAt) (as := [.int v11]) (rest := []) dX8_edgeOf_51 ml_X8_112 mk_X5_bundleAt (Ob.p hp_x1) rfl rfl rfl (Nat.le_of_ble_eq_true rfl) (show 0 < d by omega) (sp_X5_bundleAt hp_x1 h.1) Md_nil (fun v σv hq hf => ?_)
    obtain ⟨v, rfl, rfl, rfl⟩ := hq
    replace h := h.2
    refine e_iload_n dX8_edgeOf_54 rfl rfl ?_
    refine e_callN (M' := M_X11_contains) (as := [.int (fn_X5_bundleAt σ10 x1 v11), .int x2]) (rest := []) dX8_edgeOf_55 nl_X8_118 mk_X11_contains rfl (Nat.le_of_ble_eq_true rfl) (show 0 < d by omega) (sp_X11_contains) Md_nil (fun v σv hq hf => ?_)
    obtain ⟨v, rfl, rfl, rfl⟩ := hq
    refine e_if_ne (tgt := 63) dX8_edgeOf_58 (by decide) (fun c14 => ?_) (fun c14 => ?_)
    · replace h := h.1 c14
      refine e_iinc dX8_edgeOf_63 rfl (ii_1 _) rfl (by decide) ?_
      refine e_goto (tgt := 16) dX8_edgeOf_66 (by decide) ?_
      exact h
    · replace h := h.2 c14
      refine e_iload_n dX8_edgeOf_61 rfl rfl ?_
      exact e_iret dX8_edgeOf_62 rfl ⟨_, rfl, h⟩
theorem S_X8_edgeOf {d n : Nat} {Q : Int32 → St → Prop} {σ : St} {p1 : Nat} {a2 : Int32} (hn : FIX ≤ n) (hd : 1 ≤ d) (hp_p1 : IsP n p1) (h : ∃ Q1 : St → Prop, Cn (d - 1) n M_X8_copy (md_X8_copy 31) [.ref 24, .ref 31] σ (liV Q1) ∧ ∀ (σ3 : St), Q1 σ3 → Fr (md_X8_copy 31) σ σ3 → K_X8_edgeOf_16 d n σ Q σ3 p1 a2 0) : Cn d n M_X8_edgeOf md_X8_edgeOf [.ref 7, .ref p1, .int a2] σ (liI Q) := by
  refine Cn.of (k0 := 1) (by decide) rfl ?_
  show Ev (d, n, md_X8_edgeOf, σ, liI Q) M_X8_edgeOf 0 [some (.ref 7), some (.ref p1), some (.int a2), none] [] σ
  refine e_aload_n dX8_edgeOf_0 rfl rfl ?_
  refine e_getR (y := 6) dX8_edgeOf_1 fl_X8_36 (ob_7 hn) rfl rfl ?_
  refine e_getR (y := 24) dX8_edgeOf_4 fl_X8_44 (ob_6 hn) rfl rfl ?_
  refine e_aload_n dX8_edgeOf_7 rfl rfl ?_
  refine e_getR (y := 31) dX8_edgeOf_8 fl_X8_21 (ob_7 hn) rfl rfl ?_
  obtain ⟨Q1, hc2, h⟩ := h
  refine e_callS (M' := M_X8_copy) (as := [.ref 24, .ref 31]) (rest := []) dX8_edgeOf_11 ml_X8_49 mk_X8_copy rfl (Nat.le_of_ble_eq_true rfl) (show 0 < d by omega) hc2 (Md_le (b := md_X8_edgeOf) (by decide)) (fun v σ3 hq hf => ?_)
  obtain ⟨rfl, hq⟩ := hq
  replace h := h σ3 hq hf
  refine e_iconst dX8_edgeOf_14 ci_0 ?_
  refine e_istore_n dX8_edgeOf_15 rfl rfl (by decide) ?_
  exact h
abbrev K_X9_put_3 (d n : Nat) (σ0 : St) (Q : St → Prop) (σ : St) (x1 : Int32) (x2 : Int32) : Prop := Ev (d, n, md_X9_put, σ0, liV Q) M_X9_put 3 [some (.ref 4), some (.int x1), some (.int x2)] [] σ
theorem B_X9_put_3 {d n : Nat} {σ0 : St} {Q : St → Prop}  {σ : St} {x1 : Int32} {x2 : Int32} (hn : FIX ≤ n) (h : ((x2 < 0 → Q σ) ∧ (¬ x2 < 0 → (((400 : Int32) ≤ (gI σ 4 0) → K_X9_put_3 d n σ0 Q σ x1 (x2 + (-8))) ∧ (¬ (400 : Int32) ≤ (gI σ 4 0) → vp_in (gI σ 4 0) 400 ∧ K_X9_put_3 d n σ0 Q (sI (sI σ 19 (gI σ 4 0).toNatClampNeg ((x1 >>> (x2 &&& 31)) &&& 255)) 4 0 ((gI (sI σ 19 (gI σ 4 0).toNatClampNeg ((x1 >>> (x2 &&& 31)) &&& 255)) 4 0) + 1)) x1 (x2 + (-8))))))) : K_X9_put_3 d n σ0 Q σ x1 x2 := by
  refine e_iload_n dX9_put_3 rfl rfl ?_
  refine e_if_lt (tgt := 49) dX9_put_4 (by decide) (fun c1 => ?_) (fun c1 => ?_)
  · replace h := h.1 c1
    exact e_vret dX9_put_49 rfl ⟨rfl, h⟩
  · replace h := h.2 c1
    refine e_aload_n dX9_put_7 rfl rfl ?_
    refine e_getI dX9_put_8 fl_X9_24 (ob_4 hn) rfl ?_
    refine e_sipush dX9_put_11 cs_400 ?_
    refine e_icmp_ge (tgt := 43) dX9_put_14 (by decide) (fun c2 => ?_) (fun c2 => ?_)
    · replace h := h.1 c2
      refine e_iinc dX9_put_43 rfl (ii_m8 _) rfl (by decide) ?_
      refine e_goto (tgt := 3) dX9_put_46 (by decide) ?_
      exact h
    · replace h := h.2 c2
      refine e_aload_n dX9_put_17 rfl rfl ?_
      refine e_getR (y := 19) dX9_put_18 fl_X9_9 (ob_4 hn) rfl rfl ?_
      refine e_aload_n dX9_put_21 rfl rfl ?_
      refine e_getI dX9_put_22 fl_X9_24 (ob_4 hn) rfl ?_
      refine e_iload_n dX9_put_25 rfl rfl ?_
      refine e_iload_n dX9_put_26 rfl rfl ?_
      refine e_ishr dX9_put_27 ?_
      refine e_sipush dX9_put_28 cs_255 ?_
      refine e_iand dX9_put_31 ?_
      refine e_iast dX9_put_32 (ar_19 hn) h.1 (md_r (m := md_X9_put) (by decide)) ?_
      replace h := h.2
      refine e_aload_n dX9_put_33 rfl rfl ?_
      refine e_dup dX9_put_34 rfl ?_
      refine e_getI dX9_put_35 fl_X9_24 (ob_4 hn) rfl ?_
      refine e_iconst dX9_put_38 ci_1 ?_
      refine e_iadd dX9_put_39 ?_
      refine e_putI dX9_put_40 fl_X9_24 (ob_4 hn) rfl (fpI_9_0 _) (md_c (m := md_X9_put) (by decide)) ?_
      refine e_iinc dX9_put_43 rfl (ii_m8 _) rfl (by decide) ?_
      refine e_goto (tgt := 3) dX9_put_46 (by decide) ?_
      exact h
theorem S_X9_put {d n : Nat} {Q : St → Prop} {σ : St} {a1 : Int32} (hn : FIX ≤ n) (h : K_X9_put_3 d n σ Q σ a1 24) : Cn d n M_X9_put md_X9_put [.ref 4, .int a1] σ (liV Q) := by
  refine Cn.of (k0 := 1) (by decide) rfl ?_
  show Ev (d, n, md_X9_put, σ, liV Q) M_X9_put 0 [some (.ref 4), some (.int a1), none] [] σ
  refine e_bipush dX9_put_0 cb_24 ?_
  refine e_istore_n dX9_put_2 rfl rfl (by decide) ?_
  exact h
theorem S_X9_token {d n : Nat} {Q : St → Prop} {σ : St} {a1 : Int32} {a2 : Int32} {a3 : Int32} (hn : FIX ≤ n) (h : (((gI σ 4 2) ≤ 400 → vp_in (gI σ 4 2) 401 ∧ vp_in (gI (sI σ 20 (gI σ 4 2).toNatClampNeg a1) 4 2) 401 ∧ vp_in (gI (sI (sI σ 20 (gI σ 4 2).toNatClampNeg a1) 21 (gI (sI σ 20 (gI σ 4 2).toNatClampNeg a1) 4 2).toNatClampNeg a2) 4 2) 401 ∧ Q (sI (sI (sI (sI σ 20 (gI σ 4 2).toNatClampNeg a1) 21 (gI (sI σ 20 (gI σ 4 2).toNatClampNeg a1) 4 2).toNatClampNeg a2) 22 (gI (sI (sI σ 20 (gI σ 4 2).toNatClampNeg a1) 21 (gI (sI σ 20 (gI σ 4 2).toNatClampNeg a1) 4 2).toNatClampNeg a2) 4 2).toNatClampNeg a3) 4 2 ((gI (sI (sI (sI σ 20 (gI σ 4 2).toNatClampNeg a1) 21 (gI (sI σ 20 (gI σ 4 2).toNatClampNeg a1) 4 2).toNatClampNeg a2) 22 (gI (sI (sI σ 20 (gI σ 4 2).toNatClampNeg a1) 21 (gI (sI σ 20 (gI σ 4 2).toNatClampNeg a1) 4 2).toNatClampNeg a2) 4 2).toNatClampNeg a3) 4 2) + 1))) ∧ (¬ (gI σ 4 2) ≤ 400 → Q σ))) : Cn d n M_X9_token md_X9_token [.ref 4, .int a1, .int a2, .int a3] σ (liV Q) := by
  refine Cn.of (k0 := 0) (by decide) rfl ?_
  show Ev (d, n, md_X9_token, σ, liV Q) M_X9_token 0 [some (.ref 4), some (.int a1), some (.int a2), some (.int a3)] [] σ
  refine e_aload_n dX9_token_0 rfl rfl ?_
  refine e_getI dX9_token_1 fl_X9_28 (ob_4 hn) rfl ?_
  refine e_sipush dX9_token_4 cs_400 ?_
  refine e_icmp_le (tgt := 11) dX9_token_7 (by decide) (fun c1 => ?_) (fun c1 => ?_)
  · replace h := h.1 c1
    refine e_aload_n dX9_token_11 rfl rfl ?_
    refine e_getR (y := 20) dX9_token_12 fl_X9_15 (ob_4 hn) rfl rfl ?_
    refine e_aload_n dX9_token_15 rfl rfl ?_
    refine e_getI dX9_token_16 fl_X9_28 (ob_4 hn) rfl ?_
    refine e_iload_n dX9_token_19 rfl rfl ?_
    refine e_iast dX9_token_20 (ar_20 hn) h.1 (md_r (m := md_X9_token) (by decide)) ?_
    replace h := h.2
    refine e_aload_n dX9_token_21 rfl rfl ?_
    refine e_getR (y := 21) dX9_token_22 fl_X9_18 (ob_4 hn) rfl rfl ?_
    refine e_aload_n dX9_token_25 rfl rfl ?_
    refine e_getI dX9_token_26 fl_X9_28 (ob_4 hn) rfl ?_
    refine e_iload_n dX9_token_29 rfl rfl ?_
    refine e_iast dX9_token_30 (ar_21 hn) h.1 (md_r (m := md_X9_token) (by decide)) ?_
    replace h := h.2
    refine e_aload_n dX9_token_31 rfl rfl ?_
    refine e_getR (y := 22) dX9_token_32 fl_X9_21 (ob_4 hn) rfl rfl ?_
    refine e_aload_n dX9_token_35 rfl rfl ?_
    refine e_getI dX9_token_36 fl_X9_28 (ob_4 hn) rfl ?_
    refine e_iload_n dX9_token_39 rfl rfl ?_
    refine e_iast dX9_token_40 (ar_22 hn) h.1 (md_r (m := md_X9_token) (by decide)) ?_
    replace h := h.2
    refine e_aload_n dX9_token_41 rfl rfl ?_
    refine e_dup dX9_token_42 rfl ?_
    refine e_getI dX9_token_43 fl_X9_28 (ob_4 hn) rfl ?_
    refine e_iconst dX9_token_46 ci_1 ?_
    refine e_iadd dX9_token_47 ?_
    refine e_putI dX9_token_48 fl_X9_28 (ob_4 hn) rfl (fpI_9_2 _) (md_c (m := md_X9_token) (by decide)) ?_
    exact e_vret dX9_token_51 rfl ⟨rfl, h⟩
  · replace h := h.2 c1
    exact e_vret dX9_token_10 rfl ⟨rfl, h⟩
abbrev K_X9_wordKind_13 (d n : Nat) (σ0 : St) (Q : Int32 → St → Prop) (σ : St) (x1 : Int32) (x2 : Int32) (x3 : Int32) : Prop := Ev (d, n, md_X9_wordKind, σ0, liI Q) M_X9_wordKind 13 [some (.ref 4), some (.int x1), some (.int x2), some (.int x3)] [] σ
theorem B_X9_wordKind_13 {d n : Nat} {σ0 : St} {Q : Int32 → St → Prop}  {σ : St} {x1 : Int32} {x2 : Int32} {x3 : Int32} (hn : FIX ≤ n) (hd : 1 ≤ d) (h : (((13 : Int32) < x3 → Q 257 σ) ∧ (¬ (13 : Int32) < x3 → ∃ Q2 : Int32 → St → Prop, Cn (d - 1) n M_X9_isWord md_X9_isWord [.ref 4, .int x3, .int x1, .int x2] σ (liI Q2) ∧ ∀ (v5 : Int32) (σ4 : St), Q2 v5 σ4 → Fr md_X9_isWord σ σ4 → ((v5 = 0 → K_X9_wordKind_13 d n σ0 Q σ4 x1 x2 (x3 + 1)) ∧ (¬ v5 = 0 → Q x3 σ4))))) : K_X9_wordKind_13 d n σ0 Q σ x1 x2 x3 := by
  refine e_iload_n dX9_wordKind_13 rfl rfl ?_
  refine e_bipush dX9_wordKind_14 cb_13 ?_
  refine e_icmp_gt (tgt := 37) dX9_wordKind_16 (by decide) (fun c1 => ?_) (fun c1 => ?_)
  · replace h := h.1 c1
    refine e_sipush dX9_wordKind_37 cs_257 ?_
    exact e_iret dX9_wordKind_40 rfl ⟨_, rfl, h⟩
  · replace h := h.2 c1
    refine e_aload_n dX9_wordKind_19 rfl rfl ?_
    refine e_iload_n dX9_wordKind_20 rfl rfl ?_
    refine e_iload_n dX9_wordKind_21 rfl rfl ?_
    refine e_iload_n dX9_wordKind_22 rfl rfl ?_
    obtain ⟨Q2, hc3, h⟩ := h
    refine e_callV (M' := M_X9_isWord) (as := [.int x3, .int x1, .int x2]) (rest := []) dX9_wordKind_23 ml_X9_62 mk_X9_isWord (ob_4 hn) rfl rfl rfl (Nat.le_of_ble_eq_true rfl) (show 0 < d by omega) hc3 (Md_le (b := md_X9_wordKind) (by decide)) (fun v σ4 hq hf => ?_)
    obtain ⟨v5, rfl, hq⟩ := hq
    replace h := h v5 σ4 hq hf
    refine e_if_eq (tgt := 31) dX9_wordKind_26 (by decide) (fun c8 => ?_) (fun c8 => ?_)
    · replace h := h.1 c8
      refine e_iinc dX9_wordKind_31 rfl (ii_1 _) rfl (by decide) ?_
      refine e_goto (tgt := 13) dX9_wordKind_34 (by decide) ?_
      exact h
    · replace h := h.2 c8
      refine e_iload_n dX9_wordKind_29 rfl rfl ?_
      exact e_iret dX9_wordKind_30 rfl ⟨_, rfl, h⟩
theorem S_X9_wordKind {d n : Nat} {Q : Int32 → St → Prop} {σ : St} {a1 : Int32} {a2 : Int32} (hn : FIX ≤ n) (hd : 1 ≤ d) (h : (((a2 - a1) ≤ 5 → K_X9_wordKind_13 d n σ Q σ a1 a2 1) ∧ (¬ (a2 - a1) ≤ 5 → Q 257 σ))) : Cn d n M_X9_wordKind md_X9_wordKind [.ref 4, .int a1, .int a2] σ (liI Q) := by
  refine Cn.of (k0 := 1) (by decide) rfl ?_
  show Ev (d, n, md_X9_wordKind, σ, liI Q) M_X9_wordKind 0 [some (.ref 4), some (.int a1), some (.int a2), none] [] σ
  refine e_iload_n dX9_wordKind_0 rfl rfl ?_
  refine e_iload_n dX9_wordKind_1 rfl rfl ?_
  refine e_isub dX9_wordKind_2 ?_
  refine e_iconst dX9_wordKind_3 ci_5 ?_
  refine e_icmp_le (tgt := 11) dX9_wordKind_4 (by decide) (fun c1 => ?_) (fun c1 => ?_)
  · replace h := h.1 c1
    refine e_iconst dX9_wordKind_11 ci_1 ?_
    refine e_istore_n dX9_wordKind_12 rfl rfl (by decide) ?_
    exact h
  · replace h := h.2 c1
    refine e_sipush dX9_wordKind_7 cs_257 ?_
    exact e_iret dX9_wordKind_10 rfl ⟨_, rfl, h⟩
abbrev K_X9_numberOf_5 (d n : Nat) (σ0 : St) (Q : Int32 → St → Prop) (σ : St) (x1 : Int32) (x2 : Int32) (x3 : Int32) (x4 : Int32) : Prop := Ev (d, n, md_X9_numberOf, σ0, liI Q) M_X9_numberOf 5 [some (.ref 4), some (.int x1), some (.int x2), some (.int x3), some (.int x4)] [] σ
theorem B_X9_numberOf_5 {d n : Nat} {σ0 : St} {Q : Int32 → St → Prop}  {σ : St} {x1 : Int32} {x2 : Int32} {x3 : Int32} {x4 : Int32} (hn : FIX ≤ n) (h : ((x2 ≤ x4 → Q x3 σ) ∧ (¬ x2 ≤ x4 → (((x1 + 5) ≤ x4 → Q x3 σ) ∧ (¬ (x1 + 5) ≤ x4 → vp_in x4 400 ∧ K_X9_numberOf_5 d n σ0 Q σ x1 x2 (((x3 * 10) + (gI σ 19 x4.toNatClampNeg)) - 48) (x4 + 1)))))) : K_X9_numberOf_5 d n σ0 Q σ x1 x2 x3 x4 := by
  refine e_iload dX9_numberOf_5 rfl ?_
  refine e_iload_n dX9_numberOf_7 rfl rfl ?_
  refine e_icmp_ge (tgt := 41) dX9_numberOf_8 (by decide) (fun c1 => ?_) (fun c1 => ?_)
  · replace h := h.1 c1
    refine e_iload_n dX9_numberOf_41 rfl rfl ?_
    exact e_iret dX9_numberOf_42 rfl ⟨_, rfl, h⟩
  · replace h := h.2 c1
    refine e_iload dX9_numberOf_11 rfl ?_
    refine e_iload_n dX9_numberOf_13 rfl rfl ?_
    refine e_iconst dX9_numberOf_14 ci_5 ?_
    refine e_iadd dX9_numberOf_15 ?_
    refine e_icmp_ge (tgt := 41) dX9_numberOf_16 (by decide) (fun c2 => ?_) (fun c2 => ?_)
    · replace h := h.1 c2
      refine e_iload_n dX9_numberOf_41 rfl rfl ?_
      exact e_iret dX9_numberOf_42 rfl ⟨_, rfl, h⟩
    · replace h := h.2 c2
      refine e_iload_n dX9_numberOf_19 rfl rfl ?_
      refine e_bipush dX9_numberOf_20 cb_10 ?_
      refine e_imul dX9_numberOf_22 ?_
      refine e_aload_n dX9_numberOf_23 rfl rfl ?_
      refine e_getR (y := 19) dX9_numberOf_24 fl_X9_9 (ob_4 hn) rfl rfl ?_
      refine e_iload dX9_numberOf_27 rfl ?_
      refine e_iald dX9_numberOf_29 (ar_19 hn) h.1 ?_
      replace h := h.2
      refine e_iadd dX9_numberOf_30 ?_
      refine e_bipush dX9_numberOf_31 cb_48 ?_
      refine e_isub dX9_numberOf_33 ?_
      refine e_istore_n dX9_numberOf_34 rfl rfl (by decide) ?_
      refine e_iinc dX9_numberOf_35 rfl (ii_1 _) rfl (by decide) ?_
      refine e_goto (tgt := 5) dX9_numberOf_38 (by decide) ?_
      exact h
theorem S_X9_numberOf {d n : Nat} {Q : Int32 → St → Prop} {σ : St} {a1 : Int32} {a2 : Int32} (hn : FIX ≤ n) (h : K_X9_numberOf_5 d n σ Q σ a1 a2 0 a1) : Cn d n M_X9_numberOf md_X9_numberOf [.ref 4, .int a1, .int a2] σ (liI Q) := by
  refine Cn.of (k0 := 2) (by decide) rfl ?_
  show Ev (d, n, md_X9_numberOf, σ, liI Q) M_X9_numberOf 0 [some (.ref 4), some (.int a1), some (.int a2), none, none] [] σ
  refine e_iconst dX9_numberOf_0 ci_0 ?_
  refine e_istore_n dX9_numberOf_1 rfl rfl (by decide) ?_
  refine e_iload_n dX9_numberOf_2 rfl rfl ?_
  refine e_istore dX9_numberOf_3 rfl (by decide) ?_
  exact h
theorem S_X10_canTake {d n : Nat} {Q : Int32 → St → Prop} {σ : St} {a1 : Int32} {a2 : Int32} (hn : FIX ≤ n) (hd : 1 ≤ d) (h : vp_in a2 10 ∧ (((gI σ 35 a2.toNatClampNeg) ≤ 0 → (((0 : Int32) = 0 → Q 0 σ) ∧ (¬ (0 : Int32) = 0 → vp_in a1 8 ∧ ∃ pp3, gR σ a1.toNatClampNeg = some pp3 ∧ IsP n pp3 ∧ vp_in a1 8 ∧ vp_in ((gI σ 34 a1.toNatClampNeg) ||| ((1 : Int32) <<< (a2 &&& 31))) 1024 ∧ (((gI σ (pp3 + 3) ((gI σ 34 a1.toNatClampNeg) ||| ((1 : Int32) <<< (a2 &&& 31))).toNatClampNeg) = 0 → Q 0 σ) ∧ (¬ (gI σ (pp3 + 3) ((gI σ 34 a1.toNatClampNeg) ||| ((1 : Int32) <<< (a2 &&& 31))).toNatClampNeg) = 0 → Q 1 σ))))) ∧ (¬ (gI σ 35 a2.toNatClampNeg) ≤ 0 → vp_in a1 8 ∧ (((fn_X11_contains (gI σ 34 a1.toNatClampNeg) a2) ≠ 0 → (((0 : Int32) = 0 → Q 0 σ) ∧ (¬ (0 : Int32) = 0 → vp_in a1 8 ∧ ∃ pp7, gR σ a1.toNatClampNeg = some pp7 ∧ IsP n pp7 ∧ vp_in a1 8 ∧ vp_in ((gI σ 34 a1.toNatClampNeg) ||| ((1 : Int32) <<< (a2 &&& 31))) 1024 ∧ (((gI σ (pp7 + 3) ((gI σ 34 a1.toNatClampNeg) ||| ((1 : Int32) <<< (a2 &&& 31))).toNatClampNeg) = 0 → Q 0 σ) ∧ (¬ (gI σ (pp7 + 3) ((gI σ 34 a1.toNatClampNeg) ||| ((1 : Int32) <<< (a2 &&& 31))).toNatClampNeg) = 0 → Q 1 σ))))) ∧ ((fn_X11_contains (gI σ 34 a1.toNatClampNeg) a2) = 0 → (((1 : Int32) = 0 → Q 0 σ) ∧ (¬ (1 : Int32) = 0 → vp_in a1 8 ∧ ∃ pp10, gR σ a1.toNatClampNeg = some pp10 ∧ IsP n pp10 ∧ vp_in a1 8 ∧ vp_in ((gI σ 34 a1.toNatClampNeg) ||| ((1 : Int32) <<< (a2 &&& 31))) 1024 ∧ (((gI σ (pp10 + 3) ((gI σ 34 a1.toNatClampNeg) ||| ((1 : Int32) <<< (a2 &&& 31))).toNatClampNeg) = 0 → Q 0 σ) ∧ (¬ (gI σ (pp10 + 3) ((gI σ 34 a1.toNatClampNeg) ||| ((1 : Int32) <<< (a2 &&& 31))).toNatClampNeg) = 0 → Q 1 σ))))))))) : Cn d n M_X10_canTake md_X10_canTake [.ref 8, .int a1, .int a2] σ (liI Q) := by
  refine Cn.of (k0 := 1) (by decide) rfl ?_
  show Ev (d, n, md_X10_canTake, σ, liI Q) M_X10_canTake 0 [some (.ref 8), some (.int a1), some (.int a2), none] [] σ
  refine e_aload_n dX10_canTake_0 rfl rfl ?_
  refine e_getR (y := 35) dX10_canTake_1 fl_X10_15 (ob_8 hn) rfl rfl ?_
  refine e_iload_n dX10_canTake_4 rfl rfl ?_
  refine e_iald dX10_canTake_5 (ar_35 hn) h.1 ?_
  replace h := h.2
  refine e_if_le (tgt := 26) dX10_canTake_6 (by decide) (fun c1 => ?_) (fun c1 => ?_)
  · replace h := h.1 c1
    refine e_iconst dX10_canTake_26 ci_0 ?_
    refine e_istore_n dX10_canTake_27 rfl rfl (by decide) ?_
    refine e_iload_n dX10_canTake_28 rfl rfl ?_
    refine e_if_eq (tgt := 62) dX10_canTake_29 (by decide) (fun c2 => ?_) (fun c2 => ?_)
    · replace h := h.1 c2
      refine e_iconst dX10_canTake_62 ci_0 ?_
      exact e_zret dX10_canTake_63 rfl (nar_z (Or.inl rfl)) ⟨_, rfl, h⟩
    · replace h := h.2 c2
      refine e_aload_n dX10_canTake_32 rfl rfl ?_
      refine e_getR (y := 3) dX10_canTake_33 fl_X10_31 (ob_8 hn) rfl rfl ?_
      refine e_getR (y := 18) dX10_canTake_36 fl_X10_98 (ob_3 hn) rfl rfl ?_
      refine e_iload_n dX10_canTake_39 rfl rfl ?_
      obtain ⟨hi, pp3, hg, hp_pp3, h⟩ := h
      refine e_aldP dX10_canTake_40 hn hi hg ?_
      refine e_getR (y := pp3 + 3) dX10_canTake_41 fl_X10_149 (Ob.p hp_pp3) rfl (rf_p hp_pp3 (by decide)) ?_
      refine e_aload_n dX10_canTake_44 rfl rfl ?_
      refine e_getR (y := 34) dX10_canTake_45 fl_X10_9 (ob_8 hn) rfl rfl ?_
      refine e_iload_n dX10_canTake_48 rfl rfl ?_
      refine e_iald dX10_canTake_49 (ar_34 hn) h.1 ?_
      replace h := h.2
      refine e_iconst dX10_canTake_50 ci_1 ?_
      refine e_iload_n dX10_canTake_51 rfl rfl ?_
      refine e_ishl dX10_canTake_52 ?_
      refine e_ior dX10_canTake_53 ?_
      refine e_zald dX10_canTake_54 (Ar.p3 hp_pp3) h.1 ?_
      replace h := h.2
      refine e_if_eq (tgt := 62) dX10_canTake_55 (by decide) (fun c4 => ?_) (fun c4 => ?_)
      · replace h := h.1 c4
        refine e_iconst dX10_canTake_62 ci_0 ?_
        exact e_zret dX10_canTake_63 rfl (nar_z (Or.inl rfl)) ⟨_, rfl, h⟩
      · replace h := h.2 c4
        refine e_iconst dX10_canTake_58 ci_1 ?_
        refine e_goto (tgt := 63) dX10_canTake_59 (by decide) ?_
        exact e_zret dX10_canTake_63 rfl (nar_z (Or.inr rfl)) ⟨_, rfl, h⟩
  · replace h := h.2 c1
    refine e_aload_n dX10_canTake_9 rfl rfl ?_
    refine e_getR (y := 34) dX10_canTake_10 fl_X10_9 (ob_8 hn) rfl rfl ?_
    refine e_iload_n dX10_canTake_13 rfl rfl ?_
    refine e_iald dX10_canTake_14 (ar_34 hn) h.1 ?_
    replace h := h.2
    refine e_iload_n dX10_canTake_15 rfl rfl ?_
    refine e_callN (M' := M_X11_contains) (as := [.int (gI σ 34 a1.toNatClampNeg), .int a2]) (rest := []) dX10_canTake_16 nl_X10_81 mk_X11_contains rfl (Nat.le_of_ble_eq_true rfl) (show 0 < d by omega) (sp_X11_contains) Md_nil (fun v σv hq hf => ?_)
    obtain ⟨v, rfl, rfl, rfl⟩ := hq
    refine e_if_ne (tgt := 26) dX10_canTake_19 (by decide) (fun c5 => ?_) (fun c5 => ?_)
    · replace h := h.1 c5
      refine e_iconst dX10_canTake_26 ci_0 ?_
      refine e_istore_n dX10_canTake_27 rfl rfl (by decide) ?_
      refine e_iload_n dX10_canTake_28 rfl rfl ?_
      refine e_if_eq (tgt := 62) dX10_canTake_29 (by decide) (fun c6 => ?_) (fun c6 => ?_)
      · replace h := h.1 c6
        refine e_iconst dX10_canTake_62 ci_0 ?_
        exact e_zret dX10_canTake_63 rfl (nar_z (Or.inl rfl)) ⟨_, rfl, h⟩
      · replace h := h.2 c6
        refine e_aload_n dX10_canTake_32 rfl rfl ?_
        refine e_getR (y := 3) dX10_canTake_33 fl_X10_31 (ob_8 hn) rfl rfl ?_
        refine e_getR (y := 18) dX10_canTake_36 fl_X10_98 (ob_3 hn) rfl rfl ?_
        refine e_iload_n dX10_canTake_39 rfl rfl ?_
        obtain ⟨hi, pp7, hg, hp_pp7, h⟩ := h
        refine e_aldP dX10_canTake_40 hn hi hg ?_
        refine e_getR (y := pp7 + 3) dX10_canTake_41 fl_X10_149 (Ob.p hp_pp7) rfl (rf_p hp_pp7 (by decide)) ?_
        refine e_aload_n dX10_canTake_44 rfl rfl ?_
        refine e_getR (y := 34) dX10_canTake_45 fl_X10_9 (ob_8 hn) rfl rfl ?_
        refine e_iload_n dX10_canTake_48 rfl rfl ?_
        refine e_iald dX10_canTake_49 (ar_34 hn) h.1 ?_
        replace h := h.2
        refine e_iconst dX10_canTake_50 ci_1 ?_
        refine e_iload_n dX10_canTake_51 rfl rfl ?_
        refine e_ishl dX10_canTake_52 ?_
        refine e_ior dX10_canTake_53 ?_
        refine e_zald dX10_canTake_54 (Ar.p3 hp_pp7) h.1 ?_
        replace h := h.2
        refine e_if_eq (tgt := 62) dX10_canTake_55 (by decide) (fun c8 => ?_) (fun c8 => ?_)
        · replace h := h.1 c8
          refine e_iconst dX10_canTake_62 ci_0 ?_
          exact e_zret dX10_canTake_63 rfl (nar_z (Or.inl rfl)) ⟨_, rfl, h⟩
        · replace h := h.2 c8
          refine e_iconst dX10_canTake_58 ci_1 ?_
          refine e_goto (tgt := 63) dX10_canTake_59 (by decide) ?_
          exact e_zret dX10_canTake_63 rfl (nar_z (Or.inr rfl)) ⟨_, rfl, h⟩
    · replace h := h.2 c5
      refine e_iconst dX10_canTake_22 ci_1 ?_
      refine e_goto (tgt := 27) dX10_canTake_23 (by decide) ?_
      refine e_istore_n dX10_canTake_27 rfl rfl (by decide) ?_
      refine e_iload_n dX10_canTake_28 rfl rfl ?_
      refine e_if_eq (tgt := 62) dX10_canTake_29 (by decide) (fun c9 => ?_) (fun c9 => ?_)
      · replace h := h.1 c9
        refine e_iconst dX10_canTake_62 ci_0 ?_
        exact e_zret dX10_canTake_63 rfl (nar_z (Or.inl rfl)) ⟨_, rfl, h⟩
      · replace h := h.2 c9
        refine e_aload_n dX10_canTake_32 rfl rfl ?_
        refine e_getR (y := 3) dX10_canTake_33 fl_X10_31 (ob_8 hn) rfl rfl ?_
        refine e_getR (y := 18) dX10_canTake_36 fl_X10_98 (ob_3 hn) rfl rfl ?_
        refine e_iload_n dX10_canTake_39 rfl rfl ?_
        obtain ⟨hi, pp10, hg, hp_pp10, h⟩ := h
        refine e_aldP dX10_canTake_40 hn hi hg ?_
        refine e_getR (y := pp10 + 3) dX10_canTake_41 fl_X10_149 (Ob.p hp_pp10) rfl (rf_p hp_pp10 (by decide)) ?_
        refine e_aload_n dX10_canTake_44 rfl rfl ?_
        refine e_getR (y := 34) dX10_canTake_45 fl_X10_9 (ob_8 hn) rfl rfl ?_
        refine e_iload_n dX10_canTake_48 rfl rfl ?_
        refine e_iald dX10_canTake_49 (ar_34 hn) h.1 ?_
        replace h := h.2
        refine e_iconst dX10_canTake_50 ci_1 ?_
        refine e_iload_n dX10_canTake_51 rfl rfl ?_
        refine e_ishl dX10_canTake_52 ?_
        refine e_ior dX10_canTake_53 ?_
        refine e_zald dX10_canTake_54 (Ar.p3 hp_pp10) h.1 ?_
        replace h := h.2
        refine e_if_eq (tgt := 62) dX10_canTake_55 (by decide) (fun c11 => ?_) (fun c11 => ?_)
        · replace h := h.1 c11
          refine e_iconst dX10_canTake_62 ci_0 ?_
          exact e_zret dX10_canTake_63 rfl (nar_z (Or.inl rfl)) ⟨_, rfl, h⟩
        · replace h := h.2 c11
          refine e_iconst dX10_canTake_58 ci_1 ?_
          refine e_goto (tgt := 63) dX10_canTake_59 (by decide) ?_
          exact e_zret dX10_canTake_63 rfl (nar_z (Or.inr rfl)) ⟨_, rfl, h⟩
