theorem S_X12_statement {d n : Nat} {Q : Int32 → St → Prop} {σ : St} {a1 : Int32} (hn : FIX ≤ n) (hd : 1 ≤ d) (h : ∃ Q1 : Int32 → St → Prop, Cn (d - 1) n M_X12_takes md_X12_takes [.ref 11, .long 6382692] σ (liI Q1) ∧ ∀ (v4 : Int32) (σ3 : St), Q1 v4 σ3 → Fr md_X12_takes σ σ3 → ((v4 = 0 → ∃ Q8 : Int32 → St → Prop, Cn (d - 1) n M_X12_takes md_X12_takes [.ref 11, .long 474148660594] σ3 (liI Q8) ∧ ∀ (v11 : Int32) (σ10 : St), Q8 v11 σ10 → Fr md_X12_takes σ3 σ10 → ((v11 = 0 → vp_in a1 160 ∧ vp_in a1 160 ∧ (((gI (sI σ10 51 a1.toNatClampNeg (-1)) 51 a1.toNatClampNeg) ≠ (-1) → vp_in a1 160 ∧ vp_in a1 160 ∧ (((gI (sI (sI (sI σ10 51 a1.toNatClampNeg (-1)) 11 17 0) 52 a1.toNatClampNeg (gI (sI (sI σ10 51 a1.toNatClampNeg (-1)) 11 17 0) 11 18)) 51 a1.toNatClampNeg) ≠ 0 → vp_in a1 160 ∧ ∃ Q17 : Int32 → St → Prop, Cn (d - 1) n M_X12_takes md_X12_takes [.ref 11, .long 26982] (sI (sI (sI (sI σ10 51 a1.toNatClampNeg (-1)) 11 17 0) 52 a1.toNatClampNeg (gI (sI (sI σ10 51 a1.toNatClampNeg (-1)) 11 17 0) 11 18)) 53 a1.toNatClampNeg (gI (sI (sI (sI σ10 51 a1.toNatClampNeg (-1)) 11 17 0) 52 a1.toNatClampNeg (gI (sI (sI σ10 51 a1.toNatClampNeg (-1)) 11 17 0) 11 18)) 11 18)) (liI Q17) ∧ ∀ (v20 : Int32) (σ19 : St), Q17 v20 σ19 → Fr md_X12_takes (sI (sI (sI (sI σ10 51 a1.toNatClampNeg (-1)) 11 17 0) 52 a1.toNatClampNeg (gI (sI (sI σ10 51 a1.toNatClampNeg (-1)) 11 17 0) 11 18)) 53 a1.toNatClampNeg (gI (sI (sI (sI σ10 51 a1.toNatClampNeg (-1)) 11 17 0) 52 a1.toNatClampNeg (gI (sI (sI σ10 51 a1.toNatClampNeg (-1)) 11 17 0) 11 18)) 11 18)) σ19 → ((v20 = 0 → vp_in a1 160 ∧ ∃ Q24 : Int32 → St → Prop, Cn (d - 1) n M_X12_takesSign md_X12_takesSign [.ref 11, .int 59] (sI σ19 54 a1.toNatClampNeg (gI σ19 11 18)) (liI Q24) ∧ ∀ (v27 : Int32) (σ26 : St), Q24 v27 σ26 → Fr md_X12_takesSign (sI σ19 54 a1.toNatClampNeg (gI σ19 11 18)) σ26 → (v27 = 0 ∨ v27 = 1) ∧ Q v27 σ26) ∧ (¬ v20 = 0 → ∃ Q30 : Int32 → St → Prop, Cn (d - 1) n M_X12_any md_X12_any [.ref 11] σ19 (liI Q30) ∧ ∀ (v33 : Int32) (σ32 : St), Q30 v33 σ32 → Fr md_X12_any σ19 σ32 → ((v33 ≠ 0 → vp_in a1 160 ∧ ∃ Q37 : Int32 → St → Prop, Cn (d - 1) n M_X12_takesSign md_X12_takesSign [.ref 11, .int 59] (sI σ32 54 a1.toNatClampNeg (gI σ32 11 18)) (liI Q37) ∧ ∀ (v40 : Int32) (σ39 : St), Q37 v40 σ39 → Fr md_X12_takesSign (sI σ32 54 a1.toNatClampNeg (gI σ32 11 18)) σ39 → (v40 = 0 ∨ v40 = 1) ∧ Q v40 σ39) ∧ (v33 = 0 → Q 0 σ32))))) ∧ ((gI (sI (sI (sI σ10 51 a1.toNatClampNeg (-1)) 11 17 0) 52 a1.toNatClampNeg (gI (sI (sI σ10 51 a1.toNatClampNeg (-1)) 11 17 0) 11 18)) 51 a1.toNatClampNeg) = 0 → ∃ Q43 : Int32 → St → Prop, Cn (d - 1) n M_X12_ex md_X12_ex [.ref 11] (sI (sI (sI σ10 51 a1.toNatClampNeg (-1)) 11 17 0) 52 a1.toNatClampNeg (gI (sI (sI σ10 51 a1.toNatClampNeg (-1)) 11 17 0) 11 18)) (liI Q43) ∧ ∀ (v46 : Int32) (σ45 : St), Q43 v46 σ45 → Fr md_X12_ex (sI (sI (sI σ10 51 a1.toNatClampNeg (-1)) 11 17 0) 52 a1.toNatClampNeg (gI (sI (sI σ10 51 a1.toNatClampNeg (-1)) 11 17 0) 11 18)) σ45 → ((v46 ≠ 0 → vp_in a1 160 ∧ ∃ Q50 : Int32 → St → Prop, Cn (d - 1) n M_X12_takes md_X12_takes [.ref 11, .long 26982] (sI σ45 53 a1.toNatClampNeg (gI σ45 11 18)) (liI Q50) ∧ ∀ (v53 : Int32) (σ52 : St), Q50 v53 σ52 → Fr md_X12_takes (sI σ45 53 a1.toNatClampNeg (gI σ45 11 18)) σ52 → ((v53 = 0 → vp_in a1 160 ∧ ∃ Q57 : Int32 → St → Prop, Cn (d - 1) n M_X12_takesSign md_X12_takesSign [.ref 11, .int 59] (sI σ52 54 a1.toNatClampNeg (gI σ52 11 18)) (liI Q57) ∧ ∀ (v60 : Int32) (σ59 : St), Q57 v60 σ59 → Fr md_X12_takesSign (sI σ52 54 a1.toNatClampNeg (gI σ52 11 18)) σ59 → (v60 = 0 ∨ v60 = 1) ∧ Q v60 σ59) ∧ (¬ v53 = 0 → ∃ Q63 : Int32 → St → Prop, Cn (d - 1) n M_X12_any md_X12_any [.ref 11] σ52 (liI Q63) ∧ ∀ (v66 : Int32) (σ65 : St), Q63 v66 σ65 → Fr md_X12_any σ52 σ65 → ((v66 ≠ 0 → vp_in a1 160 ∧ ∃ Q70 : Int32 → St → Prop, Cn (d - 1) n M_X12_takesSign md_X12_takesSign [.ref 11, .int 59] (sI σ65 54 a1.toNatClampNeg (gI σ65 11 18)) (liI Q70) ∧ ∀ (v73 : Int32) (σ72 : St), Q70 v73 σ72 → Fr md_X12_takesSign (sI σ65 54 a1.toNatClampNeg (gI σ65 11 18)) σ72 → (v73 = 0 ∨ v73 = 1) ∧ Q v73 σ72) ∧ (v66 = 0 → Q 0 σ65))))) ∧ (v46 = 0 → Q 0 σ45))))) ∧ ((gI (sI σ10 51 a1.toNatClampNeg (-1)) 51 a1.toNatClampNeg) = (-1) → Q 0 (sI σ10 51 a1.toNatClampNeg (-1))))) ∧ (¬ v11 = 0 → vp_in a1 160 ∧ vp_in a1 160 ∧ (((gI (sI σ10 51 a1.toNatClampNeg 1) 51 a1.toNatClampNeg) ≠ (-1) → vp_in a1 160 ∧ vp_in a1 160 ∧ (((gI (sI (sI (sI σ10 51 a1.toNatClampNeg 1) 11 17 0) 52 a1.toNatClampNeg (gI (sI (sI σ10 51 a1.toNatClampNeg 1) 11 17 0) 11 18)) 51 a1.toNatClampNeg) ≠ 0 → vp_in a1 160 ∧ ∃ Q78 : Int32 → St → Prop, Cn (d - 1) n M_X12_takes md_X12_takes [.ref 11, .long 26982] (sI (sI (sI (sI σ10 51 a1.toNatClampNeg 1) 11 17 0) 52 a1.toNatClampNeg (gI (sI (sI σ10 51 a1.toNatClampNeg 1) 11 17 0) 11 18)) 53 a1.toNatClampNeg (gI (sI (sI (sI σ10 51 a1.toNatClampNeg 1) 11 17 0) 52 a1.toNatClampNeg (gI (sI (sI σ10 51 a1.toNatClampNeg 1) 11 17 0) 11 18)) 11 18)) (liI Q78) ∧ ∀ (v81 : Int32) (σ80 : St), Q78 v81 σ80 → Fr md_X12_takes (sI (sI (sI (sI σ10 51 a1.toNatClampNeg 1) 11 17 0) 52 a1.toNatClampNeg (gI (sI (sI σ10 51 a1.toNatClampNeg 1) 11 17 0) 11 18)) 53 a1.toNatClampNeg (gI (sI (sI (sI σ10 51 a1.toNatClampNeg 1) 11 17 0) 52 a1.toNatClampNeg (gI (sI (sI σ10 51 a1.toNatClampNeg 1) 11 17 0) 11 18)) 11 18)) σ80 → ((v81 = 0 → vp_in a1 160 ∧ ∃ Q85 : Int32 → St → Prop, Cn (d - 1) n M_X12_takesSign md_X12_takesSign [.ref 11, .int 59] (sI σ80 54 a1.toNatClampNeg (gI σ80 11 18)) (liI Q85) ∧ ∀ (v88 : Int32) (σ87 : St), Q85 v88 σ87 → Fr md_X12_takesSign (sI σ80 54 a1.toNatClampNeg (gI σ80 11 18)) σ87 → (v88 = 0 ∨ v88 = 1) ∧ Q v88 σ87) ∧ (¬ v81 = 0 → ∃ Q91 : Int32 → St → Prop, Cn (d - 1) n M_X12_any md_X12_any [.ref 11] σ80 (liI Q91) ∧ ∀ (v94 : Int32) (σ93 : St), Q91 v94 σ93 → Fr md_X12_any σ80 σ93 → ((v94 ≠ 0 → vp_in a1 160 ∧ ∃ Q98 : Int32 → St → Prop, Cn (d - 1) n M_X12_takesSign md_X12_takesSign [.ref 11, .int 59] (sI σ93 54 a1.toNatClampNeg (gI σ93 11 18)) (liI Q98) ∧ ∀ (v101 : Int32) (σ100 : St), Q98 v101 σ100 → Fr md_X12_takesSign (sI σ93 54 a1.toNatClampNeg (gI σ93 11 18)) σ100 → (v101 = 0 ∨ v101 = 1) ∧ Q v101 σ100) ∧ (v94 = 0 → Q 0 σ93))))) ∧ ((gI (sI (sI (sI σ10 51 a1.toNatClampNeg 1) 11 17 0) 52 a1.toNatClampNeg (gI (sI (sI σ10 51 a1.toNatClampNeg 1) 11 17 0) 11 18)) 51 a1.toNatClampNeg) = 0 → ∃ Q104 : Int32 → St → Prop, Cn (d - 1) n M_X12_ex md_X12_ex [.ref 11] (sI (sI (sI σ10 51 a1.toNatClampNeg 1) 11 17 0) 52 a1.toNatClampNeg (gI (sI (sI σ10 51 a1.toNatClampNeg 1) 11 17 0) 11 18)) (liI Q104) ∧ ∀ (v107 : Int32) (σ106 : St), Q104 v107 σ106 → Fr md_X12_ex (sI (sI (sI σ10 51 a1.toNatClampNeg 1) 11 17 0) 52 a1.toNatClampNeg (gI (sI (sI σ10 51 a1.toNatClampNeg 1) 11 17 0) 11 18)) σ106 → ((v107 ≠ 0 → vp_in a1 160 ∧ ∃ Q111 : Int32 → St → Prop, Cn (d - 1) n M_X12_takes md_X12_takes [.ref 11, .long 26982] (sI σ106 53 a1.toNatClampNeg (gI σ106 11 18)) (liI Q111) ∧ ∀ (v114 : Int32) (σ113 : St), Q111 v114 σ113 → Fr md_X12_takes (sI σ106 53 a1.toNatClampNeg (gI σ106 11 18)) σ113 → ((v114 = 0 → vp_in a1 160 ∧ ∃ Q118 : Int32 → St → Prop, Cn (d - 1) n M_X12_takesSign md_X12_takesSign [.ref 11, .int 59] (sI σ113 54 a1.toNatClampNeg (gI σ113 11 18)) (liI Q118) ∧ ∀ (v121 : Int32) (σ120 : St), Q118 v121 σ120 → Fr md_X12_takesSign (sI σ113 54 a1.toNatClampNeg (gI σ113 11 18)) σ120 → (v121 = 0 ∨ v121 = 1) ∧ Q v121 σ120) ∧ (¬ v114 = 0 → ∃ Q124 : Int32 → St → Prop, Cn (d - 1) n M_X12_any md_X12_any [.ref 11] σ113 (liI Q124) ∧ ∀ (v127 : Int32) (σ126 : St), Q124 v127 σ126 → Fr md_X12_any σ113 σ126 → ((v127 ≠ 0 → vp_in a1 160 ∧ ∃ Q131 : Int32 → St → Prop, Cn (d - 1) n M_X12_takesSign md_X12_takesSign [.ref 11, .int 59] (sI σ126 54 a1.toNatClampNeg (gI σ126 11 18)) (liI Q131) ∧ ∀ (v134 : Int32) (σ133 : St), Q131 v134 σ133 → Fr md_X12_takesSign (sI σ126 54 a1.toNatClampNeg (gI σ126 11 18)) σ133 → (v134 = 0 ∨ v134 = 1) ∧ Q v134 σ133) ∧ (v127 = 0 → Q 0 σ126))))) ∧ (v107 = 0 → Q 0 σ106))))) ∧ ((gI (sI σ10 51 a1.toNatClampNeg 1) 51 a1.toNatClampNeg) = (-1) → Q 0 (sI σ10 51 a1.toNatClampNeg 1)))))) ∧ (¬ v4 = 0 → vp_in a1 160 ∧ vp_in a1 160 ∧ (((gI (sI σ3 51 a1.toNatClampNeg 0) 51 a1.toNatClampNeg) ≠ (-1) → vp_in a1 160 ∧ vp_in a1 160 ∧ (((gI (sI (sI (sI σ3 51 a1.toNatClampNeg 0) 11 17 0) 52 a1.toNatClampNeg (gI (sI (sI σ3 51 a1.toNatClampNeg 0) 11 17 0) 11 18)) 51 a1.toNatClampNeg) ≠ 0 → vp_in a1 160 ∧ ∃ Q139 : Int32 → St → Prop, Cn (d - 1) n M_X12_takes md_X12_takes [.ref 11, .long 26982] (sI (sI (sI (sI σ3 51 a1.toNatClampNeg 0) 11 17 0) 52 a1.toNatClampNeg (gI (sI (sI σ3 51 a1.toNatClampNeg 0) 11 17 0) 11 18)) 53 a1.toNatClampNeg (gI (sI (sI (sI σ3 51 a1.toNatClampNeg 0) 11 17 0) 52 a1.toNatClampNeg (gI (sI (sI σ3 51 a1.toNatClampNeg 0) 11 17 0) 11 18)) 11 18)) (liI Q139) ∧ ∀ (v142 : Int32) (σ141 : St), Q139 v142 σ141 → Fr md_X12_takes (sI (sI (sI (sI σ3 51 a1.toNatClampNeg 0) 11 17 0) 52 a1.toNatClampNeg (gI (sI (sI σ3 51 a1.toNatClampNeg 0) 11 17 0) 11 18)) 53 a1.toNatClampNeg (gI (sI (sI (sI σ3 51 a1.toNatClampNeg 0) 11 17 0) 52 a1.toNatClampNeg (gI (sI (sI σ3 51 a1.toNatClampNeg 0) 11 17 0) 11 18)) 11 18)) σ141 → ((v142 = 0 → vp_in a1 160 ∧ ∃ Q146 : Int32 → St → Prop, Cn (d - 1) n M_X12_takesSign md_X12_takesSign [.ref 11, .int 59] (sI σ141 54 a1.toNatClampNeg (gI σ141 11 18)) (liI Q146) ∧ ∀ (v149 : Int32) (σ148 : St), Q146 v149 σ148 → Fr md_X12_takesSign (sI σ141 54 a1.toNatClampNeg (gI σ141 11 18)) σ148 → (v149 = 0 ∨ v149 = 1) ∧ Q v149 σ148) ∧ (¬ v142 = 0 → ∃ Q152 : Int32 → St → Prop, Cn (d - 1) n M_X12_any md_X12_any [.ref 11] σ141 (liI Q152) ∧ ∀ (v155 : Int32) (σ154 : St), Q152 v155 σ154 → Fr md_X12_any σ141 σ154 → ((v155 ≠ 0 → vp_in a1 160 ∧ ∃ Q159 : Int32 → St → Prop, Cn (d - 1) n M_X12_takesSign md_X12_takesSign [.ref 11, .int 59] (sI σ154 54 a1.toNatClampNeg (gI σ154 11 18)) (liI Q159) ∧ ∀ (v162 : Int32) (σ161 : St), Q159 v162 σ161 → Fr md_X12_takesSign (sI σ154 54 a1.toNatClampNeg (gI σ154 11 18)) σ161 → (v162 = 0 ∨ v162 = 1) ∧ Q v162 σ161) ∧ (v155 = 0 → Q 0 σ154))))) ∧ ((gI (sI (sI (sI σ3 51 a1.toNatClampNeg 0) 11 17 0) 52 a1.toNatClampNeg (gI (sI (sI σ3 51 a1.toNatClampNeg 0) 11 17 0) 11 18)) 51 a1.toNatClampNeg) = 0 → ∃ Q165 : Int32 → St → Prop, Cn (d - 1) n M_X12_ex md_X12_ex [.ref 11] (sI (sI (sI σ3 51 a1.toNatClampNeg 0) 11 17 0) 52 a1.toNatClampNeg (gI (sI (sI σ3 51 a1.toNatClampNeg 0) 11 17 0) 11 18)) (liI Q165) ∧ ∀ (v168 : Int32) (σ167 : St), Q165 v168 σ167 → Fr md_X12_ex (sI (sI (sI σ3 51 a1.toNatClampNeg 0) 11 17 0) 52 a1.toNatClampNeg (gI (sI (sI σ3 51 a1.toNatClampNeg 0) 11 17 0) 11 18)) σ167 → ((v168 ≠ 0 → vp_in a1 160 ∧ ∃ Q172 : Int32 → St → Prop, Cn (d - 1) n M_X12_takes md_X12_takes [.ref 11, .long 26982] (sI σ167 53 a1.toNatClampNeg (gI σ167 11 18)) (liI Q172) ∧ ∀ (v175 : Int32) (σ174 : St), Q172 v175 σ174 → Fr md_X12_takes (sI σ167 53 a1.toNatClampNeg (gI σ167 11 18)) σ174 → ((v175 = 0 → vp_in a1 160 ∧ ∃ Q179 : Int32 → St → Prop, Cn (d - 1) n M_X12_takesSign md_X12_takesSign [.ref 11, .int 59] (sI σ174 54 a1.toNatClampNeg (gI σ174 11 18)) (liI Q179) ∧ ∀ (v182 : Int32) (σ181 : St), Q179 v182 σ181 → Fr md_X12_takesSign (sI σ174 54 a1.toNatClampNeg (gI σ174 11 18)) σ181 → (v182 = 0 ∨ v182 = 1) ∧ Q v182 σ181) ∧ (¬ v175 = 0 → ∃ Q185 : Int32 → St → Prop, Cn (d - 1) n M_X12_any md_X12_any [.ref 11] σ174 (liI Q185) ∧ ∀ (v188 : Int32) (σ187 : St), Q185 v188 σ187 → Fr md_X12_any σ174 σ187 → ((v188 ≠ 0 → vp_in a1 160 ∧ ∃ Q192 : Int32 → St → Prop, Cn (d - 1) n M_X12_takesSign md_X12_takesSign [.ref 11, .int 59] (sI σ187 54 a1.toNatClampNeg (gI σ187 11 18)) (liI Q192) ∧ ∀ (v195 : Int32) (σ194 : St), Q192 v195 σ194 → Fr md_X12_takesSign (sI σ187 54 a1.toNatClampNeg (gI σ187 11 18)) σ194 → (v195 = 0 ∨ v195 = 1) ∧ Q v195 σ194) ∧ (v188 = 0 → Q 0 σ187))))) ∧ (v168 = 0 → Q 0 σ167))))) ∧ ((gI (sI σ3 51 a1.toNatClampNeg 0) 51 a1.toNatClampNeg) = (-1) → Q 0 (sI σ3 51 a1.toNatClampNeg 0)))))) : Cn d n M_X12_statement md_X12_statement [.ref 11, .int a1] σ (liI Q) := by
  refine Cn.of (k0 := 0) (by decide) rfl ?_
  show Ev (d, n, md_X12_statement, σ, liI Q) M_X12_statement 0 [some (.ref 11), some (.int a1)] [] σ
  refine e_aload_n dX12_statement_0 rfl rfl ?_
  refine e_getR (y := 51) dX12_statement_1 fl_X12_53 (ob_11 hn) rfl rfl ?_
  refine e_iload_n dX12_statement_4 rfl rfl ?_
  refine e_aload_n dX12_statement_5 rfl rfl ?_
  refine e_ldc2 dX12_statement_6 ck_X12_247 ?_
  obtain ⟨Q1, hc2, h⟩ := h
  refine e_callV (M' := M_X12_takes) (as := [.long 6382692]) (rest := [.int a1, .ref 51]) dX12_statement_9 ml_X12_218 mk_X12_takes (ob_11 hn) rfl rfl rfl (Nat.le_of_ble_eq_true rfl) (show 0 < d by omega) hc2 (Md_le (b := md_X12_statement) (by decide)) (fun v σ3 hq hf => ?_)
  obtain ⟨v4, rfl, hq⟩ := hq
  replace h := h v4 σ3 hq hf
  refine e_if_eq (tgt := 19) dX12_statement_12 (by decide) (fun c7 => ?_) (fun c7 => ?_)
  · replace h := h.1 c7
    refine e_aload_n dX12_statement_19 rfl rfl ?_
    refine e_ldc2 dX12_statement_20 ck_X12_249 ?_
    obtain ⟨Q8, hc9, h⟩ := h
    refine e_callV (M' := M_X12_takes) (as := [.long 474148660594]) (rest := [.int a1, .ref 51]) dX12_statement_23 ml_X12_218 mk_X12_takes (ob_11 hn) rfl rfl rfl (Nat.le_of_ble_eq_true rfl) (show 0 < d by omega) hc9 (Md_le (b := md_X12_statement) (by decide)) (fun v σ10 hq hf => ?_)
    obtain ⟨v11, rfl, hq⟩ := hq
    replace h := h v11 σ10 hq hf
    refine e_if_eq (tgt := 33) dX12_statement_26 (by decide) (fun c14 => ?_) (fun c14 => ?_)
    · replace h := h.1 c14
      refine e_iconst dX12_statement_33 ci_m1 ?_
      refine e_iast dX12_statement_34 (ar_51 hn) h.1 (md_r (m := md_X12_statement) (by decide)) ?_
      replace h := h.2
      refine e_aload_n dX12_statement_35 rfl rfl ?_
      refine e_getR (y := 51) dX12_statement_36 fl_X12_53 (ob_11 hn) rfl rfl ?_
      refine e_iload_n dX12_statement_39 rfl rfl ?_
      refine e_iald dX12_statement_40 (ar_51 hn) h.1 ?_
      replace h := h.2
      refine e_iconst dX12_statement_41 ci_m1 ?_
      refine e_icmp_ne (tgt := 47) dX12_statement_42 (by decide) (fun c15 => ?_) (fun c15 => ?_)
      · replace h := h.1 c15
        refine e_aload_n dX12_statement_47 rfl rfl ?_
        refine e_iconst dX12_statement_48 ci_0 ?_
        refine e_putI dX12_statement_49 fl_X12_195 (ob_11 hn) rfl (fpI_12_17 _) (md_c (m := md_X12_statement) (by decide)) ?_
        refine e_aload_n dX12_statement_52 rfl rfl ?_
        refine e_getR (y := 52) dX12_statement_53 fl_X12_56 (ob_11 hn) rfl rfl ?_
        refine e_iload_n dX12_statement_56 rfl rfl ?_
        refine e_aload_n dX12_statement_57 rfl rfl ?_
        refine e_getI dX12_statement_58 fl_X12_192 (ob_11 hn) rfl ?_
        refine e_iast dX12_statement_61 (ar_52 hn) h.1 (md_r (m := md_X12_statement) (by decide)) ?_
        replace h := h.2
        refine e_aload_n dX12_statement_62 rfl rfl ?_
        refine e_getR (y := 51) dX12_statement_63 fl_X12_53 (ob_11 hn) rfl rfl ?_
        refine e_iload_n dX12_statement_66 rfl rfl ?_
        refine e_iald dX12_statement_67 (ar_51 hn) h.1 ?_
        replace h := h.2
        refine e_if_ne (tgt := 80) dX12_statement_68 (by decide) (fun c16 => ?_) (fun c16 => ?_)
        · replace h := h.1 c16
          refine e_aload_n dX12_statement_80 rfl rfl ?_
          refine e_getR (y := 53) dX12_statement_81 fl_X12_59 (ob_11 hn) rfl rfl ?_
          refine e_iload_n dX12_statement_84 rfl rfl ?_
          refine e_aload_n dX12_statement_85 rfl rfl ?_
          refine e_getI dX12_statement_86 fl_X12_192 (ob_11 hn) rfl ?_
          refine e_iast dX12_statement_89 (ar_53 hn) h.1 (md_r (m := md_X12_statement) (by decide)) ?_
          replace h := h.2
          refine e_aload_n dX12_statement_90 rfl rfl ?_
          refine e_ldc2 dX12_statement_91 ck_X12_251 ?_
          obtain ⟨Q17, hc18, h⟩ := h
          refine e_callV (M' := M_X12_takes) (as := [.long 26982]) (rest := []) dX12_statement_94 ml_X12_218 mk_X12_takes (ob_11 hn) rfl rfl rfl (Nat.le_of_ble_eq_true rfl) (show 0 < d by omega) hc18 (Md_le (b := md_X12_statement) (by decide)) (fun v σ19 hq hf => ?_)
          obtain ⟨v20, rfl, hq⟩ := hq
          replace h := h v20 σ19 hq hf
          refine e_if_eq (tgt := 109) dX12_statement_97 (by decide) (fun c23 => ?_) (fun c23 => ?_)
          · replace h := h.1 c23
            refine e_aload_n dX12_statement_109 rfl rfl ?_
            refine e_getR (y := 54) dX12_statement_110 fl_X12_62 (ob_11 hn) rfl rfl ?_
            refine e_iload_n dX12_statement_113 rfl rfl ?_
            refine e_aload_n dX12_statement_114 rfl rfl ?_
            refine e_getI dX12_statement_115 fl_X12_192 (ob_11 hn) rfl ?_
            refine e_iast dX12_statement_118 (ar_54 hn) h.1 (md_r (m := md_X12_statement) (by decide)) ?_
            replace h := h.2
            refine e_aload_n dX12_statement_119 rfl rfl ?_
            refine e_bipush dX12_statement_120 cb_59 ?_
            obtain ⟨Q24, hc25, h⟩ := h
            refine e_callV (M' := M_X12_takesSign) (as := [.int 59]) (rest := []) dX12_statement_122 ml_X12_213 mk_X12_takesSign (ob_11 hn) rfl rfl rfl (Nat.le_of_ble_eq_true rfl) (show 0 < d by omega) hc25 (Md_le (b := md_X12_statement) (by decide)) (fun v σ26 hq hf => ?_)
            obtain ⟨v27, rfl, hq⟩ := hq
            replace h := h v27 σ26 hq hf
            exact e_zret dX12_statement_125 rfl (nar_z h.1) ⟨_, rfl, h.2⟩
          · replace h := h.2 c23
            refine e_aload_n dX12_statement_100 rfl rfl ?_
            obtain ⟨Q30, hc31, h⟩ := h
            refine e_callV (M' := M_X12_any) (as := []) (rest := []) dX12_statement_101 ml_X12_237 mk_X12_any (ob_11 hn) rfl rfl rfl (Nat.le_of_ble_eq_true rfl) (show 0 < d by omega) hc31 (Md_le (b := md_X12_statement) (by decide)) (fun v σ32 hq hf => ?_)
            obtain ⟨v33, rfl, hq⟩ := hq
            replace h := h v33 σ32 hq hf
            refine e_if_ne (tgt := 109) dX12_statement_104 (by decide) (fun c36 => ?_) (fun c36 => ?_)
            · replace h := h.1 c36
              refine e_aload_n dX12_statement_109 rfl rfl ?_
              refine e_getR (y := 54) dX12_statement_110 fl_X12_62 (ob_11 hn) rfl rfl ?_
              refine e_iload_n dX12_statement_113 rfl rfl ?_
              refine e_aload_n dX12_statement_114 rfl rfl ?_
              refine e_getI dX12_statement_115 fl_X12_192 (ob_11 hn) rfl ?_
              refine e_iast dX12_statement_118 (ar_54 hn) h.1 (md_r (m := md_X12_statement) (by decide)) ?_
              replace h := h.2
              refine e_aload_n dX12_statement_119 rfl rfl ?_
              refine e_bipush dX12_statement_120 cb_59 ?_
              obtain ⟨Q37, hc38, h⟩ := h
              refine e_callV (M' := M_X12_takesSign) (as := [.int 59]) (rest := []) dX12_statement_122 ml_X12_213 mk_X12_takesSign (ob_11 hn) rfl rfl rfl (Nat.le_of_ble_eq_true rfl) (show 0 < d by omega) hc38 (Md_le (b := md_X12_statement) (by decide)) (fun v σ39 hq hf => ?_)
              obtain ⟨v40, rfl, hq⟩ := hq
              replace h := h v40 σ39 hq hf
              exact e_zret dX12_statement_125 rfl (nar_z h.1) ⟨_, rfl, h.2⟩
            · replace h := h.2 c36
              refine e_iconst dX12_statement_107 ci_0 ?_
              exact e_zret dX12_statement_108 rfl (nar_z (Or.inl rfl)) ⟨_, rfl, h⟩
        · replace h := h.2 c16
          refine e_aload_n dX12_statement_71 rfl rfl ?_
          obtain ⟨Q43, hc44, h⟩ := h
          refine e_callV (M' := M_X12_ex) (as := []) (rest := []) dX12_statement_72 ml_X12_210 mk_X12_ex (ob_11 hn) rfl rfl rfl (Nat.le_of_ble_eq_true rfl) (show 0 < d by omega) hc44 (Md_le (b := md_X12_statement) (by decide)) (fun v σ45 hq hf => ?_)
          obtain ⟨v46, rfl, hq⟩ := hq
          replace h := h v46 σ45 hq hf
          refine e_if_ne (tgt := 80) dX12_statement_75 (by decide) (fun c49 => ?_) (fun c49 => ?_)
          · replace h := h.1 c49
            refine e_aload_n dX12_statement_80 rfl rfl ?_
            refine e_getR (y := 53) dX12_statement_81 fl_X12_59 (ob_11 hn) rfl rfl ?_
            refine e_iload_n dX12_statement_84 rfl rfl ?_
            refine e_aload_n dX12_statement_85 rfl rfl ?_
            refine e_getI dX12_statement_86 fl_X12_192 (ob_11 hn) rfl ?_
            refine e_iast dX12_statement_89 (ar_53 hn) h.1 (md_r (m := md_X12_statement) (by decide)) ?_
            replace h := h.2
            refine e_aload_n dX12_statement_90 rfl rfl ?_
            refine e_ldc2 dX12_statement_91 ck_X12_251 ?_
            obtain ⟨Q50, hc51, h⟩ := h
            refine e_callV (M' := M_X12_takes) (as := [.long 26982]) (rest := []) dX12_statement_94 ml_X12_218 mk_X12_takes (ob_11 hn) rfl rfl rfl (Nat.le_of_ble_eq_true rfl) (show 0 < d by omega) hc51 (Md_le (b := md_X12_statement) (by decide)) (fun v σ52 hq hf => ?_)
            obtain ⟨v53, rfl, hq⟩ := hq
            replace h := h v53 σ52 hq hf
            refine e_if_eq (tgt := 109) dX12_statement_97 (by decide) (fun c56 => ?_) (fun c56 => ?_)
            · replace h := h.1 c56
              refine e_aload_n dX12_statement_109 rfl rfl ?_
              refine e_getR (y := 54) dX12_statement_110 fl_X12_62 (ob_11 hn) rfl rfl ?_
              refine e_iload_n dX12_statement_113 rfl rfl ?_
              refine e_aload_n dX12_statement_114 rfl rfl ?_
              refine e_getI dX12_statement_115 fl_X12_192 (ob_11 hn) rfl ?_
              refine e_iast dX12_statement_118 (ar_54 hn) h.1 (md_r (m := md_X12_statement) (by decide)) ?_
              replace h := h.2
              refine e_aload_n dX12_statement_119 rfl rfl ?_
              refine e_bipush dX12_statement_120 cb_59 ?_
              obtain ⟨Q57, hc58, h⟩ := h
              refine e_callV (M' := M_X12_takesSign) (as := [.int 59]) (rest := []) dX12_statement_122 ml_X12_213 mk_X12_takesSign (ob_11 hn) rfl rfl rfl (Nat.le_of_ble_eq_true rfl) (show 0 < d by omega) hc58 (Md_le (b := md_X12_statement) (by decide)) (fun v σ59 hq hf => ?_)
              obtain ⟨v60, rfl, hq⟩ := hq
              replace h := h v60 σ59 hq hf
              exact e_zret dX12_statement_125 rfl (nar_z h.1) ⟨_, rfl, h.2⟩
            · replace h := h.2 c56
              refine e_aload_n dX12_statement_100 rfl rfl ?_
              obtain ⟨Q63, hc64, h⟩ := h
              refine e_callV (M' := M_X12_any) (as := []) (rest := []) dX12_statement_101 ml_X12_237 mk_X12_any (ob_11 hn) rfl rfl rfl (Nat.le_of_ble_eq_true rfl) (show 0 < d by omega) hc64 (Md_le (b := md_X12_statement) (by decide)) (fun v σ65 hq hf => ?_)
              obtain ⟨v66, rfl, hq⟩ := hq
              replace h := h v66 σ65 hq hf
              refine e_if_ne (tgt := 109) dX12_statement_104 (by decide) (fun c69 => ?_) (fun c69 => ?_)
              · replace h := h.1 c69
                refine e_aload_n dX12_statement_109 rfl rfl ?_
                refine e_getR (y := 54) dX12_statement_110 fl_X12_62 (ob_11 hn) rfl rfl ?_
                refine e_iload_n dX12_statement_113 rfl rfl ?_
                refine e_aload_n dX12_statement_114 rfl rfl ?_
                refine e_getI dX12_statement_115 fl_X12_192 (ob_11 hn) rfl ?_
                refine e_iast dX12_statement_118 (ar_54 hn) h.1 (md_r (m := md_X12_statement) (by decide)) ?_
                replace h := h.2
                refine e_aload_n dX12_statement_119 rfl rfl ?_
                refine e_bipush dX12_statement_120 cb_59 ?_
                obtain ⟨Q70, hc71, h⟩ := h
                refine e_callV (M' := M_X12_takesSign) (as := [.int 59]) (rest := []) dX12_statement_122 ml_X12_213 mk_X12_takesSign (ob_11 hn) rfl rfl rfl (Nat.le_of_ble_eq_true rfl) (show 0 < d by omega) hc71 (Md_le (b := md_X12_statement) (by decide)) (fun v σ72 hq hf => ?_)
                obtain ⟨v73, rfl, hq⟩ := hq
                replace h := h v73 σ72 hq hf
                exact e_zret dX12_statement_125 rfl (nar_z h.1) ⟨_, rfl, h.2⟩
              · replace h := h.2 c69
                refine e_iconst dX12_statement_107 ci_0 ?_
                exact e_zret dX12_statement_108 rfl (nar_z (Or.inl rfl)) ⟨_, rfl, h⟩
          · replace h := h.2 c49
            refine e_iconst dX12_statement_78 ci_0 ?_
            exact e_zret dX12_statement_79 rfl (nar_z (Or.inl rfl)) ⟨_, rfl, h⟩
      · replace h := h.2 c15
        refine e_iconst dX12_statement_45 ci_0 ?_
        exact e_zret dX12_statement_46 rfl (nar_z (Or.inl rfl)) ⟨_, rfl, h⟩
    · replace h := h.2 c14
      refine e_iconst dX12_statement_29 ci_1 ?_
      refine e_goto (tgt := 34) dX12_statement_30 (by decide) ?_
      refine e_iast dX12_statement_34 (ar_51 hn) h.1 (md_r (m := md_X12_statement) (by decide)) ?_
      replace h := h.2
      refine e_aload_n dX12_statement_35 rfl rfl ?_
      refine e_getR (y := 51) dX12_statement_36 fl_X12_53 (ob_11 hn) rfl rfl ?_
      refine e_iload_n dX12_statement_39 rfl rfl ?_
      refine e_iald dX12_statement_40 (ar_51 hn) h.1 ?_
      replace h := h.2
      refine e_iconst dX12_statement_41 ci_m1 ?_
      refine e_icmp_ne (tgt := 47) dX12_statement_42 (by decide) (fun c76 => ?_) (fun c76 => ?_)
      · replace h := h.1 c76
        refine e_aload_n dX12_statement_47 rfl rfl ?_
        refine e_iconst dX12_statement_48 ci_0 ?_
        refine e_putI dX12_statement_49 fl_X12_195 (ob_11 hn) rfl (fpI_12_17 _) (md_c (m := md_X12_statement) (by decide)) ?_
        refine e_aload_n dX12_statement_52 rfl rfl ?_
        refine e_getR (y := 52) dX12_statement_53 fl_X12_56 (ob_11 hn) rfl rfl ?_
        refine e_iload_n dX12_statement_56 rfl rfl ?_
        refine e_aload_n dX12_statement_57 rfl rfl ?_
        refine e_getI dX12_statement_58 fl_X12_192 (ob_11 hn) rfl ?_
        refine e_iast dX12_statement_61 (ar_52 hn) h.1 (md_r (m := md_X12_statement) (by decide)) ?_
        replace h := h.2
        refine e_aload_n dX12_statement_62 rfl rfl ?_
        refine e_getR (y := 51) dX12_statement_63 fl_X12_53 (ob_11 hn) rfl rfl ?_
        refine e_iload_n dX12_statement_66 rfl rfl ?_
        refine e_iald dX12_statement_67 (ar_51 hn) h.1 ?_
        replace h := h.2
        refine e_if_ne (tgt := 80) dX12_statement_68 (by decide) (fun c77 => ?_) (fun c77 => ?_)
        · replace h := h.1 c77
          refine e_aload_n dX12_statement_80 rfl rfl ?_
          refine e_getR (y := 53) dX12_statement_81 fl_X12_59 (ob_11 hn) rfl rfl ?_
          refine e_iload_n dX12_statement_84 rfl rfl ?_
          refine e_aload_n dX12_statement_85 rfl rfl ?_
          refine e_getI dX12_statement_86 fl_X12_192 (ob_11 hn) rfl ?_
          refine e_iast dX12_statement_89 (ar_53 hn) h.1 (md_r (m := md_X12_statement) (by decide)) ?_
          replace h := h.2
          refine e_aload_n dX12_statement_90 rfl rfl ?_
          refine e_ldc2 dX12_statement_91 ck_X12_251 ?_
          obtain ⟨Q78, hc79, h⟩ := h
          refine e_callV (M' := M_X12_takes) (as := [.long 26982]) (rest := []) dX12_statement_94 ml_X12_218 mk_X12_takes (ob_11 hn) rfl rfl rfl (Nat.le_of_ble_eq_true rfl) (show 0 < d by omega) hc79 (Md_le (b := md_X12_statement) (by decide)) (fun v σ80 hq hf => ?_)
          obtain ⟨v81, rfl, hq⟩ := hq
          replace h := h v81 σ80 hq hf
          refine e_if_eq (tgt := 109) dX12_statement_97 (by decide) (fun c84 => ?_) (fun c84 => ?_)
          · replace h := h.1 c84
            refine e_aload_n dX12_statement_109 rfl rfl ?_
            refine e_getR (y := 54) dX12_statement_110 fl_X12_62 (ob_11 hn) rfl rfl ?_
            refine e_iload_n dX12_statement_113 rfl rfl ?_
            refine e_aload_n dX12_statement_114 rfl rfl ?_
            refine e_getI dX12_statement_115 fl_X12_192 (ob_11 hn) rfl ?_
            refine e_iast dX12_statement_118 (ar_54 hn) h.1 (md_r (m := md_X12_statement) (by decide)) ?_
            replace h := h.2
            refine e_aload_n dX12_statement_119 rfl rfl ?_
            refine e_bipush dX12_statement_120 cb_59 ?_
            obtain ⟨Q85, hc86, h⟩ := h
            refine e_callV (M' := M_X12_takesSign) (as := [.int 59]) (rest := []) dX12_statement_122 ml_X12_213 mk_X12_takesSign (ob_11 hn) rfl rfl rfl (Nat.le_of_ble_eq_true rfl) (show 0 < d by omega) hc86 (Md_le (b := md_X12_statement) (by decide)) (fun v σ87 hq hf => ?_)
            obtain ⟨v88, rfl, hq⟩ := hq
            replace h := h v88 σ87 hq hf
            exact e_zret dX12_statement_125 rfl (nar_z h.1) ⟨_, rfl, h.2⟩
          · replace h := h.2 c84
            refine e_aload_n dX12_statement_100 rfl rfl ?_
            obtain ⟨Q91, hc92, h⟩ := h
            refine e_callV (M' := M_X12_any) (as := []) (rest := []) dX12_statement_101 ml_X12_237 mk_X12_any (ob_11 hn) rfl rfl rfl (Nat.le_of_ble_eq_true rfl) (show 0 < d by omega) hc92 (Md_le (b := md_X12_statement) (by decide)) (fun v σ93 hq hf => ?_)
            obtain ⟨v94, rfl, hq⟩ := hq
            replace h := h v94 σ93 hq hf
            refine e_if_ne (tgt := 109) dX12_statement_104 (by decide) (fun c97 => ?_) (fun c97 => ?_)
            · replace h := h.1 c97
              refine e_aload_n dX12_statement_109 rfl rfl ?_
              refine e_getR (y := 54) dX12_statement_110 fl_X12_62 (ob_11 hn) rfl rfl ?_
              refine e_iload_n dX12_statement_113 rfl rfl ?_
              refine e_aload_n dX12_statement_114 rfl rfl ?_
              refine e_getI dX12_statement_115 fl_X12_192 (ob_11 hn) rfl ?_
              refine e_iast dX12_statement_118 (ar_54 hn) h.1 (md_r (m := md_X12_statement) (by decide)) ?_
              replace h := h.2
              refine e_aload_n dX12_statement_119 rfl rfl ?_
              refine e_bipush dX12_statement_120 cb_59 ?_
              obtain ⟨Q98, hc99, h⟩ := h
              refine e_callV (M' := M_X12_takesSign) (as := [.int 59]) (rest := []) dX12_statement_122 ml_X12_213 mk_X12_takesSign (ob_11 hn) rfl rfl rfl (Nat.le_of_ble_eq_true rfl) (show 0 < d by omega) hc99 (Md_le (b := md_X12_statement) (by decide)) (fun v σ100 hq hf => ?_)
              obtain ⟨v101, rfl, hq⟩ := hq
              replace h := h v101 σ100 hq hf
              exact e_zret dX12_statement_125 rfl (nar_z h.1) ⟨_, rfl, h.2⟩
            · replace h := h.2 c97
              refine e_iconst dX12_statement_107 ci_0 ?_
              exact e_zret dX12_statement_108 rfl (nar_z (Or.inl rfl)) ⟨_, rfl, h⟩
        · replace h := h.2 c77
          refine e_aload_n dX12_statement_71 rfl rfl ?_
          obtain ⟨Q104, hc105, h⟩ := h
          refine e_callV (M' := M_X12_ex) (as := []) (rest := []) dX12_statement_72 ml_X12_210 mk_X12_ex (ob_11 hn) rfl rfl rfl (Nat.le_of_ble_eq_true rfl) (show 0 < d by omega) hc105 (Md_le (b := md_X12_statement) (by decide)) (fun v σ106 hq hf => ?_)
          obtain ⟨v107, rfl, hq⟩ := hq
          replace h := h v107 σ106 hq hf
          refine e_if_ne (tgt := 80) dX12_statement_75 (by decide) (fun c110 => ?_) (fun c110 => ?_)
          · replace h := h.1 c110
            refine e_aload_n dX12_statement_80 rfl rfl ?_
            refine e_getR (y := 53) dX12_statement_81 fl_X12_59 (ob_11 hn) rfl rfl ?_
            refine e_iload_n dX12_statement_84 rfl rfl ?_
            refine e_aload_n dX12_statement_85 rfl rfl ?_
            refine e_getI dX12_statement_86 fl_X12_192 (ob_11 hn) rfl ?_
            refine e_iast dX12_statement_89 (ar_53 hn) h.1 (md_r (m := md_X12_statement) (by decide)) ?_
            replace h := h.2
            refine e_aload_n dX12_statement_90 rfl rfl ?_
            refine e_ldc2 dX12_statement_91 ck_X12_251 ?_
            obtain ⟨Q111, hc112, h⟩ := h
            refine e_callV (M' := M_X12_takes) (as := [.long 26982]) (rest := []) dX12_statement_94 ml_X12_218 mk_X12_takes (ob_11 hn) rfl rfl rfl (Nat.le_of_ble_eq_true rfl) (show 0 < d by omega) hc112 (Md_le (b := md_X12_statement) (by decide)) (fun v σ113 hq hf => ?_)
            obtain ⟨v114, rfl, hq⟩ := hq
            replace h := h v114 σ113 hq hf
            refine e_if_eq (tgt := 109) dX12_statement_97 (by decide) (fun c117 => ?_) (fun c117 => ?_)
            · replace h := h.1 c117
              refine e_aload_n dX12_statement_109 rfl rfl ?_
              refine e_getR (y := 54) dX12_statement_110 fl_X12_62 (ob_11 hn) rfl rfl ?_
              refine e_iload_n dX12_statement_113 rfl rfl ?_
              refine e_aload_n dX12_statement_114 rfl rfl ?_
              refine e_getI dX12_statement_115 fl_X12_192 (ob_11 hn) rfl ?_
              refine e_iast dX12_statement_118 (ar_54 hn) h.1 (md_r (m := md_X12_statement) (by decide)) ?_
              replace h := h.2
              refine e_aload_n dX12_statement_119 rfl rfl ?_
              refine e_bipush dX12_statement_120 cb_59 ?_
              obtain ⟨Q118, hc119, h⟩ := h
              refine e_callV (M' := M_X12_takesSign) (as := [.int 59]) (rest := []) dX12_statement_122 ml_X12_213 mk_X12_takesSign (ob_11 hn) rfl rfl rfl (Nat.le_of_ble_eq_true rfl) (show 0 < d by omega) hc119 (Md_le (b := md_X12_statement) (by decide)) (fun v σ120 hq hf => ?_)
              obtain ⟨v121, rfl, hq⟩ := hq
              replace h := h v121 σ120 hq hf
              exact e_zret dX12_statement_125 rfl (nar_z h.1) ⟨_, rfl, h.2⟩
            · replace h := h.2 c117
              refine e_aload_n dX12_statement_100 rfl rfl ?_
              obtain ⟨Q124, hc125, h⟩ := h
              refine e_callV (M' := M_X12_any) (as := []) (rest := []) dX12_statement_101 ml_X12_237 mk_X12_any (ob_11 hn) rfl rfl rfl (Nat.le_of_ble_eq_true rfl) (show 0 < d by omega) hc125 (Md_le (b := md_X12_statement) (by decide)) (fun v σ126 hq hf => ?_)
              obtain ⟨v127, rfl, hq⟩ := hq
              replace h := h v127 σ126 hq hf
              refine e_if_ne (tgt := 109) dX12_statement_104 (by decide) (fun c130 => ?_) (fun c130 => ?_)
              · replace h := h.1 c130
                refine e_aload_n dX12_statement_109 rfl rfl ?_
                refine e_getR (y := 54) dX12_statement_110 fl_X12_62 (ob_11 hn) rfl rfl ?_
                refine e_iload_n dX12_statement_113 rfl rfl ?_
                refine e_aload_n dX12_statement_114 rfl rfl ?_
                refine e_getI dX12_statement_115 fl_X12_192 (ob_11 hn) rfl ?_
                refine e_iast dX12_statement_118 (ar_54 hn) h.1 (md_r (m := md_X12_statement) (by decide)) ?_
                replace h := h.2
                refine e_aload_n dX12_statement_119 rfl rfl ?_
                refine e_bipush dX12_statement_120 cb_59 ?_
                obtain ⟨Q131, hc132, h⟩ := h
                refine e_callV (M' := M_X12_takesSign) (as := [.int 59]) (rest := []) dX12_statement_122 ml_X12_213 mk_X12_takesSign (ob_11 hn) rfl rfl rfl (Nat.le_of_ble_eq_true rfl) (show 0 < d by omega) hc132 (Md_le (b := md_X12_statement) (by decide)) (fun v σ133 hq hf => ?_)
                obtain ⟨v134, rfl, hq⟩ := hq
                replace h := h v134 σ133 hq hf
                exact e_zret dX12_statement_125 rfl (nar_z h.1) ⟨_, rfl, h.2⟩
              · replace h := h.2 c130
                refine e_iconst dX12_statement_107 ci_0 ?_
                exact e_zret dX12_statement_108 rfl (nar_z (Or.inl rfl)) ⟨_, rfl, h⟩
          · replace h := h.2 c110
            refine e_iconst dX12_statement_78 ci_0 ?_
            exact e_zret dX12_statement_79 rfl (nar_z (Or.inl rfl)) ⟨_, rfl, h⟩
      · replace h := h.2 c76
        refine e_iconst dX12_statement_45 ci_0 ?_
        exact e_zret dX12_statement_46 rfl (nar_z (Or.inl rfl)) ⟨_, rfl, h⟩
  · replace h := h.2 c7
    refine e_iconst dX12_statement_15 ci_0 ?_
    refine e_goto (tgt := 34) dX12_statement_16 (by decide) ?_
    refine e_iast dX12_statement_34 (ar_51 hn) h.1 (md_r (m := md_X12_statement) (by decide)) ?_
    replace h := h.2
    refine e_aload_n dX12_statement_35 rfl rfl ?_
    refine e_getR (y := 51) dX12_statement_36 fl_X12_53 (ob_11 hn) rfl rfl ?_
    refine e_iload_n dX12_statement_39 rfl rfl ?_
    refine e_iald dX12_statement_40 (ar_51 hn) h.1 ?_
    replace h := h.2
    refine e_iconst dX12_statement_41 ci_m1 ?_
    refine e_icmp_ne (tgt := 47) dX12_statement_42 (by decide) (fun c137 => ?_) (fun c137 => ?_)
    · replace h := h.1 c137
      refine e_aload_n dX12_statement_47 rfl rfl ?_
      refine e_iconst dX12_statement_48 ci_0 ?_
      refine e_putI dX12_statement_49 fl_X12_195 (ob_11 hn) rfl (fpI_12_17 _) (md_c (m := md_X12_statement) (by decide)) ?_
      refine e_aload_n dX12_statement_52 rfl rfl ?_
      refine e_getR (y := 52) dX12_statement_53 fl_X12_56 (ob_11 hn) rfl rfl ?_
      refine e_iload_n dX12_statement_56 rfl rfl ?_
      refine e_aload_n dX12_statement_57 rfl rfl ?_
      refine e_getI dX12_statement_58 fl_X12_192 (ob_11 hn) rfl ?_
      refine e_iast dX12_statement_61 (ar_52 hn) h.1 (md_r (m := md_X12_statement) (by decide)) ?_
      replace h := h.2
      refine e_aload_n dX12_statement_62 rfl rfl ?_
      refine e_getR (y := 51) dX12_statement_63 fl_X12_53 (ob_11 hn) rfl rfl ?_
      refine e_iload_n dX12_statement_66 rfl rfl ?_
      refine e_iald dX12_statement_67 (ar_51 hn) h.1 ?_
      replace h := h.2
      refine e_if_ne (tgt := 80) dX12_statement_68 (by decide) (fun c138 => ?_) (fun c138 => ?_)
      · replace h := h.1 c138
        refine e_aload_n dX12_statement_80 rfl rfl ?_
        refine e_getR (y := 53) dX12_statement_81 fl_X12_59 (ob_11 hn) rfl rfl ?_
        refine e_iload_n dX12_statement_84 rfl rfl ?_
        refine e_aload_n dX12_statement_85 rfl rfl ?_
        refine e_getI dX12_statement_86 fl_X12_192 (ob_11 hn) rfl ?_
        refine e_iast dX12_statement_89 (ar_53 hn) h.1 (md_r (m := md_X12_statement) (by decide)) ?_
        replace h := h.2
        refine e_aload_n dX12_statement_90 rfl rfl ?_
        refine e_ldc2 dX12_statement_91 ck_X12_251 ?_
        obtain ⟨Q139, hc140, h⟩ := h
        refine e_callV (M' := M_X12_takes) (as := [.long 26982]) (rest := []) dX12_statement_94 ml_X12_218 mk_X12_takes (ob_11 hn) rfl rfl rfl (Nat.le_of_ble_eq_true rfl) (show 0 < d by omega) hc140 (Md_le (b := md_X12_statement) (by decide)) (fun v σ141 hq hf => ?_)
        obtain ⟨v142, rfl, hq⟩ := hq
        replace h := h v142 σ141 hq hf
        refine e_if_eq (tgt := 109) dX12_statement_97 (by decide) (fun c145 => ?_) (fun c145 => ?_)
        · replace h := h.1 c145
          refine e_aload_n dX12_statement_109 rfl rfl ?_
          refine e_getR (y := 54) dX12_statement_110 fl_X12_62 (ob_11 hn) rfl rfl ?_
          refine e_iload_n dX12_statement_113 rfl rfl ?_
          refine e_aload_n dX12_statement_114 rfl rfl ?_
          refine e_getI dX12_statement_115 fl_X12_192 (ob_11 hn) rfl ?_
          refine e_iast dX12_statement_118 (ar_54 hn) h.1 (md_r (m := md_X12_statement) (by decide)) ?_
          replace h := h.2
          refine e_aload_n dX12_statement_119 rfl rfl ?_
          refine e_bipush dX12_statement_120 cb_59 ?_
          obtain ⟨Q146, hc147, h⟩ := h
          refine e_callV (M' := M_X12_takesSign) (as := [.int 59]) (rest := []) dX12_statement_122 ml_X12_213 mk_X12_takesSign (ob_11 hn) rfl rfl rfl (Nat.le_of_ble_eq_true rfl) (show 0 < d by omega) hc147 (Md_le (b := md_X12_statement) (by decide)) (fun v σ148 hq hf => ?_)
          obtain ⟨v149, rfl, hq⟩ := hq
          replace h := h v149 σ148 hq hf
          exact e_zret dX12_statement_125 rfl (nar_z h.1) ⟨_, rfl, h.2⟩
        · replace h := h.2 c145
          refine e_aload_n dX12_statement_100 rfl rfl ?_
          obtain ⟨Q152, hc153, h⟩ := h
          refine e_callV (M' := M_X12_any) (as := []) (rest := []) dX12_statement_101 ml_X12_237 mk_X12_any (ob_11 hn) rfl rfl rfl (Nat.le_of_ble_eq_true rfl) (show 0 < d by omega) hc153 (Md_le (b := md_X12_statement) (by decide)) (fun v σ154 hq hf => ?_)
          obtain ⟨v155, rfl, hq⟩ := hq
          replace h := h v155 σ154 hq hf
          refine e_if_ne (tgt := 109) dX12_statement_104 (by decide) (fun c158 => ?_) (fun c158 => ?_)
          · replace h := h.1 c158
            refine e_aload_n dX12_statement_109 rfl rfl ?_
            refine e_getR (y := 54) dX12_statement_110 fl_X12_62 (ob_11 hn) rfl rfl ?_
            refine e_iload_n dX12_statement_113 rfl rfl ?_
            refine e_aload_n dX12_statement_114 rfl rfl ?_
            refine e_getI dX12_statement_115 fl_X12_192 (ob_11 hn) rfl ?_
            refine e_iast dX12_statement_118 (ar_54 hn) h.1 (md_r (m := md_X12_statement) (by decide)) ?_
            replace h := h.2
            refine e_aload_n dX12_statement_119 rfl rfl ?_
            refine e_bipush dX12_statement_120 cb_59 ?_
            obtain ⟨Q159, hc160, h⟩ := h
            refine e_callV (M' := M_X12_takesSign) (as := [.int 59]) (rest := []) dX12_statement_122 ml_X12_213 mk_X12_takesSign (ob_11 hn) rfl rfl rfl (Nat.le_of_ble_eq_true rfl) (show 0 < d by omega) hc160 (Md_le (b := md_X12_statement) (by decide)) (fun v σ161 hq hf => ?_)
            obtain ⟨v162, rfl, hq⟩ := hq
            replace h := h v162 σ161 hq hf
            exact e_zret dX12_statement_125 rfl (nar_z h.1) ⟨_, rfl, h.2⟩
          · replace h := h.2 c158
            refine e_iconst dX12_statement_107 ci_0 ?_
            exact e_zret dX12_statement_108 rfl (nar_z (Or.inl rfl)) ⟨_, rfl, h⟩
      · replace h := h.2 c138
        refine e_aload_n dX12_statement_71 rfl rfl ?_
        obtain ⟨Q165, hc166, h⟩ := h
        refine e_callV (M' := M_X12_ex) (as := []) (rest := []) dX12_statement_72 ml_X12_210 mk_X12_ex (ob_11 hn) rfl rfl rfl (Nat.le_of_ble_eq_true rfl) (show 0 < d by omega) hc166 (Md_le (b := md_X12_statement) (by decide)) (fun v σ167 hq hf => ?_)
        obtain ⟨v168, rfl, hq⟩ := hq
        replace h := h v168 σ167 hq hf
        refine e_if_ne (tgt := 80) dX12_statement_75 (by decide) (fun c171 => ?_) (fun c171 => ?_)
        · replace h := h.1 c171
          refine e_aload_n dX12_statement_80 rfl rfl ?_
          refine e_getR (y := 53) dX12_statement_81 fl_X12_59 (ob_11 hn) rfl rfl ?_
          refine e_iload_n dX12_statement_84 rfl rfl ?_
          refine e_aload_n dX12_statement_85 rfl rfl ?_
          refine e_getI dX12_statement_86 fl_X12_192 (ob_11 hn) rfl ?_
          refine e_iast dX12_statement_89 (ar_53 hn) h.1 (md_r (m := md_X12_statement) (by decide)) ?_
          replace h := h.2
          refine e_aload_n dX12_statement_90 rfl rfl ?_
          refine e_ldc2 dX12_statement_91 ck_X12_251 ?_
          obtain ⟨Q172, hc173, h⟩ := h
          refine e_callV (M' := M_X12_takes) (as := [.long 26982]) (rest := []) dX12_statement_94 ml_X12_218 mk_X12_takes (ob_11 hn) rfl rfl rfl (Nat.le_of_ble_eq_true rfl) (show 0 < d by omega) hc173 (Md_le (b := md_X12_statement) (by decide)) (fun v σ174 hq hf => ?_)
          obtain ⟨v175, rfl, hq⟩ := hq
          replace h := h v175 σ174 hq hf
          refine e_if_eq (tgt := 109) dX12_statement_97 (by decide) (fun c178 => ?_) (fun c178 => ?_)
          · replace h := h.1 c178
            refine e_aload_n dX12_statement_109 rfl rfl ?_
            refine e_getR (y := 54) dX12_statement_110 fl_X12_62 (ob_11 hn) rfl rfl ?_
            refine e_iload_n dX12_statement_113 rfl rfl ?_
            refine e_aload_n dX12_statement_114 rfl rfl ?_
            refine e_getI dX12_statement_115 fl_X12_192 (ob_11 hn) rfl ?_
            refine e_iast dX12_statement_118 (ar_54 hn) h.1 (md_r (m := md_X12_statement) (by decide)) ?_
            replace h := h.2
            refine e_aload_n dX12_statement_119 rfl rfl ?_
            refine e_bipush dX12_statement_120 cb_59 ?_
            obtain ⟨Q179, hc180, h⟩ := h
            refine e_callV (M' := M_X12_takesSign) (as := [.int 59]) (rest := []) dX12_statement_122 ml_X12_213 mk_X12_takesSign (ob_11 hn) rfl rfl rfl (Nat.le_of_ble_eq_true rfl) (show 0 < d by omega) hc180 (Md_le (b := md_X12_statement) (by decide)) (fun v σ181 hq hf => ?_)
            obtain ⟨v182, rfl, hq⟩ := hq
            replace h := h v182 σ181 hq hf
            exact e_zret dX12_statement_125 rfl (nar_z h.1) ⟨_, rfl, h.2⟩
          · replace h := h.2 c178
            refine e_aload_n dX12_statement_100 rfl rfl ?_
            obtain ⟨Q185, hc186, h⟩ := h
            refine e_callV (M' := M_X12_any) (as := []) (rest := []) dX12_statement_101 ml_X12_237 mk_X12_any (ob_11 hn) rfl rfl rfl (Nat.le_of_ble_eq_true rfl) (show 0 < d by omega) hc186 (Md_le (b := md_X12_statement) (by decide)) (fun v σ187 hq hf => ?_)
            obtain ⟨v188, rfl, hq⟩ := hq
            replace h := h v188 σ187 hq hf
            refine e_if_ne (tgt := 109) dX12_statement_104 (by decide) (fun c191 => ?_) (fun c191 => ?_)
            · replace h := h.1 c191
              refine e_aload_n dX12_statement_109 rfl rfl ?_
              refine e_getR (y := 54) dX12_statement_110 fl_X12_62 (ob_11 hn) rfl rfl ?_
              refine e_iload_n dX12_statement_113 rfl rfl ?_
              refine e_aload_n dX12_statement_114 rfl rfl ?_
              refine e_getI dX12_statement_115 fl_X12_192 (ob_11 hn) rfl ?_
              refine e_iast dX12_statement_118 (ar_54 hn) h.1 (md_r (m := md_X12_statement) (by decide)) ?_
              replace h := h.2
              refine e_aload_n dX12_statement_119 rfl rfl ?_
              refine e_bipush dX12_statement_120 cb_59 ?_
              obtain ⟨Q192, hc193, h⟩ := h
              refine e_callV (M' := M_X12_takesSign) (as := [.int 59]) (rest := []) dX12_statement_122 ml_X12_213 mk_X12_takesSign (ob_11 hn) rfl rfl rfl (Nat.le_of_ble_eq_true rfl) (show 0 < d by omega) hc193 (Md_le (b := md_X12_statement) (by decide)) (fun v σ194 hq hf => ?_)
              obtain ⟨v195, rfl, hq⟩ := hq
              replace h := h v195 σ194 hq hf
              exact e_zret dX12_statement_125 rfl (nar_z h.1) ⟨_, rfl, h.2⟩
            · replace h := h.2 c191
              refine e_iconst dX12_statement_107 ci_0 ?_
              exact e_zret dX12_statement_108 rfl (nar_z (Or.inl rfl)) ⟨_, rfl, h⟩
        · replace h := h.2 c171
          refine e_iconst dX12_statement_78 ci_0 ?_
          exact e_zret dX12_statement_79 rfl (nar_z (Or.inl rfl)) ⟨_, rfl, h⟩
    · replace h := h.2 c137
      refine e_iconst dX12_statement_45 ci_0 ?_
      exact e_zret dX12_statement_46 rfl (nar_z (Or.inl rfl)) ⟨_, rfl, h⟩
abbrev K_X12_reads_2 (d n : Nat) (σ0 : St) (Q : Int32 → St → Prop) (σ : St) (x1 : Int32) (x2 : Int32) : Prop := Ev (d, n, md_X12_reads, σ0, liI Q) M_X12_reads 2 [some (.ref 11), some (.int x1), some (.int x2)] [] σ
abbrev K_X12_reads_61 (d n : Nat) (σ0 : St) (Q : Int32 → St → Prop) (σ : St) (x2 : Int32) : Prop := Ev (d, n, md_X12_reads, σ0, liI Q) M_X12_reads 61 [some (.ref 11), none, some (.int x2)] [] σ
theorem B_X12_reads_2 {d n : Nat} {σ0 : St} {Q : Int32 → St → Prop}  {σ : St} {x1 : Int32} {x2 : Int32} (hn : FIX ≤ n) (hd : 1 ≤ d) (h : ((x1 ≤ x2 → ∃ Q2 : St → Prop, Cn (d - 1) n M_X12_blanks md_X12_blanks [.ref 11] (sI (sI (sI (sI (sI σ 11 15 x1) 11 14 0) 11 16 0) 11 18 4500) 50 9 0) (liV Q2) ∧ ∀ (σ4 : St), Q2 σ4 → Fr md_X12_blanks (sI (sI (sI (sI (sI σ 11 15 x1) 11 14 0) 11 16 0) 11 18 4500) 50 9 0) σ4 → K_X12_reads_61 d n σ0 Q σ4 1) ∧ (¬ x1 ≤ x2 → vp_in x2 400 ∧ vp_in x2 400 ∧ K_X12_reads_2 d n σ0 Q (sI σ 60 x2.toNatClampNeg (vp_nar .byte (gI σ 59 x2.toNatClampNeg))) x1 (x2 + 1)))) : K_X12_reads_2 d n σ0 Q σ x1 x2 := by
  refine e_iload_n dX12_reads_2 rfl rfl ?_
  refine e_iload_n dX12_reads_3 rfl rfl ?_
  refine e_icmp_ge (tgt := 25) dX12_reads_4 (by decide) (fun c1 => ?_) (fun c1 => ?_)
  · replace h := h.1 c1
    refine e_aload_n dX12_reads_25 rfl rfl ?_
    refine e_iload_n dX12_reads_26 rfl rfl ?_
    refine e_putI dX12_reads_27 fl_X12_164 (ob_11 hn) rfl (fpI_12_15 _) (md_c (m := md_X12_reads) (by decide)) ?_
    refine e_aload_n dX12_reads_30 rfl rfl ?_
    refine e_iconst dX12_reads_31 ci_0 ?_
    refine e_putI dX12_reads_32 fl_X12_154 (ob_11 hn) rfl (fpI_12_14 _) (md_c (m := md_X12_reads) (by decide)) ?_
    refine e_aload_n dX12_reads_35 rfl rfl ?_
    refine e_iconst dX12_reads_36 ci_0 ?_
    refine e_putI dX12_reads_37 fl_X12_161 (ob_11 hn) rfl (fpI_12_16 _) (md_c (m := md_X12_reads) (by decide)) ?_
    refine e_aload_n dX12_reads_40 rfl rfl ?_
    refine e_sipush dX12_reads_41 cs_4500 ?_
    refine e_putI dX12_reads_44 fl_X12_192 (ob_11 hn) rfl (fpI_12_18 _) (md_c (m := md_X12_reads) (by decide)) ?_
    refine e_aload_n dX12_reads_47 rfl rfl ?_
    refine e_getR (y := 50) dX12_reads_48 fl_X12_50 (ob_11 hn) rfl rfl ?_
    refine e_bipush dX12_reads_51 cb_9 ?_
    refine e_iconst dX12_reads_53 ci_0 ?_
    refine e_iast dX12_reads_54 (ar_50 hn) (vp_lit (by decide) (by decide)) (md_r (m := md_X12_reads) (by decide)) ?_
    refine e_iconst dX12_reads_55 ci_1 ?_
    refine e_istore_n dX12_reads_56 rfl rfl (by decide) ?_
    refine e_aload_n dX12_reads_57 rfl rfl ?_
    obtain ⟨Q2, hc3, h⟩ := h
    refine e_callV (M' := M_X12_blanks) (as := []) (rest := []) dX12_reads_58 ml_X12_167 mk_X12_blanks (ob_11 hn) rfl rfl rfl (Nat.le_of_ble_eq_true rfl) (show 0 < d by omega) hc3 (Md_le (b := md_X12_reads) (by decide)) (fun v σ4 hq hf => ?_)
    obtain ⟨rfl, hq⟩ := hq
    replace h := h σ4 hq hf
    refine e_kill [true, false, true] ?_
    exact h
  · replace h := h.2 c1
    refine e_aload_n dX12_reads_7 rfl rfl ?_
    refine e_getR (y := 60) dX12_reads_8 fl_X12_82 (ob_11 hn) rfl rfl ?_
    refine e_iload_n dX12_reads_11 rfl rfl ?_
    refine e_aload_n dX12_reads_12 rfl rfl ?_
    refine e_getR (y := 59) dX12_reads_13 fl_X12_78 (ob_11 hn) rfl rfl ?_
    refine e_iload_n dX12_reads_16 rfl rfl ?_
    refine e_bald dX12_reads_17 (ar_59 hn) h.1 ?_
    replace h := h.2
    refine e_bast dX12_reads_18 (ar_60 hn) h.1 (md_r (m := md_X12_reads) (by decide)) ?_
    replace h := h.2
    refine e_iinc dX12_reads_19 rfl (ii_1 _) rfl (by decide) ?_
    refine e_goto (tgt := 2) dX12_reads_22 (by decide) ?_
    exact h
theorem B_X12_reads_61 {d n : Nat} {σ0 : St} {Q : Int32 → St → Prop}  {σ : St} {x2 : Int32} (hn : FIX ≤ n) (hd : 1 ≤ d) (h : ((x2 = 0 → ((x2 = 0 → (x2 = 0 ∨ x2 = 1) ∧ Q x2 (sI σ 11 19 (gI σ 11 16))) ∧ (¬ x2 = 0 → (x2 = 0 ∨ x2 = 1) ∧ Q x2 (sI σ 11 19 (-1))))) ∧ (¬ x2 = 0 → (((gI σ 11 15) ≤ (gI σ 11 16) → ((x2 = 0 → (x2 = 0 ∨ x2 = 1) ∧ Q x2 (sI σ 11 19 (gI σ 11 16))) ∧ (¬ x2 = 0 → (x2 = 0 ∨ x2 = 1) ∧ Q x2 (sI σ 11 19 (-1))))) ∧ (¬ (gI σ 11 15) ≤ (gI σ 11 16) → (((16 : Int32) ≤ (gI σ 50 9) → (((0 : Int32) ≠ 0 → ∃ Q7 : St → Prop, Cn (d - 1) n M_X12_blanks md_X12_blanks [.ref 11] (sI σ 50 9 ((gI σ 50 9) + 1)) (liV Q7) ∧ ∀ (σ9 : St), Q7 σ9 → Fr md_X12_blanks (sI σ 50 9 ((gI σ 50 9) + 1)) σ9 → K_X12_reads_61 d n σ0 Q σ9 0) ∧ ((0 : Int32) = 0 → K_X12_reads_61 d n σ0 Q σ 0))) ∧ (¬ (16 : Int32) ≤ (gI σ 50 9) → ∃ Q13 : Int32 → St → Prop, Cn (d - 1) n M_X12_statement md_X12_statement [.ref 11, .int (144 + (gI σ 50 9))] σ (liI Q13) ∧ ∀ (v16 : Int32) (σ15 : St), Q13 v16 σ15 → Fr md_X12_statement σ σ15 → ((v16 = 0 → (((0 : Int32) ≠ 0 → ∃ Q21 : St → Prop, Cn (d - 1) n M_X12_blanks md_X12_blanks [.ref 11] (sI σ15 50 9 ((gI σ15 50 9) + 1)) (liV Q21) ∧ ∀ (σ23 : St), Q21 σ23 → Fr md_X12_blanks (sI σ15 50 9 ((gI σ15 50 9) + 1)) σ23 → K_X12_reads_61 d n σ0 Q σ23 0) ∧ ((0 : Int32) = 0 → K_X12_reads_61 d n σ0 Q σ15 0))) ∧ (¬ v16 = 0 → (((1 : Int32) ≠ 0 → ∃ Q28 : St → Prop, Cn (d - 1) n M_X12_blanks md_X12_blanks [.ref 11] (sI σ15 50 9 ((gI σ15 50 9) + 1)) (liV Q28) ∧ ∀ (σ30 : St), Q28 σ30 → Fr md_X12_blanks (sI σ15 50 9 ((gI σ15 50 9) + 1)) σ30 → K_X12_reads_61 d n σ0 Q σ30 1) ∧ ((1 : Int32) = 0 → K_X12_reads_61 d n σ0 Q σ15 1))))))))))) : K_X12_reads_61 d n σ0 Q σ x2 := by
  refine e_iload_n dX12_reads_61 rfl rfl ?_
  refine e_if_eq (tgt := 137) dX12_reads_62 (by decide) (fun c1 => ?_) (fun c1 => ?_)
  · replace h := h.1 c1
    refine e_aload_n dX12_reads_137 rfl rfl ?_
    refine e_iload_n dX12_reads_138 rfl rfl ?_
    refine e_if_eq (tgt := 146) dX12_reads_139 (by decide) (fun c2 => ?_) (fun c2 => ?_)
    · replace h := h.1 c2
      refine e_aload_n dX12_reads_146 rfl rfl ?_
      refine e_getI dX12_reads_147 fl_X12_161 (ob_11 hn) rfl ?_
      refine e_putI dX12_reads_150 fl_X12_44 (ob_11 hn) rfl (fpI_12_19 _) (md_c (m := md_X12_reads) (by decide)) ?_
      refine e_iload_n dX12_reads_153 rfl rfl ?_
      exact e_zret dX12_reads_154 rfl (nar_z h.1) ⟨_, rfl, h.2⟩
    · replace h := h.2 c2
      refine e_iconst dX12_reads_142 ci_m1 ?_
      refine e_goto (tgt := 150) dX12_reads_143 (by decide) ?_
      refine e_putI dX12_reads_150 fl_X12_44 (ob_11 hn) rfl (fpI_12_19 _) (md_c (m := md_X12_reads) (by decide)) ?_
      refine e_iload_n dX12_reads_153 rfl rfl ?_
      exact e_zret dX12_reads_154 rfl (nar_z h.1) ⟨_, rfl, h.2⟩
  · replace h := h.2 c1
    refine e_aload_n dX12_reads_65 rfl rfl ?_
    refine e_getI dX12_reads_66 fl_X12_161 (ob_11 hn) rfl ?_
    refine e_aload_n dX12_reads_69 rfl rfl ?_
    refine e_getI dX12_reads_70 fl_X12_164 (ob_11 hn) rfl ?_
    refine e_icmp_ge (tgt := 137) dX12_reads_73 (by decide) (fun c3 => ?_) (fun c3 => ?_)
    · replace h := h.1 c3
      refine e_aload_n dX12_reads_137 rfl rfl ?_
      refine e_iload_n dX12_reads_138 rfl rfl ?_
      refine e_if_eq (tgt := 146) dX12_reads_139 (by decide) (fun c4 => ?_) (fun c4 => ?_)
      · replace h := h.1 c4
        refine e_aload_n dX12_reads_146 rfl rfl ?_
        refine e_getI dX12_reads_147 fl_X12_161 (ob_11 hn) rfl ?_
        refine e_putI dX12_reads_150 fl_X12_44 (ob_11 hn) rfl (fpI_12_19 _) (md_c (m := md_X12_reads) (by decide)) ?_
        refine e_iload_n dX12_reads_153 rfl rfl ?_
        exact e_zret dX12_reads_154 rfl (nar_z h.1) ⟨_, rfl, h.2⟩
      · replace h := h.2 c4
        refine e_iconst dX12_reads_142 ci_m1 ?_
        refine e_goto (tgt := 150) dX12_reads_143 (by decide) ?_
        refine e_putI dX12_reads_150 fl_X12_44 (ob_11 hn) rfl (fpI_12_19 _) (md_c (m := md_X12_reads) (by decide)) ?_
        refine e_iload_n dX12_reads_153 rfl rfl ?_
        exact e_zret dX12_reads_154 rfl (nar_z h.1) ⟨_, rfl, h.2⟩
    · replace h := h.2 c3
      refine e_aload_n dX12_reads_76 rfl rfl ?_
      refine e_getR (y := 50) dX12_reads_77 fl_X12_50 (ob_11 hn) rfl rfl ?_
      refine e_bipush dX12_reads_80 cb_9 ?_
      refine e_iald dX12_reads_82 (ar_50 hn) (vp_lit (by decide) (by decide)) ?_
      refine e_bipush dX12_reads_83 cb_16 ?_
      refine e_icmp_ge (tgt := 110) dX12_reads_85 (by decide) (fun c5 => ?_) (fun c5 => ?_)
      · replace h := h.1 c5
        refine e_iconst dX12_reads_110 ci_0 ?_
        refine e_istore_n dX12_reads_111 rfl rfl (by decide) ?_
        refine e_iload_n dX12_reads_112 rfl rfl ?_
        refine e_if_ne (tgt := 119) dX12_reads_113 (by decide) (fun c6 => ?_) (fun c6 => ?_)
        · replace h := h.1 c6
          refine e_aload_n dX12_reads_119 rfl rfl ?_
          refine e_getR (y := 50) dX12_reads_120 fl_X12_50 (ob_11 hn) rfl rfl ?_
          refine e_bipush dX12_reads_123 cb_9 ?_
          refine e_dup2 dX12_reads_125 rfl rfl ?_
          refine e_iald dX12_reads_126 (ar_50 hn) (vp_lit (by decide) (by decide)) ?_
          refine e_iconst dX12_reads_127 ci_1 ?_
          refine e_iadd dX12_reads_128 ?_
          refine e_iast dX12_reads_129 (ar_50 hn) (vp_lit (by decide) (by decide)) (md_r (m := md_X12_reads) (by decide)) ?_
          refine e_aload_n dX12_reads_130 rfl rfl ?_
          obtain ⟨Q7, hc8, h⟩ := h
          refine e_callV (M' := M_X12_blanks) (as := []) (rest := []) dX12_reads_131 ml_X12_167 mk_X12_blanks (ob_11 hn) rfl rfl rfl (Nat.le_of_ble_eq_true rfl) (show 0 < d by omega) hc8 (Md_le (b := md_X12_reads) (by decide)) (fun v σ9 hq hf => ?_)
          obtain ⟨rfl, hq⟩ := hq
          replace h := h σ9 hq hf
          refine e_goto (tgt := 61) dX12_reads_134 (by decide) ?_
          exact h
        · replace h := h.2 c6
          refine e_goto (tgt := 61) dX12_reads_116 (by decide) ?_
          exact h
      · replace h := h.2 c5
        refine e_aload_n dX12_reads_88 rfl rfl ?_
        refine e_sipush dX12_reads_89 cs_144 ?_
        refine e_aload_n dX12_reads_92 rfl rfl ?_
        refine e_getR (y := 50) dX12_reads_93 fl_X12_50 (ob_11 hn) rfl rfl ?_
        refine e_bipush dX12_reads_96 cb_9 ?_
        refine e_iald dX12_reads_98 (ar_50 hn) (vp_lit (by decide) (by decide)) ?_
        refine e_iadd dX12_reads_99 ?_
        obtain ⟨Q13, hc14, h⟩ := h
        refine e_callV (M' := M_X12_statement) (as := [.int (144 + (gI σ 50 9))]) (rest := []) dX12_reads_100 ml_X12_253 mk_X12_statement (ob_11 hn) rfl rfl rfl (Nat.le_of_ble_eq_true rfl) (show 0 < d by omega) hc14 (Md_le (b := md_X12_reads) (by decide)) (fun v σ15 hq hf => ?_)
        obtain ⟨v16, rfl, hq⟩ := hq
        replace h := h v16 σ15 hq hf
        refine e_if_eq (tgt := 110) dX12_reads_103 (by decide) (fun c19 => ?_) (fun c19 => ?_)
        · replace h := h.1 c19
          refine e_iconst dX12_reads_110 ci_0 ?_
          refine e_istore_n dX12_reads_111 rfl rfl (by decide) ?_
          refine e_iload_n dX12_reads_112 rfl rfl ?_
          refine e_if_ne (tgt := 119) dX12_reads_113 (by decide) (fun c20 => ?_) (fun c20 => ?_)
          · replace h := h.1 c20
            refine e_aload_n dX12_reads_119 rfl rfl ?_
            refine e_getR (y := 50) dX12_reads_120 fl_X12_50 (ob_11 hn) rfl rfl ?_
            refine e_bipush dX12_reads_123 cb_9 ?_
            refine e_dup2 dX12_reads_125 rfl rfl ?_
            refine e_iald dX12_reads_126 (ar_50 hn) (vp_lit (by decide) (by decide)) ?_
            refine e_iconst dX12_reads_127 ci_1 ?_
            refine e_iadd dX12_reads_128 ?_
            refine e_iast dX12_reads_129 (ar_50 hn) (vp_lit (by decide) (by decide)) (md_r (m := md_X12_reads) (by decide)) ?_
            refine e_aload_n dX12_reads_130 rfl rfl ?_
            obtain ⟨Q21, hc22, h⟩ := h
            refine e_callV (M' := M_X12_blanks) (as := []) (rest := []) dX12_reads_131 ml_X12_167 mk_X12_blanks (ob_11 hn) rfl rfl rfl (Nat.le_of_ble_eq_true rfl) (show 0 < d by omega) hc22 (Md_le (b := md_X12_reads) (by decide)) (fun v σ23 hq hf => ?_)
            obtain ⟨rfl, hq⟩ := hq
            replace h := h σ23 hq hf
            refine e_goto (tgt := 61) dX12_reads_134 (by decide) ?_
            exact h
          · replace h := h.2 c20
            refine e_goto (tgt := 61) dX12_reads_116 (by decide) ?_
            exact h
        · replace h := h.2 c19
          refine e_iconst dX12_reads_106 ci_1 ?_
          refine e_goto (tgt := 111) dX12_reads_107 (by decide) ?_
          refine e_istore_n dX12_reads_111 rfl rfl (by decide) ?_
          refine e_iload_n dX12_reads_112 rfl rfl ?_
          refine e_if_ne (tgt := 119) dX12_reads_113 (by decide) (fun c27 => ?_) (fun c27 => ?_)
          · replace h := h.1 c27
            refine e_aload_n dX12_reads_119 rfl rfl ?_
            refine e_getR (y := 50) dX12_reads_120 fl_X12_50 (ob_11 hn) rfl rfl ?_
            refine e_bipush dX12_reads_123 cb_9 ?_
            refine e_dup2 dX12_reads_125 rfl rfl ?_
            refine e_iald dX12_reads_126 (ar_50 hn) (vp_lit (by decide) (by decide)) ?_
            refine e_iconst dX12_reads_127 ci_1 ?_
            refine e_iadd dX12_reads_128 ?_
            refine e_iast dX12_reads_129 (ar_50 hn) (vp_lit (by decide) (by decide)) (md_r (m := md_X12_reads) (by decide)) ?_
            refine e_aload_n dX12_reads_130 rfl rfl ?_
            obtain ⟨Q28, hc29, h⟩ := h
            refine e_callV (M' := M_X12_blanks) (as := []) (rest := []) dX12_reads_131 ml_X12_167 mk_X12_blanks (ob_11 hn) rfl rfl rfl (Nat.le_of_ble_eq_true rfl) (show 0 < d by omega) hc29 (Md_le (b := md_X12_reads) (by decide)) (fun v σ30 hq hf => ?_)
            obtain ⟨rfl, hq⟩ := hq
            replace h := h σ30 hq hf
            refine e_goto (tgt := 61) dX12_reads_134 (by decide) ?_
            exact h
          · replace h := h.2 c27
            refine e_goto (tgt := 61) dX12_reads_116 (by decide) ?_
            exact h
theorem S_X12_reads {d n : Nat} {Q : Int32 → St → Prop} {σ : St} {a1 : Int32} (hn : FIX ≤ n) (hd : 1 ≤ d) (h : K_X12_reads_2 d n σ Q σ a1 0) : Cn d n M_X12_reads md_X12_reads [.ref 11, .int a1] σ (liI Q) := by
  refine Cn.of (k0 := 1) (by decide) rfl ?_
  show Ev (d, n, md_X12_reads, σ, liI Q) M_X12_reads 0 [some (.ref 11), some (.int a1), none] [] σ
  refine e_iconst dX12_reads_0 ci_0 ?_
  refine e_istore_n dX12_reads_1 rfl rfl (by decide) ?_
  exact h
abbrev K_X12_becomes_24 (d n : Nat) (σ0 : St) (Q : St → Prop) (σ : St) (x1 : Int32) (x2 : Int32) (x3 : Int32) : Prop := Ev (d, n, md_X12_becomes, σ0, liV Q) M_X12_becomes 24 [some (.ref 11), some (.int x1), some (.int x2), some (.int x3), none, none] [] σ
abbrev K_X12_becomes_121 (d n : Nat) (σ0 : St) (Q : St → Prop) (σ : St) (x2 : Int32) (x3 : Int32) : Prop := Ev (d, n, md_X12_becomes, σ0, liV Q) M_X12_becomes 121 [some (.ref 11), none, some (.int x2), some (.int x3), none, none] [] σ
theorem B_X12_becomes_24 {d n : Nat} {σ0 : St} {Q : St → Prop}  {σ : St} {x1 : Int32} {x2 : Int32} {x3 : Int32} (hn : FIX ≤ n) (h : vp_in x1 10 ∧ (((gI σ 50 x1.toNatClampNeg) ≤ x3 → K_X12_becomes_121 d n σ0 Q σ x2 4500) ∧ (¬ (gI σ 50 x1.toNatClampNeg) ≤ x3 → vp_in (144 + x3) 160 ∧ vp_in ((16 * x1) + x3) 160 ∧ vp_in (144 + x3) 160 ∧ vp_in ((16 * x1) + x3) 160 ∧ vp_in (144 + x3) 160 ∧ vp_in ((16 * x1) + x3) 160 ∧ vp_in (144 + x3) 160 ∧ vp_in ((16 * x1) + x3) 160 ∧ K_X12_becomes_24 d n σ0 Q (sI (sI (sI (sI σ 51 ((16 * x1) + x3).toNatClampNeg (gI σ 51 (144 + x3).toNatClampNeg)) 52 ((16 * x1) + x3).toNatClampNeg ((gI (sI σ 51 ((16 * x1) + x3).toNatClampNeg (gI σ 51 (144 + x3).toNatClampNeg)) 52 (144 + x3).toNatClampNeg) + x2)) 53 ((16 * x1) + x3).toNatClampNeg ((gI (sI (sI σ 51 ((16 * x1) + x3).toNatClampNeg (gI σ 51 (144 + x3).toNatClampNeg)) 52 ((16 * x1) + x3).toNatClampNeg ((gI (sI σ 51 ((16 * x1) + x3).toNatClampNeg (gI σ 51 (144 + x3).toNatClampNeg)) 52 (144 + x3).toNatClampNeg) + x2)) 53 (144 + x3).toNatClampNeg) + x2)) 54 ((16 * x1) + x3).toNatClampNeg ((gI (sI (sI (sI σ 51 ((16 * x1) + x3).toNatClampNeg (gI σ 51 (144 + x3).toNatClampNeg)) 52 ((16 * x1) + x3).toNatClampNeg ((gI (sI σ 51 ((16 * x1) + x3).toNatClampNeg (gI σ 51 (144 + x3).toNatClampNeg)) 52 (144 + x3).toNatClampNeg) + x2)) 53 ((16 * x1) + x3).toNatClampNeg ((gI (sI (sI σ 51 ((16 * x1) + x3).toNatClampNeg (gI σ 51 (144 + x3).toNatClampNeg)) 52 ((16 * x1) + x3).toNatClampNeg ((gI (sI σ 51 ((16 * x1) + x3).toNatClampNeg (gI σ 51 (144 + x3).toNatClampNeg)) 52 (144 + x3).toNatClampNeg) + x2)) 53 (144 + x3).toNatClampNeg) + x2)) 54 (144 + x3).toNatClampNeg) + x2)) x1 x2 (x3 + 1)))) : K_X12_becomes_24 d n σ0 Q σ x1 x2 x3 := by
  refine e_iload_n dX12_becomes_24 rfl rfl ?_
  refine e_aload_n dX12_becomes_25 rfl rfl ?_
  refine e_getR (y := 50) dX12_becomes_26 fl_X12_50 (ob_11 hn) rfl rfl ?_
  refine e_iload_n dX12_becomes_29 rfl rfl ?_
  refine e_iald dX12_becomes_30 (ar_50 hn) h.1 ?_
  replace h := h.2
  refine e_icmp_ge (tgt := 117) dX12_becomes_31 (by decide) (fun c1 => ?_) (fun c1 => ?_)
  · replace h := h.1 c1
    refine e_sipush dX12_becomes_117 cs_4500 ?_
    refine e_istore_n dX12_becomes_120 rfl rfl (by decide) ?_
    refine e_kill [true, false, true, true, false, false] ?_
    exact h
  · replace h := h.2 c1
    refine e_sipush dX12_becomes_34 cs_144 ?_
    refine e_iload_n dX12_becomes_37 rfl rfl ?_
    refine e_iadd dX12_becomes_38 ?_
    refine e_istore dX12_becomes_39 rfl (by decide) ?_
    refine e_bipush dX12_becomes_41 cb_16 ?_
    refine e_iload_n dX12_becomes_43 rfl rfl ?_
    refine e_imul dX12_becomes_44 ?_
    refine e_iload_n dX12_becomes_45 rfl rfl ?_
    refine e_iadd dX12_becomes_46 ?_
    refine e_istore dX12_becomes_47 rfl (by decide) ?_
    refine e_aload_n dX12_becomes_49 rfl rfl ?_
    refine e_getR (y := 51) dX12_becomes_50 fl_X12_53 (ob_11 hn) rfl rfl ?_
    refine e_iload dX12_becomes_53 rfl ?_
    refine e_aload_n dX12_becomes_55 rfl rfl ?_
    refine e_getR (y := 51) dX12_becomes_56 fl_X12_53 (ob_11 hn) rfl rfl ?_
    refine e_iload dX12_becomes_59 rfl ?_
    refine e_iald dX12_becomes_61 (ar_51 hn) h.1 ?_
    replace h := h.2
    refine e_iast dX12_becomes_62 (ar_51 hn) h.1 (md_r (m := md_X12_becomes) (by decide)) ?_
    replace h := h.2
    refine e_aload_n dX12_becomes_63 rfl rfl ?_
    refine e_getR (y := 52) dX12_becomes_64 fl_X12_56 (ob_11 hn) rfl rfl ?_
    refine e_iload dX12_becomes_67 rfl ?_
    refine e_aload_n dX12_becomes_69 rfl rfl ?_
    refine e_getR (y := 52) dX12_becomes_70 fl_X12_56 (ob_11 hn) rfl rfl ?_
    refine e_iload dX12_becomes_73 rfl ?_
    refine e_iald dX12_becomes_75 (ar_52 hn) h.1 ?_
    replace h := h.2
    refine e_iload_n dX12_becomes_76 rfl rfl ?_
    refine e_iadd dX12_becomes_77 ?_
    refine e_iast dX12_becomes_78 (ar_52 hn) h.1 (md_r (m := md_X12_becomes) (by decide)) ?_
    replace h := h.2
    refine e_aload_n dX12_becomes_79 rfl rfl ?_
    refine e_getR (y := 53) dX12_becomes_80 fl_X12_59 (ob_11 hn) rfl rfl ?_
    refine e_iload dX12_becomes_83 rfl ?_
    refine e_aload_n dX12_becomes_85 rfl rfl ?_
    refine e_getR (y := 53) dX12_becomes_86 fl_X12_59 (ob_11 hn) rfl rfl ?_
    refine e_iload dX12_becomes_89 rfl ?_
    refine e_iald dX12_becomes_91 (ar_53 hn) h.1 ?_
    replace h := h.2
    refine e_iload_n dX12_becomes_92 rfl rfl ?_
    refine e_iadd dX12_becomes_93 ?_
    refine e_iast dX12_becomes_94 (ar_53 hn) h.1 (md_r (m := md_X12_becomes) (by decide)) ?_
    replace h := h.2
    refine e_aload_n dX12_becomes_95 rfl rfl ?_
    refine e_getR (y := 54) dX12_becomes_96 fl_X12_62 (ob_11 hn) rfl rfl ?_
    refine e_iload dX12_becomes_99 rfl ?_
    refine e_aload_n dX12_becomes_101 rfl rfl ?_
    refine e_getR (y := 54) dX12_becomes_102 fl_X12_62 (ob_11 hn) rfl rfl ?_
    refine e_iload dX12_becomes_105 rfl ?_
    refine e_iald dX12_becomes_107 (ar_54 hn) h.1 ?_
    replace h := h.2
    refine e_iload_n dX12_becomes_108 rfl rfl ?_
    refine e_iadd dX12_becomes_109 ?_
    refine e_iast dX12_becomes_110 (ar_54 hn) h.1 (md_r (m := md_X12_becomes) (by decide)) ?_
    replace h := h.2
    refine e_iinc dX12_becomes_111 rfl (ii_1 _) rfl (by decide) ?_
    refine e_goto (tgt := 24) dX12_becomes_114 (by decide) ?_
    refine e_kill [true, true, true, true, false, false] ?_
    exact h
theorem B_X12_becomes_121 {d n : Nat} {σ0 : St} {Q : St → Prop}  {σ : St} {x2 : Int32} {x3 : Int32} (hn : FIX ≤ n) (h : (((gI σ 11 18) ≤ x3 → Q (sI σ 11 20 ((gI σ 11 20) + 1))) ∧ (¬ (gI σ 11 18) ≤ x3 → vp_in x3 5000 ∧ vp_in (x3 + x2) 5000 ∧ vp_in x3 5000 ∧ vp_in (x3 + x2) 5000 ∧ K_X12_becomes_121 d n σ0 Q (sI (sI σ 55 (x3 + x2).toNatClampNeg (gI σ 55 x3.toNatClampNeg)) 56 (x3 + x2).toNatClampNeg (gI (sI σ 55 (x3 + x2).toNatClampNeg (gI σ 55 x3.toNatClampNeg)) 56 x3.toNatClampNeg)) x2 (x3 + 1)))) : K_X12_becomes_121 d n σ0 Q σ x2 x3 := by
  refine e_iload_n dX12_becomes_121 rfl rfl ?_
  refine e_aload_n dX12_becomes_122 rfl rfl ?_
  refine e_getI dX12_becomes_123 fl_X12_192 (ob_11 hn) rfl ?_
  refine e_icmp_ge (tgt := 163) dX12_becomes_126 (by decide) (fun c1 => ?_) (fun c1 => ?_)
  · replace h := h.1 c1
    refine e_aload_n dX12_becomes_163 rfl rfl ?_
    refine e_dup dX12_becomes_164 rfl ?_
    refine e_getI dX12_becomes_165 fl_X12_47 (ob_11 hn) rfl ?_
    refine e_iconst dX12_becomes_168 ci_1 ?_
    refine e_iadd dX12_becomes_169 ?_
    refine e_putI dX12_becomes_170 fl_X12_47 (ob_11 hn) rfl (fpI_12_20 _) (md_c (m := md_X12_becomes) (by decide)) ?_
    exact e_vret dX12_becomes_173 rfl ⟨rfl, h⟩
  · replace h := h.2 c1
    refine e_aload_n dX12_becomes_129 rfl rfl ?_
    refine e_getR (y := 55) dX12_becomes_130 fl_X12_65 (ob_11 hn) rfl rfl ?_
    refine e_iload_n dX12_becomes_133 rfl rfl ?_
    refine e_iload_n dX12_becomes_134 rfl rfl ?_
    refine e_iadd dX12_becomes_135 ?_
    refine e_aload_n dX12_becomes_136 rfl rfl ?_
    refine e_getR (y := 55) dX12_becomes_137 fl_X12_65 (ob_11 hn) rfl rfl ?_
    refine e_iload_n dX12_becomes_140 rfl rfl ?_
    refine e_iald dX12_becomes_141 (ar_55 hn) h.1 ?_
    replace h := h.2
    refine e_iast dX12_becomes_142 (ar_55 hn) h.1 (md_r (m := md_X12_becomes) (by decide)) ?_
    replace h := h.2
    refine e_aload_n dX12_becomes_143 rfl rfl ?_
    refine e_getR (y := 56) dX12_becomes_144 fl_X12_68 (ob_11 hn) rfl rfl ?_
    refine e_iload_n dX12_becomes_147 rfl rfl ?_
    refine e_iload_n dX12_becomes_148 rfl rfl ?_
    refine e_iadd dX12_becomes_149 ?_
    refine e_aload_n dX12_becomes_150 rfl rfl ?_
    refine e_getR (y := 56) dX12_becomes_151 fl_X12_68 (ob_11 hn) rfl rfl ?_
    refine e_iload_n dX12_becomes_154 rfl rfl ?_
    refine e_iald dX12_becomes_155 (ar_56 hn) h.1 ?_
    replace h := h.2
    refine e_iast dX12_becomes_156 (ar_56 hn) h.1 (md_r (m := md_X12_becomes) (by decide)) ?_
    replace h := h.2
    refine e_iinc dX12_becomes_157 rfl (ii_1 _) rfl (by decide) ?_
    refine e_goto (tgt := 121) dX12_becomes_160 (by decide) ?_
    exact h
theorem S_X12_becomes {d n : Nat} {Q : St → Prop} {σ : St} {a1 : Int32} (hn : FIX ≤ n) (h : vp_in a1 10 ∧ K_X12_becomes_24 d n σ Q (sI σ 50 a1.toNatClampNeg (gI σ 50 9)) a1 (500 * (a1 - 9)) 0) : Cn d n M_X12_becomes md_X12_becomes [.ref 11, .int a1] σ (liV Q) := by
  refine Cn.of (k0 := 4) (by decide) rfl ?_
  show Ev (d, n, md_X12_becomes, σ, liV Q) M_X12_becomes 0 [some (.ref 11), some (.int a1), none, none, none, none] [] σ
  refine e_sipush dX12_becomes_0 cs_500 ?_
  refine e_iload_n dX12_becomes_3 rfl rfl ?_
  refine e_bipush dX12_becomes_4 cb_9 ?_
  refine e_isub dX12_becomes_6 ?_
  refine e_imul dX12_becomes_7 ?_
  refine e_istore_n dX12_becomes_8 rfl rfl (by decide) ?_
  refine e_aload_n dX12_becomes_9 rfl rfl ?_
  refine e_getR (y := 50) dX12_becomes_10 fl_X12_50 (ob_11 hn) rfl rfl ?_
  refine e_iload_n dX12_becomes_13 rfl rfl ?_
  refine e_aload_n dX12_becomes_14 rfl rfl ?_
  refine e_getR (y := 50) dX12_becomes_15 fl_X12_50 (ob_11 hn) rfl rfl ?_
  refine e_bipush dX12_becomes_18 cb_9 ?_
  refine e_iald dX12_becomes_20 (ar_50 hn) (vp_lit (by decide) (by decide)) ?_
  refine e_iast dX12_becomes_21 (ar_50 hn) h.1 (md_r (m := md_X12_becomes) (by decide)) ?_
  replace h := h.2
  refine e_iconst dX12_becomes_22 ci_0 ?_
  refine e_istore_n dX12_becomes_23 rfl rfl (by decide) ?_
  exact h
theorem S_X12_wish {d n : Nat} {Q : Int32 → St → Prop} {σ : St} {a1 : Int32} {a2 : Int32} (hn : FIX ≤ n) (hd : 2 ≤ d) (h : (((fn_X12_isPerson σ a1) = 0 → Q (-2) σ) ∧ (¬ (fn_X12_isPerson σ a1) = 0 → (((fn_X12_isIn a2 0 (gI σ 11 14)) ≠ 0 → ∃ Q3 : Int32 → St → Prop, Cn (d - 1) n M_X12_reads md_X12_reads [.ref 11, .int a2] σ (liI Q3) ∧ ∀ (v6 : Int32) (σ5 : St), Q3 v6 σ5 → Fr md_X12_reads σ σ5 → ((v6 ≠ 0 → ∃ Q10 : St → Prop, Cn (d - 1) n M_X12_becomes md_X12_becomes [.ref 11, .int a1] σ5 (liV Q10) ∧ ∀ (σ12 : St), Q10 σ12 → Fr md_X12_becomes σ5 σ12 → vp_in a1 10 ∧ Q (gI σ12 50 a1.toNatClampNeg) σ12) ∧ (v6 = 0 → Q (-1) σ5))) ∧ ((fn_X12_isIn a2 0 (gI σ 11 14)) = 0 → Q (-2) σ))))) : Cn d n M_X12_wish md_X12_wish [.ref 11, .int a1, .int a2] σ (liI Q) := by
  refine Cn.of (k0 := 0) (by decide) rfl ?_
  show Ev (d, n, md_X12_wish, σ, liI Q) M_X12_wish 0 [some (.ref 11), some (.int a1), some (.int a2)] [] σ
  refine e_aload_n dX12_wish_0 rfl rfl ?_
  refine e_iload_n dX12_wish_1 rfl rfl ?_
  refine e_callV (M' := M_X12_isPerson) (as := [.int a1]) (rest := []) dX12_wish_2 ml_X12_151 mk_X12_isPerson (ob_11 hn) rfl rfl rfl (Nat.le_of_ble_eq_true rfl) (show 0 < d by omega) (sp_X12_isPerson hn (show 1 ≤ d - 1 by omega)) Md_nil (fun v σv hq hf => ?_)
  obtain ⟨v, rfl, rfl, rfl⟩ := hq
  refine e_if_eq (tgt := 20) dX12_wish_5 (by decide) (fun c1 => ?_) (fun c1 => ?_)
  · replace h := h.1 c1
    refine e_bipush dX12_wish_20 cb_m2 ?_
    exact e_iret dX12_wish_22 rfl ⟨_, rfl, h⟩
  · replace h := h.2 c1
    refine e_iload_n dX12_wish_8 rfl rfl ?_
    refine e_iconst dX12_wish_9 ci_0 ?_
    refine e_aload_n dX12_wish_10 rfl rfl ?_
    refine e_getI dX12_wish_11 fl_X12_154 (ob_11 hn) rfl ?_
    refine e_callS (M' := M_X12_isIn) (as := [.int a2, .int 0, .int (gI σ 11 14)]) (rest := []) dX12_wish_14 ml_X12_134 mk_X12_isIn rfl (Nat.le_of_ble_eq_true rfl) (show 0 < d by omega) (sp_X12_isIn) Md_nil (fun v σv hq hf => ?_)
    obtain ⟨v, rfl, rfl, rfl⟩ := hq
    refine e_if_ne (tgt := 23) dX12_wish_17 (by decide) (fun c2 => ?_) (fun c2 => ?_)
    · replace h := h.1 c2
      refine e_aload_n dX12_wish_23 rfl rfl ?_
      refine e_iload_n dX12_wish_24 rfl rfl ?_
      obtain ⟨Q3, hc4, h⟩ := h
      refine e_callV (M' := M_X12_reads) (as := [.int a2]) (rest := []) dX12_wish_25 ml_X12_256 mk_X12_reads (ob_11 hn) rfl rfl rfl (Nat.le_of_ble_eq_true rfl) (show 0 < d by omega) hc4 (Md_le (b := md_X12_wish) (by decide)) (fun v σ5 hq hf => ?_)
      obtain ⟨v6, rfl, hq⟩ := hq
      replace h := h v6 σ5 hq hf
      refine e_if_ne (tgt := 33) dX12_wish_28 (by decide) (fun c9 => ?_) (fun c9 => ?_)
      · replace h := h.1 c9
        refine e_aload_n dX12_wish_33 rfl rfl ?_
        refine e_iload_n dX12_wish_34 rfl rfl ?_
        obtain ⟨Q10, hc11, h⟩ := h
        refine e_callV (M' := M_X12_becomes) (as := [.int a1]) (rest := []) dX12_wish_35 ml_X12_259 mk_X12_becomes (ob_11 hn) rfl rfl rfl (Nat.le_of_ble_eq_true rfl) (show 0 < d by omega) hc11 (Md_le (b := md_X12_wish) (by decide)) (fun v σ12 hq hf => ?_)
        obtain ⟨rfl, hq⟩ := hq
        replace h := h σ12 hq hf
        refine e_aload_n dX12_wish_38 rfl rfl ?_
        refine e_getR (y := 50) dX12_wish_39 fl_X12_50 (ob_11 hn) rfl rfl ?_
        refine e_iload_n dX12_wish_42 rfl rfl ?_
        refine e_iald dX12_wish_43 (ar_50 hn) h.1 ?_
        replace h := h.2
        exact e_iret dX12_wish_44 rfl ⟨_, rfl, h⟩
      · replace h := h.2 c9
        refine e_iconst dX12_wish_31 ci_m1 ?_
        exact e_iret dX12_wish_32 rfl ⟨_, rfl, h⟩
    · replace h := h.2 c2
      refine e_bipush dX12_wish_20 cb_m2 ?_
      exact e_iret dX12_wish_22 rfl ⟨_, rfl, h⟩
theorem S_X12_falsely {d n : Nat} {Q : Int32 → St → Prop} {σ : St} {a1 : Int32} (hn : FIX ≤ n) (hd : 1 ≤ d) (h : (((fn_X12_isIn a1 0 (gI σ 11 14)) ≠ 0 → ∃ Q2 : Int32 → St → Prop, Cn (d - 1) n M_X12_reads md_X12_reads [.ref 11, .int a1] σ (liI Q2) ∧ ∀ (v5 : Int32) (σ4 : St), Q2 v5 σ4 → Fr md_X12_reads σ σ4 → ((v5 ≠ 0 → ∃ Q9 : St → Prop, Cn (d - 1) n M_X12_becomes md_X12_becomes [.ref 11, .int 8] σ4 (liV Q9) ∧ ∀ (σ11 : St), Q9 σ11 → Fr md_X12_becomes σ4 σ11 → Q (gI (sI σ11 11 21 1) 50 8) (sI σ11 11 21 1)) ∧ (v5 = 0 → Q (-1) σ4))) ∧ ((fn_X12_isIn a1 0 (gI σ 11 14)) = 0 → Q (-2) σ))) : Cn d n M_X12_falsely md_X12_falsely [.ref 11, .int a1] σ (liI Q) := by
  refine Cn.of (k0 := 0) (by decide) rfl ?_
  show Ev (d, n, md_X12_falsely, σ, liI Q) M_X12_falsely 0 [some (.ref 11), some (.int a1)] [] σ
  refine e_iload_n dX12_falsely_0 rfl rfl ?_
  refine e_iconst dX12_falsely_1 ci_0 ?_
  refine e_aload_n dX12_falsely_2 rfl rfl ?_
  refine e_getI dX12_falsely_3 fl_X12_154 (ob_11 hn) rfl ?_
  refine e_callS (M' := M_X12_isIn) (as := [.int a1, .int 0, .int (gI σ 11 14)]) (rest := []) dX12_falsely_6 ml_X12_134 mk_X12_isIn rfl (Nat.le_of_ble_eq_true rfl) (show 0 < d by omega) (sp_X12_isIn) Md_nil (fun v σv hq hf => ?_)
  obtain ⟨v, rfl, rfl, rfl⟩ := hq
  refine e_if_ne (tgt := 15) dX12_falsely_9 (by decide) (fun c1 => ?_) (fun c1 => ?_)
  · replace h := h.1 c1
    refine e_aload_n dX12_falsely_15 rfl rfl ?_
    refine e_iload_n dX12_falsely_16 rfl rfl ?_
    obtain ⟨Q2, hc3, h⟩ := h
    refine e_callV (M' := M_X12_reads) (as := [.int a1]) (rest := []) dX12_falsely_17 ml_X12_256 mk_X12_reads (ob_11 hn) rfl rfl rfl (Nat.le_of_ble_eq_true rfl) (show 0 < d by omega) hc3 (Md_le (b := md_X12_falsely) (by decide)) (fun v σ4 hq hf => ?_)
    obtain ⟨v5, rfl, hq⟩ := hq
    replace h := h v5 σ4 hq hf
    refine e_if_ne (tgt := 25) dX12_falsely_20 (by decide) (fun c8 => ?_) (fun c8 => ?_)
    · replace h := h.1 c8
      refine e_aload_n dX12_falsely_25 rfl rfl ?_
      refine e_bipush dX12_falsely_26 cb_8 ?_
      obtain ⟨Q9, hc10, h⟩ := h
      refine e_callV (M' := M_X12_becomes) (as := [.int 8]) (rest := []) dX12_falsely_28 ml_X12_259 mk_X12_becomes (ob_11 hn) rfl rfl rfl (Nat.le_of_ble_eq_true rfl) (show 0 < d by omega) hc10 (Md_le (b := md_X12_falsely) (by decide)) (fun v σ11 hq hf => ?_)
      obtain ⟨rfl, hq⟩ := hq
      replace h := h σ11 hq hf
      refine e_aload_n dX12_falsely_31 rfl rfl ?_
      refine e_iconst dX12_falsely_32 ci_1 ?_
      refine e_putI dX12_falsely_33 fl_X12_262 (ob_11 hn) rfl (fpZ_12_21 (Or.inr rfl)) (md_c (m := md_X12_falsely) (by decide)) ?_
      refine e_aload_n dX12_falsely_36 rfl rfl ?_
      refine e_getR (y := 50) dX12_falsely_37 fl_X12_50 (ob_11 hn) rfl rfl ?_
      refine e_bipush dX12_falsely_40 cb_8 ?_
      refine e_iald dX12_falsely_42 (ar_50 hn) (vp_lit (by decide) (by decide)) ?_
      exact e_iret dX12_falsely_43 rfl ⟨_, rfl, h⟩
    · replace h := h.2 c8
      refine e_iconst dX12_falsely_23 ci_m1 ?_
      exact e_iret dX12_falsely_24 rfl ⟨_, rfl, h⟩
  · replace h := h.2 c1
    refine e_bipush dX12_falsely_12 cb_m2 ?_
    exact e_iret dX12_falsely_14 rfl ⟨_, rfl, h⟩
theorem S_X12_both {d n : Nat} {Q : Int64 → St → Prop} {σ : St} {a1 : Int32} {a2 : Int64} {a3 : Int64} (hd : 2 ≤ d) (h : ((a1.toInt = 3 → Q (fn_X12_held (a2 + a3)) σ) ∧ (a1.toInt = 4 → Q (fn_X12_held (a2 - a3)) σ) ∧ (a1.toInt = 5 → Q (fn_X12_held (a2 * a3)) σ) ∧ (a1.toInt = 6 → (((lg_cmp a3 0) ≠ 0 → (¬ a3 = 0) ∧ Q (a2 / a3) σ) ∧ ((lg_cmp a3 0) = 0 → Q 0 σ))) ∧ (a1.toInt = 7 → (((0 : Int32) ≤ (lg_cmp a2 a3) → Q (fn_X12_bit 0) σ) ∧ (¬ (0 : Int32) ≤ (lg_cmp a2 a3) → Q (fn_X12_bit 1) σ))) ∧ (a1.toInt = 8 → (((lg_cmp a2 a3) ≤ 0 → Q (fn_X12_bit 0) σ) ∧ (¬ (lg_cmp a2 a3) ≤ 0 → Q (fn_X12_bit 1) σ))) ∧ (a1.toInt = 9 → (((lg_cmp a2 a3) ≠ 0 → Q (fn_X12_bit 0) σ) ∧ ((lg_cmp a2 a3) = 0 → Q (fn_X12_bit 1) σ))) ∧ (a1.toInt = 10 → (((lg_cmp (a2 + a3) 0) ≤ 0 → Q (fn_X12_bit 0) σ) ∧ (¬ (lg_cmp (a2 + a3) 0) ≤ 0 → Q (fn_X12_bit 1) σ))) ∧ (a1.toInt < 3 ∨ 10 < a1.toInt → (((lg_cmp (a2 + a3) 2) ≠ 0 → Q (fn_X12_bit 0) σ) ∧ ((lg_cmp (a2 + a3) 2) = 0 → Q (fn_X12_bit 1) σ))))) : Cn d n M_X12_both md_X12_both [.int a1, .long a2, .long a3] σ (liL Q) := by
  refine Cn.of (k0 := 0) (by decide) rfl ?_
  show Ev (d, n, md_X12_both, σ, liL Q) M_X12_both 0 [some (.int a1), some (.long a2), none, some (.long a3), none] [] σ
  refine e_iload_n dX12_both_0 rfl rfl ?_
  by_cases c1 : a1.toInt < 3 ∨ 10 < a1.toInt
  · refine e_tableOut (tgt := 145) dX12_both_1 c1 (by decide) ?_
    replace h := h.2.2.2.2.2.2.2.2 c1
    refine e_lload_n dX12_both_145 rfl rfl ?_
    refine e_lload_n dX12_both_146 rfl rfl ?_
    refine e_ladd dX12_both_147 ?_
    refine e_ldc2 dX12_both_148 ck_X12_287 ?_
    refine e_lcmp dX12_both_151 ?_
    refine e_if_ne (tgt := 159) dX12_both_152 (by decide) (fun c2 => ?_) (fun c2 => ?_)
    · replace h := h.1 c2
      refine e_iconst dX12_both_159 ci_0 ?_
      refine e_callS (M' := M_X12_bit) (as := [.int 0]) (rest := []) dX12_both_160 ml_X12_283 mk_X12_bit rfl (Nat.le_of_ble_eq_true rfl) (show 0 < d by omega) (sp_X12_bit) Md_nil (fun v σv hq hf => ?_)
      obtain ⟨v, rfl, rfl, rfl⟩ := hq
      exact e_lret dX12_both_163 rfl ⟨_, rfl, h⟩
    · replace h := h.2 c2
      refine e_iconst dX12_both_155 ci_1 ?_
      refine e_goto (tgt := 160) dX12_both_156 (by decide) ?_
      refine e_callS (M' := M_X12_bit) (as := [.int 1]) (rest := []) dX12_both_160 ml_X12_283 mk_X12_bit rfl (Nat.le_of_ble_eq_true rfl) (show 0 < d by omega) (sp_X12_bit) Md_nil (fun v σv hq hf => ?_)
      obtain ⟨v, rfl, rfl, rfl⟩ := hq
      exact e_lret dX12_both_163 rfl ⟨_, rfl, h⟩
  · rcases (show a1.toInt = 3 ∨ a1.toInt = 4 ∨ a1.toInt = 5 ∨ a1.toInt = 6 ∨ a1.toInt = 7 ∨ a1.toInt = 8 ∨ a1.toInt = 9 ∨ a1.toInt = 10 by omega) with c1 | c1 | c1 | c1 | c1 | c1 | c1 | c1
    · refine e_tableIn (tgt := 48) (off := 47) dX12_both_1 (by omega) (by omega) (by rw [c1]; rfl) (by decide) ?_
      replace h := h.1 c1
      refine e_lload_n dX12_both_48 rfl rfl ?_
      refine e_lload_n dX12_both_49 rfl rfl ?_
      refine e_ladd dX12_both_50 ?_
      refine e_callS (M' := M_X12_held) (as := [.long (a2 + a3)]) (rest := []) dX12_both_51 ml_X12_279 mk_X12_held rfl (Nat.le_of_ble_eq_true rfl) (show 0 < d by omega) (sp_X12_held (show 1 ≤ d - 1 by omega)) Md_nil (fun v σv hq hf => ?_)
      obtain ⟨v, rfl, rfl, rfl⟩ := hq
      exact e_lret dX12_both_54 rfl ⟨_, rfl, h⟩
    · refine e_tableIn (tgt := 55) (off := 54) dX12_both_1 (by omega) (by omega) (by rw [c1]; rfl) (by decide) ?_
      replace h := h.2.1 c1
      refine e_lload_n dX12_both_55 rfl rfl ?_
      refine e_lload_n dX12_both_56 rfl rfl ?_
      refine e_lsub dX12_both_57 ?_
      refine e_callS (M' := M_X12_held) (as := [.long (a2 - a3)]) (rest := []) dX12_both_58 ml_X12_279 mk_X12_held rfl (Nat.le_of_ble_eq_true rfl) (show 0 < d by omega) (sp_X12_held (show 1 ≤ d - 1 by omega)) Md_nil (fun v σv hq hf => ?_)
      obtain ⟨v, rfl, rfl, rfl⟩ := hq
      exact e_lret dX12_both_61 rfl ⟨_, rfl, h⟩
    · refine e_tableIn (tgt := 62) (off := 61) dX12_both_1 (by omega) (by omega) (by rw [c1]; rfl) (by decide) ?_
      replace h := h.2.2.1 c1
      refine e_lload_n dX12_both_62 rfl rfl ?_
      refine e_lload_n dX12_both_63 rfl rfl ?_
      refine e_lmul dX12_both_64 ?_
      refine e_callS (M' := M_X12_held) (as := [.long (a2 * a3)]) (rest := []) dX12_both_65 ml_X12_279 mk_X12_held rfl (Nat.le_of_ble_eq_true rfl) (show 0 < d by omega) (sp_X12_held (show 1 ≤ d - 1 by omega)) Md_nil (fun v σv hq hf => ?_)
      obtain ⟨v, rfl, rfl, rfl⟩ := hq
      exact e_lret dX12_both_68 rfl ⟨_, rfl, h⟩
    · refine e_tableIn (tgt := 69) (off := 68) dX12_both_1 (by omega) (by omega) (by rw [c1]; rfl) (by decide) ?_
      replace h := h.2.2.2.1 c1
      refine e_lload_n dX12_both_69 rfl rfl ?_
      refine e_lconst dX12_both_70 (v := 0) rfl ?_
      refine e_lcmp dX12_both_71 ?_
      refine e_if_ne (tgt := 79) dX12_both_72 (by decide) (fun c3 => ?_) (fun c3 => ?_)
      · replace h := h.1 c3
        refine e_lload_n dX12_both_79 rfl rfl ?_
        refine e_lload_n dX12_both_80 rfl rfl ?_
        refine e_ldiv dX12_both_81 h.1 ?_
        replace h := h.2
        exact e_lret dX12_both_82 rfl ⟨_, rfl, h⟩
      · replace h := h.2 c3
        refine e_lconst dX12_both_75 (v := 0) rfl ?_
        refine e_goto (tgt := 82) dX12_both_76 (by decide) ?_
        exact e_lret dX12_both_82 rfl ⟨_, rfl, h⟩
    · refine e_tableIn (tgt := 83) (off := 82) dX12_both_1 (by omega) (by omega) (by rw [c1]; rfl) (by decide) ?_
      replace h := h.2.2.2.2.1 c1
      refine e_lload_n dX12_both_83 rfl rfl ?_
      refine e_lload_n dX12_both_84 rfl rfl ?_
      refine e_lcmp dX12_both_85 ?_
      refine e_if_ge (tgt := 93) dX12_both_86 (by decide) (fun c4 => ?_) (fun c4 => ?_)
      · replace h := h.1 c4
        refine e_iconst dX12_both_93 ci_0 ?_
        refine e_callS (M' := M_X12_bit) (as := [.int 0]) (rest := []) dX12_both_94 ml_X12_283 mk_X12_bit rfl (Nat.le_of_ble_eq_true rfl) (show 0 < d by omega) (sp_X12_bit) Md_nil (fun v σv hq hf => ?_)
        obtain ⟨v, rfl, rfl, rfl⟩ := hq
        exact e_lret dX12_both_97 rfl ⟨_, rfl, h⟩
      · replace h := h.2 c4
        refine e_iconst dX12_both_89 ci_1 ?_
        refine e_goto (tgt := 94) dX12_both_90 (by decide) ?_
        refine e_callS (M' := M_X12_bit) (as := [.int 1]) (rest := []) dX12_both_94 ml_X12_283 mk_X12_bit rfl (Nat.le_of_ble_eq_true rfl) (show 0 < d by omega) (sp_X12_bit) Md_nil (fun v σv hq hf => ?_)
        obtain ⟨v, rfl, rfl, rfl⟩ := hq
        exact e_lret dX12_both_97 rfl ⟨_, rfl, h⟩
    · refine e_tableIn (tgt := 98) (off := 97) dX12_both_1 (by omega) (by omega) (by rw [c1]; rfl) (by decide) ?_
      replace h := h.2.2.2.2.2.1 c1
      refine e_lload_n dX12_both_98 rfl rfl ?_
      refine e_lload_n dX12_both_99 rfl rfl ?_
      refine e_lcmp dX12_both_100 ?_
      refine e_if_le (tgt := 108) dX12_both_101 (by decide) (fun c5 => ?_) (fun c5 => ?_)
      · replace h := h.1 c5
        refine e_iconst dX12_both_108 ci_0 ?_
        refine e_callS (M' := M_X12_bit) (as := [.int 0]) (rest := []) dX12_both_109 ml_X12_283 mk_X12_bit rfl (Nat.le_of_ble_eq_true rfl) (show 0 < d by omega) (sp_X12_bit) Md_nil (fun v σv hq hf => ?_)
        obtain ⟨v, rfl, rfl, rfl⟩ := hq
        exact e_lret dX12_both_112 rfl ⟨_, rfl, h⟩
      · replace h := h.2 c5
        refine e_iconst dX12_both_104 ci_1 ?_
        refine e_goto (tgt := 109) dX12_both_105 (by decide) ?_
        refine e_callS (M' := M_X12_bit) (as := [.int 1]) (rest := []) dX12_both_109 ml_X12_283 mk_X12_bit rfl (Nat.le_of_ble_eq_true rfl) (show 0 < d by omega) (sp_X12_bit) Md_nil (fun v σv hq hf => ?_)
        obtain ⟨v, rfl, rfl, rfl⟩ := hq
        exact e_lret dX12_both_112 rfl ⟨_, rfl, h⟩
    · refine e_tableIn (tgt := 113) (off := 112) dX12_both_1 (by omega) (by omega) (by rw [c1]; rfl) (by decide) ?_
      replace h := h.2.2.2.2.2.2.1 c1
      refine e_lload_n dX12_both_113 rfl rfl ?_
      refine e_lload_n dX12_both_114 rfl rfl ?_
      refine e_lcmp dX12_both_115 ?_
      refine e_if_ne (tgt := 123) dX12_both_116 (by decide) (fun c6 => ?_) (fun c6 => ?_)
      · replace h := h.1 c6
        refine e_iconst dX12_both_123 ci_0 ?_
        refine e_callS (M' := M_X12_bit) (as := [.int 0]) (rest := []) dX12_both_124 ml_X12_283 mk_X12_bit rfl (Nat.le_of_ble_eq_true rfl) (show 0 < d by omega) (sp_X12_bit) Md_nil (fun v σv hq hf => ?_)
        obtain ⟨v, rfl, rfl, rfl⟩ := hq
        exact e_lret dX12_both_127 rfl ⟨_, rfl, h⟩
      · replace h := h.2 c6
        refine e_iconst dX12_both_119 ci_1 ?_
        refine e_goto (tgt := 124) dX12_both_120 (by decide) ?_
        refine e_callS (M' := M_X12_bit) (as := [.int 1]) (rest := []) dX12_both_124 ml_X12_283 mk_X12_bit rfl (Nat.le_of_ble_eq_true rfl) (show 0 < d by omega) (sp_X12_bit) Md_nil (fun v σv hq hf => ?_)
        obtain ⟨v, rfl, rfl, rfl⟩ := hq
        exact e_lret dX12_both_127 rfl ⟨_, rfl, h⟩
    · refine e_tableIn (tgt := 128) (off := 127) dX12_both_1 (by omega) (by omega) (by rw [c1]; rfl) (by decide) ?_
      replace h := h.2.2.2.2.2.2.2.1 c1
      refine e_lload_n dX12_both_128 rfl rfl ?_
      refine e_lload_n dX12_both_129 rfl rfl ?_
      refine e_ladd dX12_both_130 ?_
      refine e_lconst dX12_both_131 (v := 0) rfl ?_
      refine e_lcmp dX12_both_132 ?_
      refine e_if_le (tgt := 140) dX12_both_133 (by decide) (fun c7 => ?_) (fun c7 => ?_)
      · replace h := h.1 c7
        refine e_iconst dX12_both_140 ci_0 ?_
        refine e_callS (M' := M_X12_bit) (as := [.int 0]) (rest := []) dX12_both_141 ml_X12_283 mk_X12_bit rfl (Nat.le_of_ble_eq_true rfl) (show 0 < d by omega) (sp_X12_bit) Md_nil (fun v σv hq hf => ?_)
        obtain ⟨v, rfl, rfl, rfl⟩ := hq
        exact e_lret dX12_both_144 rfl ⟨_, rfl, h⟩
      · replace h := h.2 c7
        refine e_iconst dX12_both_136 ci_1 ?_
        refine e_goto (tgt := 141) dX12_both_137 (by decide) ?_
        refine e_callS (M' := M_X12_bit) (as := [.int 1]) (rest := []) dX12_both_141 ml_X12_283 mk_X12_bit rfl (Nat.le_of_ble_eq_true rfl) (show 0 < d by omega) (sp_X12_bit) Md_nil (fun v σv hq hf => ?_)
        obtain ⟨v, rfl, rfl, rfl⟩ := hq
        exact e_lret dX12_both_144 rfl ⟨_, rfl, h⟩
abbrev K_X12_runs_6 (d n : Nat) (σ0 : St) (Q : Int64 → St → Prop) (σ : St) (x2 : Int32) (x3 : Int32) (x4 : Int32) (x5 : Int32) : Prop := Ev (d, n, md_X12_runs, σ0, liL Q) M_X12_runs 6 [some (.ref 11), none, some (.int x2), some (.int x3), some (.int x4), some (.int x5), none] [] σ
theorem B_X12_runs_6 {d n : Nat} {σ0 : St} {Q : Int64 → St → Prop}  {σ : St} {x2 : Int32} {x3 : Int32} {x4 : Int32} {x5 : Int32} (hn : FIX ≤ n) (hd : 1 ≤ d) (h : ((x2 ≤ x5 → Q (gL σ 57 0) σ) ∧ (¬ x2 ≤ x5 → vp_in x5 5000 ∧ (((2 : Int32) < (gI σ 55 x5.toNatClampNeg) → (((gI σ 55 x5.toNatClampNeg) ≠ 12 → vp_in ((x4 + (-1)) - 1) 64 ∧ vp_in (x4 + (-1)) 64 ∧ ∃ Q4 : Int64 → St → Prop, Cn (d - 1) n M_X12_both md_X12_both [.int (gI σ 55 x5.toNatClampNeg), .long (gL σ 57 ((x4 + (-1)) - 1).toNatClampNeg), .long (gL σ 57 (x4 + (-1)).toNatClampNeg)] σ (liL Q4) ∧ ∀ (v7 : Int64) (σ6 : St), Q4 v7 σ6 → Fr md_X12_both σ σ6 → vp_in ((x4 + (-1)) - 1) 64 ∧ K_X12_runs_6 d n σ0 Q (sL σ6 57 ((x4 + (-1)) - 1).toNatClampNeg v7) x2 x3 (x4 + (-1)) (x5 + 1)) ∧ ((gI σ 55 x5.toNatClampNeg) = 12 → vp_in (x4 - 1) 64 ∧ vp_in (x4 - 1) 64 ∧ K_X12_runs_6 d n σ0 Q (sL σ 57 (x4 - 1).toNatClampNeg (1 - (gL σ 57 (x4 - 1).toNatClampNeg))) x2 x3 x4 (x5 + 1)))) ∧ (¬ (2 : Int32) < (gI σ 55 x5.toNatClampNeg) → (((gI σ 55 x5.toNatClampNeg) ≠ 0 → (((gI σ 55 x5.toNatClampNeg) ≠ 1 → vp_in x5 5000 ∧ vp_in x4 64 ∧ K_X12_runs_6 d n σ0 Q (sL σ 57 x4.toNatClampNeg ((fn_X12_one (fn_X12_holds x3 (gI σ 56 x5.toNatClampNeg))).toInt64)) x2 x3 (x4 + 1) (x5 + 1)) ∧ ((gI σ 55 x5.toNatClampNeg) = 1 → vp_in x5 5000 ∧ vp_in (gI σ 56 x5.toNatClampNeg) 6 ∧ vp_in x4 64 ∧ K_X12_runs_6 d n σ0 Q (sL σ 57 x4.toNatClampNeg (gL σ 58 (gI σ 56 x5.toNatClampNeg).toNatClampNeg)) x2 x3 (x4 + 1) (x5 + 1)))) ∧ ((gI σ 55 x5.toNatClampNeg) = 0 → vp_in x5 5000 ∧ vp_in x4 64 ∧ K_X12_runs_6 d n σ0 Q (sL σ 57 x4.toNatClampNeg ((gI σ 56 x5.toNatClampNeg).toInt64)) x2 x3 (x4 + 1) (x5 + 1)))))))) : K_X12_runs_6 d n σ0 Q σ x2 x3 x4 x5 := by
  refine e_iload dX12_runs_6 rfl ?_
  refine e_iload_n dX12_runs_8 rfl rfl ?_
  refine e_icmp_ge (tgt := 161) dX12_runs_9 (by decide) (fun c1 => ?_) (fun c1 => ?_)
  · replace h := h.1 c1
    refine e_aload_n dX12_runs_161 rfl rfl ?_
    refine e_getR (y := 57) dX12_runs_162 fl_X12_71 (ob_11 hn) rfl rfl ?_
    refine e_iconst dX12_runs_165 ci_0 ?_
    refine e_lald dX12_runs_166 (ar_57 hn) (vp_lit (by decide) (by decide)) ?_
    exact e_lret dX12_runs_167 rfl ⟨_, rfl, h⟩
  · replace h := h.2 c1
    refine e_aload_n dX12_runs_12 rfl rfl ?_
    refine e_getR (y := 55) dX12_runs_13 fl_X12_65 (ob_11 hn) rfl rfl ?_
    refine e_iload dX12_runs_16 rfl ?_
    refine e_iald dX12_runs_18 (ar_55 hn) h.1 ?_
    replace h := h.2
    refine e_istore dX12_runs_19 rfl (by decide) ?_
    refine e_iload dX12_runs_21 rfl ?_
    refine e_iconst dX12_runs_23 ci_2 ?_
    refine e_icmp_gt (tgt := 92) dX12_runs_24 (by decide) (fun c2 => ?_) (fun c2 => ?_)
    · replace h := h.1 c2
      refine e_iload dX12_runs_92 rfl ?_
      refine e_bipush dX12_runs_94 cb_12 ?_
      refine e_icmp_ne (tgt := 122) dX12_runs_96 (by decide) (fun c3 => ?_) (fun c3 => ?_)
      · replace h := h.1 c3
        refine e_iinc dX12_runs_122 rfl (ii_m1 _) rfl (by decide) ?_
        refine e_aload_n dX12_runs_125 rfl rfl ?_
        refine e_getR (y := 57) dX12_runs_126 fl_X12_71 (ob_11 hn) rfl rfl ?_
        refine e_iload dX12_runs_129 rfl ?_
        refine e_iconst dX12_runs_131 ci_1 ?_
        refine e_isub dX12_runs_132 ?_
        refine e_iload dX12_runs_133 rfl ?_
        refine e_aload_n dX12_runs_135 rfl rfl ?_
        refine e_getR (y := 57) dX12_runs_136 fl_X12_71 (ob_11 hn) rfl rfl ?_
        refine e_iload dX12_runs_139 rfl ?_
        refine e_iconst dX12_runs_141 ci_1 ?_
        refine e_isub dX12_runs_142 ?_
        refine e_lald dX12_runs_143 (ar_57 hn) h.1 ?_
        replace h := h.2
        refine e_aload_n dX12_runs_144 rfl rfl ?_
        refine e_getR (y := 57) dX12_runs_145 fl_X12_71 (ob_11 hn) rfl rfl ?_
        refine e_iload dX12_runs_148 rfl ?_
        refine e_lald dX12_runs_150 (ar_57 hn) h.1 ?_
        replace h := h.2
        obtain ⟨Q4, hc5, h⟩ := h
        refine e_callS (M' := M_X12_both) (as := [.int (gI σ 55 x5.toNatClampNeg), .long (gL σ 57 ((x4 + (-1)) - 1).toNatClampNeg), .long (gL σ 57 (x4 + (-1)).toNatClampNeg)]) (rest := [.int ((x4 + (-1)) - 1), .ref 57]) dX12_runs_151 ml_X12_297 mk_X12_both rfl (Nat.le_of_ble_eq_true rfl) (show 0 < d by omega) hc5 (Md_le (b := md_X12_runs) (by decide)) (fun v σ6 hq hf => ?_)
        obtain ⟨v7, rfl, hq⟩ := hq
        replace h := h v7 σ6 hq hf
        refine e_last dX12_runs_154 (ar_57 hn) h.1 (md_r (m := md_X12_runs) (by decide)) ?_
        replace h := h.2
        refine e_iinc dX12_runs_155 rfl (ii_1 _) rfl (by decide) ?_
        refine e_goto (tgt := 6) dX12_runs_158 (by decide) ?_
        refine e_kill [true, false, true, true, true, true, false] ?_
        exact h
      · replace h := h.2 c3
        refine e_aload_n dX12_runs_99 rfl rfl ?_
        refine e_getR (y := 57) dX12_runs_100 fl_X12_71 (ob_11 hn) rfl rfl ?_
        refine e_iload dX12_runs_103 rfl ?_
        refine e_iconst dX12_runs_105 ci_1 ?_
        refine e_isub dX12_runs_106 ?_
        refine e_lconst dX12_runs_107 (v := 1) rfl ?_
        refine e_aload_n dX12_runs_108 rfl rfl ?_
        refine e_getR (y := 57) dX12_runs_109 fl_X12_71 (ob_11 hn) rfl rfl ?_
        refine e_iload dX12_runs_112 rfl ?_
        refine e_iconst dX12_runs_114 ci_1 ?_
        refine e_isub dX12_runs_115 ?_
        refine e_lald dX12_runs_116 (ar_57 hn) h.1 ?_
        replace h := h.2
        refine e_lsub dX12_runs_117 ?_
        refine e_last dX12_runs_118 (ar_57 hn) h.1 (md_r (m := md_X12_runs) (by decide)) ?_
        replace h := h.2
        refine e_goto (tgt := 155) dX12_runs_119 (by decide) ?_
        refine e_iinc dX12_runs_155 rfl (ii_1 _) rfl (by decide) ?_
        refine e_goto (tgt := 6) dX12_runs_158 (by decide) ?_
        refine e_kill [true, false, true, true, true, true, false] ?_
        exact h
    · replace h := h.2 c2
      refine e_aload_n dX12_runs_27 rfl rfl ?_
      refine e_getR (y := 57) dX12_runs_28 fl_X12_71 (ob_11 hn) rfl rfl ?_
      refine e_iload dX12_runs_31 rfl ?_
      refine e_iload dX12_runs_33 rfl ?_
      refine e_if_ne (tgt := 49) dX12_runs_35 (by decide) (fun c10 => ?_) (fun c10 => ?_)
      · replace h := h.1 c10
        refine e_iload dX12_runs_49 rfl ?_
        refine e_iconst dX12_runs_51 ci_1 ?_
        refine e_icmp_ne (tgt := 70) dX12_runs_52 (by decide) (fun c11 => ?_) (fun c11 => ?_)
        · replace h := h.1 c11
          refine e_iload_n dX12_runs_70 rfl rfl ?_
          refine e_aload_n dX12_runs_71 rfl rfl ?_
          refine e_getR (y := 56) dX12_runs_72 fl_X12_68 (ob_11 hn) rfl rfl ?_
          refine e_iload dX12_runs_75 rfl ?_
          refine e_iald dX12_runs_77 (ar_56 hn) h.1 ?_
          replace h := h.2
          refine e_callS (M' := M_X12_holds) (as := [.int x3, .int (gI σ 56 x5.toNatClampNeg)]) (rest := [.int x4, .ref 57]) dX12_runs_78 ml_X12_289 mk_X12_holds rfl (Nat.le_of_ble_eq_true rfl) (show 0 < d by omega) (sp_X12_holds) Md_nil (fun v σv hq hf => ?_)
          obtain ⟨v, rfl, rfl, rfl⟩ := hq
          refine e_callS (M' := M_X12_one) (as := [.int (fn_X12_holds x3 (gI σ 56 x5.toNatClampNeg))]) (rest := [.int x4, .ref 57]) dX12_runs_81 ml_X12_293 mk_X12_one rfl (Nat.le_of_ble_eq_true rfl) (show 0 < d by omega) (sp_X12_one) Md_nil (fun v σv hq hf => ?_)
          obtain ⟨v, rfl, rfl, rfl⟩ := hq
          refine e_i2l dX12_runs_84 ?_
          refine e_last dX12_runs_85 (ar_57 hn) h.1 (md_r (m := md_X12_runs) (by decide)) ?_
          replace h := h.2
          refine e_iinc dX12_runs_86 rfl (ii_1 _) rfl (by decide) ?_
          refine e_goto (tgt := 155) dX12_runs_89 (by decide) ?_
          refine e_iinc dX12_runs_155 rfl (ii_1 _) rfl (by decide) ?_
          refine e_goto (tgt := 6) dX12_runs_158 (by decide) ?_
          refine e_kill [true, false, true, true, true, true, false] ?_
          exact h
        · replace h := h.2 c11
          refine e_aload_n dX12_runs_55 rfl rfl ?_
          refine e_getR (y := 58) dX12_runs_56 fl_X12_75 (ob_11 hn) rfl rfl ?_
          refine e_aload_n dX12_runs_59 rfl rfl ?_
          refine e_getR (y := 56) dX12_runs_60 fl_X12_68 (ob_11 hn) rfl rfl ?_
          refine e_iload dX12_runs_63 rfl ?_
          refine e_iald dX12_runs_65 (ar_56 hn) h.1 ?_
          replace h := h.2
          refine e_lald dX12_runs_66 (ar_58 hn) h.1 ?_
          replace h := h.2
          refine e_goto (tgt := 85) dX12_runs_67 (by decide) ?_
          refine e_last dX12_runs_85 (ar_57 hn) h.1 (md_r (m := md_X12_runs) (by decide)) ?_
          replace h := h.2
          refine e_iinc dX12_runs_86 rfl (ii_1 _) rfl (by decide) ?_
          refine e_goto (tgt := 155) dX12_runs_89 (by decide) ?_
          refine e_iinc dX12_runs_155 rfl (ii_1 _) rfl (by decide) ?_
          refine e_goto (tgt := 6) dX12_runs_158 (by decide) ?_
          refine e_kill [true, false, true, true, true, true, false] ?_
          exact h
      · replace h := h.2 c10
        refine e_aload_n dX12_runs_38 rfl rfl ?_
        refine e_getR (y := 56) dX12_runs_39 fl_X12_68 (ob_11 hn) rfl rfl ?_
        refine e_iload dX12_runs_42 rfl ?_
        refine e_iald dX12_runs_44 (ar_56 hn) h.1 ?_
        replace h := h.2
        refine e_i2l dX12_runs_45 ?_
        refine e_goto (tgt := 85) dX12_runs_46 (by decide) ?_
        refine e_last dX12_runs_85 (ar_57 hn) h.1 (md_r (m := md_X12_runs) (by decide)) ?_
        replace h := h.2
        refine e_iinc dX12_runs_86 rfl (ii_1 _) rfl (by decide) ?_
        refine e_goto (tgt := 155) dX12_runs_89 (by decide) ?_
        refine e_iinc dX12_runs_155 rfl (ii_1 _) rfl (by decide) ?_
        refine e_goto (tgt := 6) dX12_runs_158 (by decide) ?_
        refine e_kill [true, false, true, true, true, true, false] ?_
        exact h
theorem S_X12_runs {d n : Nat} {Q : Int64 → St → Prop} {σ : St} {a1 : Int32} {a2 : Int32} {a3 : Int32} (hn : FIX ≤ n) (hd : 1 ≤ d) (h : K_X12_runs_6 d n σ Q σ a2 a3 0 a1) : Cn d n M_X12_runs md_X12_runs [.ref 11, .int a1, .int a2, .int a3] σ (liL Q) := by
  refine Cn.of (k0 := 3) (by decide) rfl ?_
  show Ev (d, n, md_X12_runs, σ, liL Q) M_X12_runs 0 [some (.ref 11), some (.int a1), some (.int a2), some (.int a3), none, none, none] [] σ
  refine e_iconst dX12_runs_0 ci_0 ?_
  refine e_istore dX12_runs_1 rfl (by decide) ?_
  refine e_iload_n dX12_runs_3 rfl rfl ?_
  refine e_istore dX12_runs_4 rfl (by decide) ?_
  refine e_kill [true, false, true, true, true, true, false] ?_
  exact h
abbrev K_X12_asks_12 (d n : Nat) (σ0 : St) (Q : St → Prop) (σ : St) (x1 : Int32) (x2 : Int32) (x3 : Int32) (x4 : Int32) (x5 : Int32) (x6 : Int32) : Prop := Ev (d, n, md_X12_asks, σ0, liV Q) M_X12_asks 12 [some (.ref 11), some (.int x1), some (.int x2), some (.int x3), some (.int x4), some (.int x5), some (.int x6)] [] σ
theorem B_X12_asks_12 {d n : Nat} {σ0 : St} {Q : St → Prop}  {σ : St} {x1 : Int32} {x2 : Int32} {x3 : Int32} {x4 : Int32} {x5 : Int32} {x6 : Int32} (hn : FIX ≤ n) (hd : 1 ≤ d) (h : (((gI σ 11 0) ≤ x6 → ((x3 ≠ 0 → ∃ Q3 : Int32 → St → Prop, Cn (d - 1) n M_X12_bits md_X12_bits [.int x2] σ (liI Q3) ∧ ∀ (v6 : Int32) (σ5 : St), Q3 v6 σ5 → Fr md_X12_bits σ σ5 → vp_in x1 8 ∧ Q (sL (sL (sL (sL (sL (sL σ5 58 0 v6.toInt64) 58 1 x3.toInt64) 58 2 x4.toInt64) 58 3 x5.toInt64) 58 4 (((x5 - x4) - x3).toInt64)) 58 5 ((gI (sL (sL (sL (sL (sL σ5 58 0 v6.toInt64) 58 1 x3.toInt64) 58 2 x4.toInt64) 58 3 x5.toInt64) 58 4 (((x5 - x4) - x3).toInt64)) 47 x1.toNatClampNeg).toInt64))) ∧ (x3 = 0 → ∃ Q9 : Int32 → St → Prop, Cn (d - 1) n M_X12_bits md_X12_bits [.int x2] σ (liI Q9) ∧ ∀ (v12 : Int32) (σ11 : St), Q9 v12 σ11 → Fr md_X12_bits σ σ11 → vp_in x1 8 ∧ Q (sL (sL (sL (sL (sL (sL σ11 58 0 v12.toInt64) 58 1 x3.toInt64) 58 2 ((0 : Int32).toInt64)) 58 3 x5.toInt64) 58 4 (((x5 - 0) - x3).toInt64)) 58 5 ((gI (sL (sL (sL (sL (sL σ11 58 0 v12.toInt64) 58 1 x3.toInt64) 58 2 ((0 : Int32).toInt64)) 58 3 x5.toInt64) 58 4 (((x5 - 0) - x3).toInt64)) 47 x1.toNatClampNeg).toInt64))))) ∧ (¬ (gI σ 11 0) ≤ x6 → (((fn_X12_holds x2 x6) ≠ 0 → vp_in x6 10 ∧ vp_in x6 10 ∧ vp_in x6 10 ∧ vp_in x6 10 ∧ K_X12_asks_12 d n σ0 Q σ x1 x2 (x3 + ((gI σ 43 x6.toNatClampNeg) - (gI σ 42 x6.toNatClampNeg))) (mnI x4 (gI σ 42 x6.toNatClampNeg)) (mxI x5 (gI σ 43 x6.toNatClampNeg)) (x6 + 1)) ∧ ((fn_X12_holds x2 x6) = 0 → K_X12_asks_12 d n σ0 Q σ x1 x2 x3 x4 x5 (x6 + 1)))))) : K_X12_asks_12 d n σ0 Q σ x1 x2 x3 x4 x5 x6 := by
  refine e_iload dX12_asks_12 rfl ?_
  refine e_aload_n dX12_asks_14 rfl rfl ?_
  refine e_getI dX12_asks_15 fl_X12_131 (ob_11 hn) rfl ?_
  refine e_icmp_ge (tgt := 85) dX12_asks_18 (by decide) (fun c1 => ?_) (fun c1 => ?_)
  · replace h := h.1 c1
    refine e_iload_n dX12_asks_85 rfl rfl ?_
    refine e_if_ne (tgt := 92) dX12_asks_86 (by decide) (fun c2 => ?_) (fun c2 => ?_)
    · replace h := h.1 c2
      refine e_aload_n dX12_asks_92 rfl rfl ?_
      refine e_getR (y := 58) dX12_asks_93 fl_X12_75 (ob_11 hn) rfl rfl ?_
      refine e_iconst dX12_asks_96 ci_0 ?_
      refine e_iload_n dX12_asks_97 rfl rfl ?_
      obtain ⟨Q3, hc4, h⟩ := h
      refine e_callS (M' := M_X12_bits) (as := [.int x2]) (rest := [.int 0, .ref 58]) dX12_asks_98 ml_X12_306 mk_X12_bits rfl (Nat.le_of_ble_eq_true rfl) (show 0 < d by omega) hc4 (Md_le (b := md_X12_asks) (by decide)) (fun v σ5 hq hf => ?_)
      obtain ⟨v6, rfl, hq⟩ := hq
      replace h := h v6 σ5 hq hf
      refine e_i2l dX12_asks_101 ?_
      refine e_last dX12_asks_102 (ar_58 hn) (vp_lit (by decide) (by decide)) (md_r (m := md_X12_asks) (by decide)) ?_
      refine e_aload_n dX12_asks_103 rfl rfl ?_
      refine e_getR (y := 58) dX12_asks_104 fl_X12_75 (ob_11 hn) rfl rfl ?_
      refine e_iconst dX12_asks_107 ci_1 ?_
      refine e_iload_n dX12_asks_108 rfl rfl ?_
      refine e_i2l dX12_asks_109 ?_
      refine e_last dX12_asks_110 (ar_58 hn) (vp_lit (by decide) (by decide)) (md_r (m := md_X12_asks) (by decide)) ?_
      refine e_aload_n dX12_asks_111 rfl rfl ?_
      refine e_getR (y := 58) dX12_asks_112 fl_X12_75 (ob_11 hn) rfl rfl ?_
      refine e_iconst dX12_asks_115 ci_2 ?_
      refine e_iload dX12_asks_116 rfl ?_
      refine e_i2l dX12_asks_118 ?_
      refine e_last dX12_asks_119 (ar_58 hn) (vp_lit (by decide) (by decide)) (md_r (m := md_X12_asks) (by decide)) ?_
      refine e_aload_n dX12_asks_120 rfl rfl ?_
      refine e_getR (y := 58) dX12_asks_121 fl_X12_75 (ob_11 hn) rfl rfl ?_
      refine e_iconst dX12_asks_124 ci_3 ?_
      refine e_iload dX12_asks_125 rfl ?_
      refine e_i2l dX12_asks_127 ?_
      refine e_last dX12_asks_128 (ar_58 hn) (vp_lit (by decide) (by decide)) (md_r (m := md_X12_asks) (by decide)) ?_
      refine e_aload_n dX12_asks_129 rfl rfl ?_
      refine e_getR (y := 58) dX12_asks_130 fl_X12_75 (ob_11 hn) rfl rfl ?_
      refine e_iconst dX12_asks_133 ci_4 ?_
      refine e_iload dX12_asks_134 rfl ?_
      refine e_iload dX12_asks_136 rfl ?_
      refine e_isub dX12_asks_138 ?_
      refine e_iload_n dX12_asks_139 rfl rfl ?_
      refine e_isub dX12_asks_140 ?_
      refine e_i2l dX12_asks_141 ?_
      refine e_last dX12_asks_142 (ar_58 hn) (vp_lit (by decide) (by decide)) (md_r (m := md_X12_asks) (by decide)) ?_
      refine e_aload_n dX12_asks_143 rfl rfl ?_
      refine e_getR (y := 58) dX12_asks_144 fl_X12_75 (ob_11 hn) rfl rfl ?_
      refine e_iconst dX12_asks_147 ci_5 ?_
      refine e_aload_n dX12_asks_148 rfl rfl ?_
      refine e_getR (y := 47) dX12_asks_149 fl_X12_35 (ob_11 hn) rfl rfl ?_
      refine e_iload_n dX12_asks_152 rfl rfl ?_
      refine e_iald dX12_asks_153 (ar_47 hn) h.1 ?_
      replace h := h.2
      refine e_i2l dX12_asks_154 ?_
      refine e_last dX12_asks_155 (ar_58 hn) (vp_lit (by decide) (by decide)) (md_r (m := md_X12_asks) (by decide)) ?_
      exact e_vret dX12_asks_156 rfl ⟨rfl, h⟩
    · replace h := h.2 c2
      refine e_iconst dX12_asks_89 ci_0 ?_
      refine e_istore dX12_asks_90 rfl (by decide) ?_
      refine e_aload_n dX12_asks_92 rfl rfl ?_
      refine e_getR (y := 58) dX12_asks_93 fl_X12_75 (ob_11 hn) rfl rfl ?_
      refine e_iconst dX12_asks_96 ci_0 ?_
      refine e_iload_n dX12_asks_97 rfl rfl ?_
      obtain ⟨Q9, hc10, h⟩ := h
      refine e_callS (M' := M_X12_bits) (as := [.int x2]) (rest := [.int 0, .ref 58]) dX12_asks_98 ml_X12_306 mk_X12_bits rfl (Nat.le_of_ble_eq_true rfl) (show 0 < d by omega) hc10 (Md_le (b := md_X12_asks) (by decide)) (fun v σ11 hq hf => ?_)
      obtain ⟨v12, rfl, hq⟩ := hq
      replace h := h v12 σ11 hq hf
      refine e_i2l dX12_asks_101 ?_
      refine e_last dX12_asks_102 (ar_58 hn) (vp_lit (by decide) (by decide)) (md_r (m := md_X12_asks) (by decide)) ?_
      refine e_aload_n dX12_asks_103 rfl rfl ?_
      refine e_getR (y := 58) dX12_asks_104 fl_X12_75 (ob_11 hn) rfl rfl ?_
      refine e_iconst dX12_asks_107 ci_1 ?_
      refine e_iload_n dX12_asks_108 rfl rfl ?_
      refine e_i2l dX12_asks_109 ?_
      refine e_last dX12_asks_110 (ar_58 hn) (vp_lit (by decide) (by decide)) (md_r (m := md_X12_asks) (by decide)) ?_
      refine e_aload_n dX12_asks_111 rfl rfl ?_
      refine e_getR (y := 58) dX12_asks_112 fl_X12_75 (ob_11 hn) rfl rfl ?_
      refine e_iconst dX12_asks_115 ci_2 ?_
      refine e_iload dX12_asks_116 rfl ?_
      refine e_i2l dX12_asks_118 ?_
      refine e_last dX12_asks_119 (ar_58 hn) (vp_lit (by decide) (by decide)) (md_r (m := md_X12_asks) (by decide)) ?_
      refine e_aload_n dX12_asks_120 rfl rfl ?_
      refine e_getR (y := 58) dX12_asks_121 fl_X12_75 (ob_11 hn) rfl rfl ?_
      refine e_iconst dX12_asks_124 ci_3 ?_
      refine e_iload dX12_asks_125 rfl ?_
      refine e_i2l dX12_asks_127 ?_
      refine e_last dX12_asks_128 (ar_58 hn) (vp_lit (by decide) (by decide)) (md_r (m := md_X12_asks) (by decide)) ?_
      refine e_aload_n dX12_asks_129 rfl rfl ?_
      refine e_getR (y := 58) dX12_asks_130 fl_X12_75 (ob_11 hn) rfl rfl ?_
      refine e_iconst dX12_asks_133 ci_4 ?_
      refine e_iload dX12_asks_134 rfl ?_
      refine e_iload dX12_asks_136 rfl ?_
      refine e_isub dX12_asks_138 ?_
      refine e_iload_n dX12_asks_139 rfl rfl ?_
      refine e_isub dX12_asks_140 ?_
      refine e_i2l dX12_asks_141 ?_
      refine e_last dX12_asks_142 (ar_58 hn) (vp_lit (by decide) (by decide)) (md_r (m := md_X12_asks) (by decide)) ?_
      refine e_aload_n dX12_asks_143 rfl rfl ?_
      refine e_getR (y := 58) dX12_asks_144 fl_X12_75 (ob_11 hn) rfl rfl ?_
      refine e_iconst dX12_asks_147 ci_5 ?_
      refine e_aload_n dX12_asks_148 rfl rfl ?_
      refine e_getR (y := 47) dX12_asks_149 fl_X12_35 (ob_11 hn) rfl rfl ?_
      refine e_iload_n dX12_asks_152 rfl rfl ?_
      refine e_iald dX12_asks_153 (ar_47 hn) h.1 ?_
      replace h := h.2
      refine e_i2l dX12_asks_154 ?_
      refine e_last dX12_asks_155 (ar_58 hn) (vp_lit (by decide) (by decide)) (md_r (m := md_X12_asks) (by decide)) ?_
      exact e_vret dX12_asks_156 rfl ⟨rfl, h⟩
  · replace h := h.2 c1
    refine e_iload_n dX12_asks_21 rfl rfl ?_
    refine e_iload dX12_asks_22 rfl ?_
    refine e_callS (M' := M_X12_holds) (as := [.int x2, .int x6]) (rest := []) dX12_asks_24 ml_X12_289 mk_X12_holds rfl (Nat.le_of_ble_eq_true rfl) (show 0 < d by omega) (sp_X12_holds) Md_nil (fun v σv hq hf => ?_)
    obtain ⟨v, rfl, rfl, rfl⟩ := hq
    refine e_if_ne (tgt := 33) dX12_asks_27 (by decide) (fun c15 => ?_) (fun c15 => ?_)
    · replace h := h.1 c15
      refine e_iload_n dX12_asks_33 rfl rfl ?_
      refine e_aload_n dX12_asks_34 rfl rfl ?_
      refine e_getR (y := 43) dX12_asks_35 fl_X12_23 (ob_11 hn) rfl rfl ?_
      refine e_iload dX12_asks_38 rfl ?_
      refine e_iald dX12_asks_40 (ar_43 hn) h.1 ?_
      replace h := h.2
      refine e_aload_n dX12_asks_41 rfl rfl ?_
      refine e_getR (y := 42) dX12_asks_42 fl_X12_20 (ob_11 hn) rfl rfl ?_
      refine e_iload dX12_asks_45 rfl ?_
      refine e_iald dX12_asks_47 (ar_42 hn) h.1 ?_
      replace h := h.2
      refine e_isub dX12_asks_48 ?_
      refine e_iadd dX12_asks_49 ?_
      refine e_istore_n dX12_asks_50 rfl rfl (by decide) ?_
      refine e_iload dX12_asks_51 rfl ?_
      refine e_aload_n dX12_asks_53 rfl rfl ?_
      refine e_getR (y := 42) dX12_asks_54 fl_X12_20 (ob_11 hn) rfl rfl ?_
      refine e_iload dX12_asks_57 rfl ?_
      refine e_iald dX12_asks_59 (ar_42 hn) h.1 ?_
      replace h := h.2
      refine e_mmin (st := []) dX12_asks_60 ml_X12_301 (Nat.le_of_ble_eq_true rfl) (show 0 < d by omega) ?_
      refine e_istore dX12_asks_63 rfl (by decide) ?_
      refine e_iload dX12_asks_65 rfl ?_
      refine e_aload_n dX12_asks_67 rfl rfl ?_
      refine e_getR (y := 43) dX12_asks_68 fl_X12_23 (ob_11 hn) rfl rfl ?_
      refine e_iload dX12_asks_71 rfl ?_
      refine e_iald dX12_asks_73 (ar_43 hn) h.1 ?_
      replace h := h.2
      refine e_mmax (st := []) dX12_asks_74 ml_X12_304 (Nat.le_of_ble_eq_true rfl) (show 0 < d by omega) ?_
      refine e_istore dX12_asks_77 rfl (by decide) ?_
      refine e_iinc dX12_asks_79 rfl (ii_1 _) rfl (by decide) ?_
      refine e_goto (tgt := 12) dX12_asks_82 (by decide) ?_
      exact h
    · replace h := h.2 c15
      refine e_goto (tgt := 79) dX12_asks_30 (by decide) ?_
      refine e_iinc dX12_asks_79 rfl (ii_1 _) rfl (by decide) ?_
      refine e_goto (tgt := 12) dX12_asks_82 (by decide) ?_
      exact h
theorem S_X12_asks {d n : Nat} {Q : St → Prop} {σ : St} {a1 : Int32} {a2 : Int32} (hn : FIX ≤ n) (hd : 1 ≤ d) (h : K_X12_asks_12 d n σ Q σ a1 a2 0 40 0 0) : Cn d n M_X12_asks md_X12_asks [.ref 11, .int a1, .int a2] σ (liV Q) := by
  refine Cn.of (k0 := 4) (by decide) rfl ?_
  show Ev (d, n, md_X12_asks, σ, liV Q) M_X12_asks 0 [some (.ref 11), some (.int a1), some (.int a2), none, none, none, none] [] σ
  refine e_iconst dX12_asks_0 ci_0 ?_
  refine e_istore_n dX12_asks_1 rfl rfl (by decide) ?_
  refine e_bipush dX12_asks_2 cb_40 ?_
  refine e_istore dX12_asks_4 rfl (by decide) ?_
  refine e_iconst dX12_asks_6 ci_0 ?_
  refine e_istore dX12_asks_7 rfl (by decide) ?_
  refine e_iconst dX12_asks_9 ci_0 ?_
  refine e_istore dX12_asks_10 rfl (by decide) ?_
  exact h
abbrev K_X12_worthBy_15 (d n : Nat) (σ0 : St) (Q : Int32 → St → Prop) (σ : St) (x1 : Int32) (x3 : Int32) (x4 : Int64) (x6 : Int32) : Prop := Ev (d, n, md_X12_worthBy, σ0, liI Q) M_X12_worthBy 15 [some (.ref 11), some (.int x1), none, some (.int x3), some (.long x4), none, some (.int x6)] [] σ
theorem B_X12_worthBy_15 {d n : Nat} {σ0 : St} {Q : Int32 → St → Prop}  {σ : St} {x1 : Int32} {x3 : Int32} {x4 : Int64} {x6 : Int32} (hn : FIX ≤ n) (hd : 1 ≤ d) (h : vp_in x1 10 ∧ ((((16 * x1) + (gI σ 50 x1.toNatClampNeg)) ≤ x6 → Q x4.toInt32 σ) ∧ (¬ ((16 * x1) + (gI σ 50 x1.toNatClampNeg)) ≤ x6 → vp_in x6 160 ∧ (((gI σ 51 x6.toNatClampNeg) ≠ 0 → K_X12_worthBy_15 d n σ0 Q σ x1 x3 x4 (x6 + 1)) ∧ ((gI σ 51 x6.toNatClampNeg) = 0 → vp_in x6 160 ∧ vp_in x6 160 ∧ (((gI σ 54 x6.toNatClampNeg) ≤ (gI σ 53 x6.toNatClampNeg) → vp_in x6 160 ∧ vp_in x6 160 ∧ ∃ Q4 : Int64 → St → Prop, Cn (d - 1) n M_X12_runs md_X12_runs [.ref 11, .int (gI σ 52 x6.toNatClampNeg), .int (gI σ 53 x6.toNatClampNeg), .int x3] σ (liL Q4) ∧ ∀ (v7 : Int64) (σ6 : St), Q4 v7 σ6 → Fr md_X12_runs σ σ6 → K_X12_worthBy_15 d n σ0 Q σ6 x1 x3 (mxL (-1000000) (mnL 1000000 (x4 + v7))) (x6 + 1)) ∧ (¬ (gI σ 54 x6.toNatClampNeg) ≤ (gI σ 53 x6.toNatClampNeg) → vp_in x6 160 ∧ vp_in x6 160 ∧ ∃ Q10 : Int64 → St → Prop, Cn (d - 1) n M_X12_runs md_X12_runs [.ref 11, .int (gI σ 53 x6.toNatClampNeg), .int (gI σ 54 x6.toNatClampNeg), .int x3] σ (liL Q10) ∧ ∀ (v13 : Int64) (σ12 : St), Q10 v13 σ12 → Fr md_X12_runs σ σ12 → (((lg_cmp v13 0) ≠ 0 → vp_in x6 160 ∧ vp_in x6 160 ∧ ∃ Q17 : Int64 → St → Prop, Cn (d - 1) n M_X12_runs md_X12_runs [.ref 11, .int (gI σ12 52 x6.toNatClampNeg), .int (gI σ12 53 x6.toNatClampNeg), .int x3] σ12 (liL Q17) ∧ ∀ (v20 : Int64) (σ19 : St), Q17 v20 σ19 → Fr md_X12_runs σ12 σ19 → K_X12_worthBy_15 d n σ0 Q σ19 x1 x3 (mxL (-1000000) (mnL 1000000 (x4 + v20))) (x6 + 1)) ∧ ((lg_cmp v13 0) = 0 → K_X12_worthBy_15 d n σ0 Q σ12 x1 x3 x4 (x6 + 1)))))))))) : K_X12_worthBy_15 d n σ0 Q σ x1 x3 x4 x6 := by
  refine e_iload dX12_worthBy_15 rfl ?_
  refine e_bipush dX12_worthBy_17 cb_16 ?_
  refine e_iload_n dX12_worthBy_19 rfl rfl ?_
  refine e_imul dX12_worthBy_20 ?_
  refine e_aload_n dX12_worthBy_21 rfl rfl ?_
  refine e_getR (y := 50) dX12_worthBy_22 fl_X12_50 (ob_11 hn) rfl rfl ?_
  refine e_iload_n dX12_worthBy_25 rfl rfl ?_
  refine e_iald dX12_worthBy_26 (ar_50 hn) h.1 ?_
  replace h := h.2
  refine e_iadd dX12_worthBy_27 ?_
  refine e_icmp_ge (tgt := 127) dX12_worthBy_28 (by decide) (fun c1 => ?_) (fun c1 => ?_)
  · replace h := h.1 c1
    refine e_lload dX12_worthBy_127 rfl ?_
    refine e_l2i dX12_worthBy_129 ?_
    exact e_iret dX12_worthBy_130 rfl ⟨_, rfl, h⟩
  · replace h := h.2 c1
    refine e_aload_n dX12_worthBy_31 rfl rfl ?_
    refine e_getR (y := 51) dX12_worthBy_32 fl_X12_53 (ob_11 hn) rfl rfl ?_
    refine e_iload dX12_worthBy_35 rfl ?_
    refine e_iald dX12_worthBy_37 (ar_51 hn) h.1 ?_
    replace h := h.2
    refine e_if_ne (tgt := 121) dX12_worthBy_38 (by decide) (fun c2 => ?_) (fun c2 => ?_)
    · replace h := h.1 c2
      refine e_iinc dX12_worthBy_121 rfl (ii_1 _) rfl (by decide) ?_
      refine e_goto (tgt := 15) dX12_worthBy_124 (by decide) ?_
      exact h
    · replace h := h.2 c2
      refine e_aload_n dX12_worthBy_41 rfl rfl ?_
      refine e_getR (y := 53) dX12_worthBy_42 fl_X12_59 (ob_11 hn) rfl rfl ?_
      refine e_iload dX12_worthBy_45 rfl ?_
      refine e_iald dX12_worthBy_47 (ar_53 hn) h.1 ?_
      replace h := h.2
      refine e_aload_n dX12_worthBy_48 rfl rfl ?_
      refine e_getR (y := 54) dX12_worthBy_49 fl_X12_62 (ob_11 hn) rfl rfl ?_
      refine e_iload dX12_worthBy_52 rfl ?_
      refine e_iald dX12_worthBy_54 (ar_54 hn) h.1 ?_
      replace h := h.2
      refine e_icmp_ge (tgt := 85) dX12_worthBy_55 (by decide) (fun c3 => ?_) (fun c3 => ?_)
      · replace h := h.1 c3
        refine e_ldc2 dX12_worthBy_85 ck_X12_317 ?_
        refine e_ldc2 dX12_worthBy_88 ck_X12_319 ?_
        refine e_lload dX12_worthBy_91 rfl ?_
        refine e_aload_n dX12_worthBy_93 rfl rfl ?_
        refine e_aload_n dX12_worthBy_94 rfl rfl ?_
        refine e_getR (y := 52) dX12_worthBy_95 fl_X12_56 (ob_11 hn) rfl rfl ?_
        refine e_iload dX12_worthBy_98 rfl ?_
        refine e_iald dX12_worthBy_100 (ar_52 hn) h.1 ?_
        replace h := h.2
        refine e_aload_n dX12_worthBy_101 rfl rfl ?_
        refine e_getR (y := 53) dX12_worthBy_102 fl_X12_59 (ob_11 hn) rfl rfl ?_
        refine e_iload dX12_worthBy_105 rfl ?_
        refine e_iald dX12_worthBy_107 (ar_53 hn) h.1 ?_
        replace h := h.2
        refine e_iload_n dX12_worthBy_108 rfl rfl ?_
        obtain ⟨Q4, hc5, h⟩ := h
        refine e_callV (M' := M_X12_runs) (as := [.int (gI σ 52 x6.toNatClampNeg), .int (gI σ 53 x6.toNatClampNeg), .int x3]) (rest := [.long x4, .long 1000000, .long (-1000000)]) dX12_worthBy_109 ml_X12_313 mk_X12_runs (ob_11 hn) rfl rfl rfl (Nat.le_of_ble_eq_true rfl) (show 0 < d by omega) hc5 (Md_le (b := md_X12_worthBy) (by decide)) (fun v σ6 hq hf => ?_)
        obtain ⟨v7, rfl, hq⟩ := hq
        replace h := h v7 σ6 hq hf
        refine e_ladd dX12_worthBy_112 ?_
        refine e_mminL (st := [.long (-1000000)]) dX12_worthBy_113 ml_X12_270 (Nat.le_of_ble_eq_true rfl) (show 0 < d by omega) ?_
        refine e_mmaxL (st := []) dX12_worthBy_116 ml_X12_276 (Nat.le_of_ble_eq_true rfl) (show 0 < d by omega) ?_
        refine e_lstore dX12_worthBy_119 rfl (by decide) ?_
        refine e_iinc dX12_worthBy_121 rfl (ii_1 _) rfl (by decide) ?_
        refine e_goto (tgt := 15) dX12_worthBy_124 (by decide) ?_
        exact h
      · replace h := h.2 c3
        refine e_aload_n dX12_worthBy_58 rfl rfl ?_
        refine e_aload_n dX12_worthBy_59 rfl rfl ?_
        refine e_getR (y := 53) dX12_worthBy_60 fl_X12_59 (ob_11 hn) rfl rfl ?_
        refine e_iload dX12_worthBy_63 rfl ?_
        refine e_iald dX12_worthBy_65 (ar_53 hn) h.1 ?_
        replace h := h.2
        refine e_aload_n dX12_worthBy_66 rfl rfl ?_
        refine e_getR (y := 54) dX12_worthBy_67 fl_X12_62 (ob_11 hn) rfl rfl ?_
        refine e_iload dX12_worthBy_70 rfl ?_
        refine e_iald dX12_worthBy_72 (ar_54 hn) h.1 ?_
        replace h := h.2
        refine e_iload_n dX12_worthBy_73 rfl rfl ?_
        obtain ⟨Q10, hc11, h⟩ := h
        refine e_callV (M' := M_X12_runs) (as := [.int (gI σ 53 x6.toNatClampNeg), .int (gI σ 54 x6.toNatClampNeg), .int x3]) (rest := []) dX12_worthBy_74 ml_X12_313 mk_X12_runs (ob_11 hn) rfl rfl rfl (Nat.le_of_ble_eq_true rfl) (show 0 < d by omega) hc11 (Md_le (b := md_X12_worthBy) (by decide)) (fun v σ12 hq hf => ?_)
        obtain ⟨v13, rfl, hq⟩ := hq
        replace h := h v13 σ12 hq hf
        refine e_lconst dX12_worthBy_77 (v := 0) rfl ?_
        refine e_lcmp dX12_worthBy_78 ?_
        refine e_if_ne (tgt := 85) dX12_worthBy_79 (by decide) (fun c16 => ?_) (fun c16 => ?_)
        · replace h := h.1 c16
          refine e_ldc2 dX12_worthBy_85 ck_X12_317 ?_
          refine e_ldc2 dX12_worthBy_88 ck_X12_319 ?_
          refine e_lload dX12_worthBy_91 rfl ?_
          refine e_aload_n dX12_worthBy_93 rfl rfl ?_
          refine e_aload_n dX12_worthBy_94 rfl rfl ?_
          refine e_getR (y := 52) dX12_worthBy_95 fl_X12_56 (ob_11 hn) rfl rfl ?_
          refine e_iload dX12_worthBy_98 rfl ?_
          refine e_iald dX12_worthBy_100 (ar_52 hn) h.1 ?_
          replace h := h.2
          refine e_aload_n dX12_worthBy_101 rfl rfl ?_
          refine e_getR (y := 53) dX12_worthBy_102 fl_X12_59 (ob_11 hn) rfl rfl ?_
          refine e_iload dX12_worthBy_105 rfl ?_
          refine e_iald dX12_worthBy_107 (ar_53 hn) h.1 ?_
          replace h := h.2
          refine e_iload_n dX12_worthBy_108 rfl rfl ?_
          obtain ⟨Q17, hc18, h⟩ := h
          refine e_callV (M' := M_X12_runs) (as := [.int (gI σ12 52 x6.toNatClampNeg), .int (gI σ12 53 x6.toNatClampNeg), .int x3]) (rest := [.long x4, .long 1000000, .long (-1000000)]) dX12_worthBy_109 ml_X12_313 mk_X12_runs (ob_11 hn) rfl rfl rfl (Nat.le_of_ble_eq_true rfl) (show 0 < d by omega) hc18 (Md_le (b := md_X12_worthBy) (by decide)) (fun v σ19 hq hf => ?_)
          obtain ⟨v20, rfl, hq⟩ := hq
          replace h := h v20 σ19 hq hf
          refine e_ladd dX12_worthBy_112 ?_
          refine e_mminL (st := [.long (-1000000)]) dX12_worthBy_113 ml_X12_270 (Nat.le_of_ble_eq_true rfl) (show 0 < d by omega) ?_
          refine e_mmaxL (st := []) dX12_worthBy_116 ml_X12_276 (Nat.le_of_ble_eq_true rfl) (show 0 < d by omega) ?_
          refine e_lstore dX12_worthBy_119 rfl (by decide) ?_
          refine e_iinc dX12_worthBy_121 rfl (ii_1 _) rfl (by decide) ?_
          refine e_goto (tgt := 15) dX12_worthBy_124 (by decide) ?_
          exact h
        · replace h := h.2 c16
          refine e_goto (tgt := 121) dX12_worthBy_82 (by decide) ?_
          refine e_iinc dX12_worthBy_121 rfl (ii_1 _) rfl (by decide) ?_
          refine e_goto (tgt := 15) dX12_worthBy_124 (by decide) ?_
          exact h
theorem S_X12_worthBy {d n : Nat} {Q : Int32 → St → Prop} {σ : St} {a1 : Int32} {a2 : Int32} {a3 : Int32} (hn : FIX ≤ n) (hd : 1 ≤ d) (h : ∃ Q1 : St → Prop, Cn (d - 1) n M_X12_asks md_X12_asks [.ref 11, .int a2, .int a3] σ (liV Q1) ∧ ∀ (σ3 : St), Q1 σ3 → Fr md_X12_asks σ σ3 → K_X12_worthBy_15 d n σ Q σ3 a1 a3 0 (16 * a1)) : Cn d n M_X12_worthBy md_X12_worthBy [.ref 11, .int a1, .int a2, .int a3] σ (liI Q) := by
  refine Cn.of (k0 := 3) (by decide) rfl ?_
  show Ev (d, n, md_X12_worthBy, σ, liI Q) M_X12_worthBy 0 [some (.ref 11), some (.int a1), some (.int a2), some (.int a3), none, none, none] [] σ
  refine e_aload_n dX12_worthBy_0 rfl rfl ?_
  refine e_iload_n dX12_worthBy_1 rfl rfl ?_
  refine e_iload_n dX12_worthBy_2 rfl rfl ?_
  obtain ⟨Q1, hc2, h⟩ := h
  refine e_callV (M' := M_X12_asks) (as := [.int a2, .int a3]) (rest := []) dX12_worthBy_3 ml_X12_310 mk_X12_asks (ob_11 hn) rfl rfl rfl (Nat.le_of_ble_eq_true rfl) (show 0 < d by omega) hc2 (Md_le (b := md_X12_worthBy) (by decide)) (fun v σ3 hq hf => ?_)
  obtain ⟨rfl, hq⟩ := hq
  replace h := h σ3 hq hf
  refine e_lconst dX12_worthBy_6 (v := 0) rfl ?_
  refine e_lstore dX12_worthBy_7 rfl (by decide) ?_
  refine e_bipush dX12_worthBy_9 cb_16 ?_
  refine e_iload_n dX12_worthBy_11 rfl rfl ?_
  refine e_imul dX12_worthBy_12 ?_
  refine e_istore dX12_worthBy_13 rfl (by decide) ?_
  refine e_kill [true, true, false, true, true, false, true] ?_
  exact h
abbrev K_X12_saysNever_15 (d n : Nat) (σ0 : St) (Q : Int32 → St → Prop) (σ : St) (x1 : Int32) (x3 : Int32) (x4 : Int32) (x5 : Int32) : Prop := Ev (d, n, md_X12_saysNever, σ0, liI Q) M_X12_saysNever 15 [some (.ref 11), some (.int x1), none, some (.int x3), some (.int x4), some (.int x5)] [] σ
theorem B_X12_saysNever_15 {d n : Nat} {σ0 : St} {Q : Int32 → St → Prop}  {σ : St} {x1 : Int32} {x3 : Int32} {x4 : Int32} {x5 : Int32} (hn : FIX ≤ n) (hd : 1 ≤ d) (h : vp_in x1 10 ∧ ((((16 * x1) + (gI σ 50 x1.toNatClampNeg)) ≤ x5 → (x4 = 0 ∨ x4 = 1) ∧ Q x4 σ) ∧ (¬ ((16 * x1) + (gI σ 50 x1.toNatClampNeg)) ≤ x5 → ((x4 ≠ 0 → K_X12_saysNever_15 d n σ0 Q σ x1 x3 1 (x5 + 1)) ∧ (x4 = 0 → vp_in x5 160 ∧ (((gI σ 51 x5.toNatClampNeg) ≠ 1 → K_X12_saysNever_15 d n σ0 Q σ x1 x3 0 (x5 + 1)) ∧ ((gI σ 51 x5.toNatClampNeg) = 1 → vp_in x5 160 ∧ vp_in x5 160 ∧ (((gI σ 53 x5.toNatClampNeg) = (gI σ 54 x5.toNatClampNeg) → K_X12_saysNever_15 d n σ0 Q σ x1 x3 1 (x5 + 1)) ∧ (¬ (gI σ 53 x5.toNatClampNeg) = (gI σ 54 x5.toNatClampNeg) → vp_in x5 160 ∧ vp_in x5 160 ∧ ∃ Q5 : Int64 → St → Prop, Cn (d - 1) n M_X12_runs md_X12_runs [.ref 11, .int (gI σ 53 x5.toNatClampNeg), .int (gI σ 54 x5.toNatClampNeg), .int x3] σ (liL Q5) ∧ ∀ (v8 : Int64) (σ7 : St), Q5 v8 σ7 → Fr md_X12_runs σ σ7 → (((lg_cmp v8 1) ≠ 0 → K_X12_saysNever_15 d n σ0 Q σ7 x1 x3 0 (x5 + 1)) ∧ ((lg_cmp v8 1) = 0 → K_X12_saysNever_15 d n σ0 Q σ7 x1 x3 1 (x5 + 1)))))))))))) : K_X12_saysNever_15 d n σ0 Q σ x1 x3 x4 x5 := by
  refine e_iload dX12_saysNever_15 rfl ?_
  refine e_bipush dX12_saysNever_17 cb_16 ?_
  refine e_iload_n dX12_saysNever_19 rfl rfl ?_
  refine e_imul dX12_saysNever_20 ?_
  refine e_aload_n dX12_saysNever_21 rfl rfl ?_
  refine e_getR (y := 50) dX12_saysNever_22 fl_X12_50 (ob_11 hn) rfl rfl ?_
  refine e_iload_n dX12_saysNever_25 rfl rfl ?_
  refine e_iald dX12_saysNever_26 (ar_50 hn) h.1 ?_
  replace h := h.2
  refine e_iadd dX12_saysNever_27 ?_
  refine e_icmp_ge (tgt := 101) dX12_saysNever_28 (by decide) (fun c1 => ?_) (fun c1 => ?_)
  · replace h := h.1 c1
    refine e_iload dX12_saysNever_101 rfl ?_
    exact e_zret dX12_saysNever_103 rfl (nar_z h.1) ⟨_, rfl, h.2⟩
  · replace h := h.2 c1
    refine e_iload dX12_saysNever_31 rfl ?_
    refine e_if_ne (tgt := 88) dX12_saysNever_33 (by decide) (fun c2 => ?_) (fun c2 => ?_)
    · replace h := h.1 c2
      refine e_iconst dX12_saysNever_88 ci_1 ?_
      refine e_goto (tgt := 93) dX12_saysNever_89 (by decide) ?_
      refine e_istore dX12_saysNever_93 rfl (by decide) ?_
      refine e_iinc dX12_saysNever_95 rfl (ii_1 _) rfl (by decide) ?_
      refine e_goto (tgt := 15) dX12_saysNever_98 (by decide) ?_
      exact h
    · replace h := h.2 c2
      refine e_aload_n dX12_saysNever_36 rfl rfl ?_
      refine e_getR (y := 51) dX12_saysNever_37 fl_X12_53 (ob_11 hn) rfl rfl ?_
      refine e_iload dX12_saysNever_40 rfl ?_
      refine e_iald dX12_saysNever_42 (ar_51 hn) h.1 ?_
      replace h := h.2
      refine e_iconst dX12_saysNever_43 ci_1 ?_
      refine e_icmp_ne (tgt := 92) dX12_saysNever_44 (by decide) (fun c3 => ?_) (fun c3 => ?_)
      · replace h := h.1 c3
        refine e_iconst dX12_saysNever_92 ci_0 ?_
        refine e_istore dX12_saysNever_93 rfl (by decide) ?_
        refine e_iinc dX12_saysNever_95 rfl (ii_1 _) rfl (by decide) ?_
        refine e_goto (tgt := 15) dX12_saysNever_98 (by decide) ?_
        exact h
      · replace h := h.2 c3
        refine e_aload_n dX12_saysNever_47 rfl rfl ?_
        refine e_getR (y := 53) dX12_saysNever_48 fl_X12_59 (ob_11 hn) rfl rfl ?_
        refine e_iload dX12_saysNever_51 rfl ?_
        refine e_iald dX12_saysNever_53 (ar_53 hn) h.1 ?_
        replace h := h.2
        refine e_aload_n dX12_saysNever_54 rfl rfl ?_
        refine e_getR (y := 54) dX12_saysNever_55 fl_X12_62 (ob_11 hn) rfl rfl ?_
        refine e_iload dX12_saysNever_58 rfl ?_
        refine e_iald dX12_saysNever_60 (ar_54 hn) h.1 ?_
        replace h := h.2
        refine e_icmp_eq (tgt := 88) dX12_saysNever_61 (by decide) (fun c4 => ?_) (fun c4 => ?_)
        · replace h := h.1 c4
          refine e_iconst dX12_saysNever_88 ci_1 ?_
          refine e_goto (tgt := 93) dX12_saysNever_89 (by decide) ?_
          refine e_istore dX12_saysNever_93 rfl (by decide) ?_
          refine e_iinc dX12_saysNever_95 rfl (ii_1 _) rfl (by decide) ?_
          refine e_goto (tgt := 15) dX12_saysNever_98 (by decide) ?_
          exact h
        · replace h := h.2 c4
          refine e_aload_n dX12_saysNever_64 rfl rfl ?_
          refine e_aload_n dX12_saysNever_65 rfl rfl ?_
          refine e_getR (y := 53) dX12_saysNever_66 fl_X12_59 (ob_11 hn) rfl rfl ?_
          refine e_iload dX12_saysNever_69 rfl ?_
          refine e_iald dX12_saysNever_71 (ar_53 hn) h.1 ?_
          replace h := h.2
          refine e_aload_n dX12_saysNever_72 rfl rfl ?_
          refine e_getR (y := 54) dX12_saysNever_73 fl_X12_62 (ob_11 hn) rfl rfl ?_
          refine e_iload dX12_saysNever_76 rfl ?_
          refine e_iald dX12_saysNever_78 (ar_54 hn) h.1 ?_
          replace h := h.2
          refine e_iload_n dX12_saysNever_79 rfl rfl ?_
          obtain ⟨Q5, hc6, h⟩ := h
          refine e_callV (M' := M_X12_runs) (as := [.int (gI σ 53 x5.toNatClampNeg), .int (gI σ 54 x5.toNatClampNeg), .int x3]) (rest := []) dX12_saysNever_80 ml_X12_313 mk_X12_runs (ob_11 hn) rfl rfl rfl (Nat.le_of_ble_eq_true rfl) (show 0 < d by omega) hc6 (Md_le (b := md_X12_saysNever) (by decide)) (fun v σ7 hq hf => ?_)
          obtain ⟨v8, rfl, hq⟩ := hq
          replace h := h v8 σ7 hq hf
          refine e_lconst dX12_saysNever_83 (v := 1) rfl ?_
          refine e_lcmp dX12_saysNever_84 ?_
          refine e_if_ne (tgt := 92) dX12_saysNever_85 (by decide) (fun c11 => ?_) (fun c11 => ?_)
          · replace h := h.1 c11
            refine e_iconst dX12_saysNever_92 ci_0 ?_
            refine e_istore dX12_saysNever_93 rfl (by decide) ?_
            refine e_iinc dX12_saysNever_95 rfl (ii_1 _) rfl (by decide) ?_
            refine e_goto (tgt := 15) dX12_saysNever_98 (by decide) ?_
            exact h
          · replace h := h.2 c11
            refine e_iconst dX12_saysNever_88 ci_1 ?_
            refine e_goto (tgt := 93) dX12_saysNever_89 (by decide) ?_
            refine e_istore dX12_saysNever_93 rfl (by decide) ?_
            refine e_iinc dX12_saysNever_95 rfl (ii_1 _) rfl (by decide) ?_
            refine e_goto (tgt := 15) dX12_saysNever_98 (by decide) ?_
            exact h
theorem S_X12_saysNever {d n : Nat} {Q : Int32 → St → Prop} {σ : St} {a1 : Int32} {a2 : Int32} {a3 : Int32} (hn : FIX ≤ n) (hd : 1 ≤ d) (h : ∃ Q1 : St → Prop, Cn (d - 1) n M_X12_asks md_X12_asks [.ref 11, .int a2, .int a3] σ (liV Q1) ∧ ∀ (σ3 : St), Q1 σ3 → Fr md_X12_asks σ σ3 → K_X12_saysNever_15 d n σ Q σ3 a1 a3 0 (16 * a1)) : Cn d n M_X12_saysNever md_X12_saysNever [.ref 11, .int a1, .int a2, .int a3] σ (liI Q) := by
  refine Cn.of (k0 := 2) (by decide) rfl ?_
  show Ev (d, n, md_X12_saysNever, σ, liI Q) M_X12_saysNever 0 [some (.ref 11), some (.int a1), some (.int a2), some (.int a3), none, none] [] σ
  refine e_aload_n dX12_saysNever_0 rfl rfl ?_
  refine e_iload_n dX12_saysNever_1 rfl rfl ?_
  refine e_iload_n dX12_saysNever_2 rfl rfl ?_
  obtain ⟨Q1, hc2, h⟩ := h
  refine e_callV (M' := M_X12_asks) (as := [.int a2, .int a3]) (rest := []) dX12_saysNever_3 ml_X12_310 mk_X12_asks (ob_11 hn) rfl rfl rfl (Nat.le_of_ble_eq_true rfl) (show 0 < d by omega) hc2 (Md_le (b := md_X12_saysNever) (by decide)) (fun v σ3 hq hf => ?_)
  obtain ⟨rfl, hq⟩ := hq
  replace h := h σ3 hq hf
  refine e_iconst dX12_saysNever_6 ci_0 ?_
  refine e_istore dX12_saysNever_7 rfl (by decide) ?_
  refine e_bipush dX12_saysNever_9 cb_16 ?_
  refine e_iload_n dX12_saysNever_11 rfl rfl ?_
  refine e_imul dX12_saysNever_12 ?_
  refine e_istore dX12_saysNever_13 rfl (by decide) ?_
  refine e_kill [true, true, false, true, true, true] ?_
  exact h
abbrev K_X12_barsBy_27 (d n : Nat) (σ0 : St) (Q : Int32 → St → Prop) (σ : St) (x1 : Int32) (x2 : Int32) (x3 : Int32) (x4 : Int32) : Prop := Ev (d, n, md_X12_barsBy, σ0, liI Q) M_X12_barsBy 27 [some (.ref 11), some (.int x1), some (.int x2), some (.int x3), some (.int x4), none] [] σ
abbrev K_X12_barsBy_120 (d n : Nat) (σ0 : St) (Q : Int32 → St → Prop) (σ : St) (x1 : Int32) (x2 : Int32) (x3 : Int32) (x4 : Int32) : Prop := Ev (d, n, md_X12_barsBy, σ0, liI Q) M_X12_barsBy 120 [some (.ref 11), some (.int x1), some (.int x2), some (.int x3), some (.int x4), none] [] σ
abbrev K_X12_barsBy_42 (d n : Nat) (σ0 : St) (Q : Int32 → St → Prop) (σ : St) (x1 : Int32) (x2 : Int32) (x3 : Int32) (x4 : Int32) (x5 : Int32) : Prop := Ev (d, n, md_X12_barsBy, σ0, liI Q) M_X12_barsBy 42 [some (.ref 11), some (.int x1), some (.int x2), some (.int x3), some (.int x4), some (.int x5)] [] σ
theorem B_X12_barsBy_27 {d n : Nat} {σ0 : St} {Q : Int32 → St → Prop}  {σ : St} {x1 : Int32} {x2 : Int32} {x3 : Int32} {x4 : Int32} (hn : FIX ≤ n) (hd : 1 ≤ d) (h : (((gI σ 11 0) ≤ x4 → K_X12_barsBy_120 d n σ0 Q σ x1 x2 x3 0) ∧ (¬ (gI σ 11 0) ≤ x4 → K_X12_barsBy_42 d n σ0 Q σ x1 x2 x3 x4 (x4 + 1)))) : K_X12_barsBy_27 d n σ0 Q σ x1 x2 x3 x4 := by
  refine e_iload dX12_barsBy_27 rfl ?_
  refine e_aload_n dX12_barsBy_29 rfl rfl ?_
  refine e_getI dX12_barsBy_30 fl_X12_131 (ob_11 hn) rfl ?_
  refine e_icmp_ge (tgt := 117) dX12_barsBy_33 (by decide) (fun c1 => ?_) (fun c1 => ?_)
  · replace h := h.1 c1
    refine e_iconst dX12_barsBy_117 ci_0 ?_
    refine e_istore dX12_barsBy_118 rfl (by decide) ?_
    exact h
  · replace h := h.2 c1
    refine e_iload dX12_barsBy_36 rfl ?_
    refine e_iconst dX12_barsBy_38 ci_1 ?_
    refine e_iadd dX12_barsBy_39 ?_
    refine e_istore dX12_barsBy_40 rfl (by decide) ?_
    exact h
theorem B_X12_barsBy_120 {d n : Nat} {σ0 : St} {Q : Int32 → St → Prop}  {σ : St} {x1 : Int32} {x2 : Int32} {x3 : Int32} {x4 : Int32} (hn : FIX ≤ n) (hd : 1 ≤ d) (h : (((gI σ 11 2) ≤ x4 → ∃ Q2 : Int32 → St → Prop, Cn (d - 1) n M_X12_saysNever md_X12_saysNever [.ref 11, .int x1, .int x2, .int x3] σ (liI Q2) ∧ ∀ (v5 : Int32) (σ4 : St), Q2 v5 σ4 → Fr md_X12_saysNever σ σ4 → ((v5 = 0 → Q 0 σ4) ∧ (¬ v5 = 0 → Q 5 σ4))) ∧ (¬ (gI σ 11 2) ≤ x4 → vp_in x4 20 ∧ (((fn_X12_holds x3 (gI σ 45 x4.toNatClampNeg)) = 0 → K_X12_barsBy_120 d n σ0 Q σ x1 x2 x3 (x4 + 1)) ∧ (¬ (fn_X12_holds x3 (gI σ 45 x4.toNatClampNeg)) = 0 → vp_in x4 20 ∧ (((fn_X12_holds x3 (gI σ 46 x4.toNatClampNeg)) ≠ 0 → K_X12_barsBy_120 d n σ0 Q σ x1 x2 x3 (x4 + 1)) ∧ ((fn_X12_holds x3 (gI σ 46 x4.toNatClampNeg)) = 0 → vp_in x2 8 ∧ vp_in x4 20 ∧ (((fn_X12_holds (gI σ 48 x2.toNatClampNeg) (gI σ 46 x4.toNatClampNeg)) ≠ 0 → K_X12_barsBy_120 d n σ0 Q σ x1 x2 x3 (x4 + 1)) ∧ ((fn_X12_holds (gI σ 48 x2.toNatClampNeg) (gI σ 46 x4.toNatClampNeg)) = 0 → Q 4 σ))))))))) : K_X12_barsBy_120 d n σ0 Q σ x1 x2 x3 x4 := by
  refine e_iload dX12_barsBy_120 rfl ?_
  refine e_aload_n dX12_barsBy_122 rfl rfl ?_
  refine e_getI dX12_barsBy_123 fl_X12_145 (ob_11 hn) rfl ?_
  refine e_icmp_ge (tgt := 184) dX12_barsBy_126 (by decide) (fun c1 => ?_) (fun c1 => ?_)
  · replace h := h.1 c1
    refine e_aload_n dX12_barsBy_184 rfl rfl ?_
    refine e_iload_n dX12_barsBy_185 rfl rfl ?_
    refine e_iload_n dX12_barsBy_186 rfl rfl ?_
    refine e_iload_n dX12_barsBy_187 rfl rfl ?_
    obtain ⟨Q2, hc3, h⟩ := h
    refine e_callV (M' := M_X12_saysNever) (as := [.int x1, .int x2, .int x3]) (rest := []) dX12_barsBy_188 ml_X12_321 mk_X12_saysNever (ob_11 hn) rfl rfl rfl (Nat.le_of_ble_eq_true rfl) (show 0 < d by omega) hc3 (Md_le (b := md_X12_barsBy) (by decide)) (fun v σ4 hq hf => ?_)
    obtain ⟨v5, rfl, hq⟩ := hq
    replace h := h v5 σ4 hq hf
    refine e_if_eq (tgt := 198) dX12_barsBy_191 (by decide) (fun c8 => ?_) (fun c8 => ?_)
    · replace h := h.1 c8
      refine e_iconst dX12_barsBy_198 ci_0 ?_
      exact e_iret dX12_barsBy_199 rfl ⟨_, rfl, h⟩
    · replace h := h.2 c8
      refine e_iconst dX12_barsBy_194 ci_5 ?_
      refine e_goto (tgt := 199) dX12_barsBy_195 (by decide) ?_
      exact e_iret dX12_barsBy_199 rfl ⟨_, rfl, h⟩
  · replace h := h.2 c1
    refine e_iload_n dX12_barsBy_129 rfl rfl ?_
    refine e_aload_n dX12_barsBy_130 rfl rfl ?_
    refine e_getR (y := 45) dX12_barsBy_131 fl_X12_29 (ob_11 hn) rfl rfl ?_
    refine e_iload dX12_barsBy_134 rfl ?_
    refine e_iald dX12_barsBy_136 (ar_45 hn) h.1 ?_
    replace h := h.2
    refine e_callS (M' := M_X12_holds) (as := [.int x3, .int (gI σ 45 x4.toNatClampNeg)]) (rest := []) dX12_barsBy_137 ml_X12_289 mk_X12_holds rfl (Nat.le_of_ble_eq_true rfl) (show 0 < d by omega) (sp_X12_holds) Md_nil (fun v σv hq hf => ?_)
    obtain ⟨v, rfl, rfl, rfl⟩ := hq
    refine e_if_eq (tgt := 178) dX12_barsBy_140 (by decide) (fun c9 => ?_) (fun c9 => ?_)
    · replace h := h.1 c9
      refine e_iinc dX12_barsBy_178 rfl (ii_1 _) rfl (by decide) ?_
      refine e_goto (tgt := 120) dX12_barsBy_181 (by decide) ?_
      exact h
    · replace h := h.2 c9
      refine e_iload_n dX12_barsBy_143 rfl rfl ?_
      refine e_aload_n dX12_barsBy_144 rfl rfl ?_
      refine e_getR (y := 46) dX12_barsBy_145 fl_X12_32 (ob_11 hn) rfl rfl ?_
      refine e_iload dX12_barsBy_148 rfl ?_
      refine e_iald dX12_barsBy_150 (ar_46 hn) h.1 ?_
      replace h := h.2
      refine e_callS (M' := M_X12_holds) (as := [.int x3, .int (gI σ 46 x4.toNatClampNeg)]) (rest := []) dX12_barsBy_151 ml_X12_289 mk_X12_holds rfl (Nat.le_of_ble_eq_true rfl) (show 0 < d by omega) (sp_X12_holds) Md_nil (fun v σv hq hf => ?_)
      obtain ⟨v, rfl, rfl, rfl⟩ := hq
      refine e_if_ne (tgt := 178) dX12_barsBy_154 (by decide) (fun c10 => ?_) (fun c10 => ?_)
      · replace h := h.1 c10
        refine e_iinc dX12_barsBy_178 rfl (ii_1 _) rfl (by decide) ?_
        refine e_goto (tgt := 120) dX12_barsBy_181 (by decide) ?_
        exact h
      · replace h := h.2 c10
        refine e_aload_n dX12_barsBy_157 rfl rfl ?_
        refine e_getR (y := 48) dX12_barsBy_158 fl_X12_38 (ob_11 hn) rfl rfl ?_
        refine e_iload_n dX12_barsBy_161 rfl rfl ?_
        refine e_iald dX12_barsBy_162 (ar_48 hn) h.1 ?_
        replace h := h.2
        refine e_aload_n dX12_barsBy_163 rfl rfl ?_
        refine e_getR (y := 46) dX12_barsBy_164 fl_X12_32 (ob_11 hn) rfl rfl ?_
        refine e_iload dX12_barsBy_167 rfl ?_
        refine e_iald dX12_barsBy_169 (ar_46 hn) h.1 ?_
        replace h := h.2
        refine e_callS (M' := M_X12_holds) (as := [.int (gI σ 48 x2.toNatClampNeg), .int (gI σ 46 x4.toNatClampNeg)]) (rest := []) dX12_barsBy_170 ml_X12_289 mk_X12_holds rfl (Nat.le_of_ble_eq_true rfl) (show 0 < d by omega) (sp_X12_holds) Md_nil (fun v σv hq hf => ?_)
        obtain ⟨v, rfl, rfl, rfl⟩ := hq
        refine e_if_ne (tgt := 178) dX12_barsBy_173 (by decide) (fun c11 => ?_) (fun c11 => ?_)
        · replace h := h.1 c11
          refine e_iinc dX12_barsBy_178 rfl (ii_1 _) rfl (by decide) ?_
          refine e_goto (tgt := 120) dX12_barsBy_181 (by decide) ?_
          exact h
        · replace h := h.2 c11
          refine e_iconst dX12_barsBy_176 ci_4 ?_
          exact e_iret dX12_barsBy_177 rfl ⟨_, rfl, h⟩
theorem B_X12_barsBy_42 {d n : Nat} {σ0 : St} {Q : Int32 → St → Prop}  {σ : St} {x1 : Int32} {x2 : Int32} {x3 : Int32} {x4 : Int32} {x5 : Int32} (hn : FIX ≤ n) (hd : 1 ≤ d) (h : (((gI σ 11 0) ≤ x5 → K_X12_barsBy_27 d n σ0 Q σ x1 x2 x3 (x4 + 1)) ∧ (¬ (gI σ 11 0) ≤ x5 → (((fn_X12_holds x3 x4) = 0 → K_X12_barsBy_42 d n σ0 Q σ x1 x2 x3 x4 (x5 + 1)) ∧ (¬ (fn_X12_holds x3 x4) = 0 → (((fn_X12_holds x3 x5) = 0 → K_X12_barsBy_42 d n σ0 Q σ x1 x2 x3 x4 (x5 + 1)) ∧ (¬ (fn_X12_holds x3 x5) = 0 → vp_in x4 10 ∧ vp_in x5 10 ∧ (((gI σ 43 x5.toNatClampNeg) ≤ (gI σ 42 x4.toNatClampNeg) → K_X12_barsBy_42 d n σ0 Q σ x1 x2 x3 x4 (x5 + 1)) ∧ (¬ (gI σ 43 x5.toNatClampNeg) ≤ (gI σ 42 x4.toNatClampNeg) → vp_in x5 10 ∧ vp_in x4 10 ∧ (((gI σ 43 x4.toNatClampNeg) ≤ (gI σ 42 x5.toNatClampNeg) → K_X12_barsBy_42 d n σ0 Q σ x1 x2 x3 x4 (x5 + 1)) ∧ (¬ (gI σ 43 x4.toNatClampNeg) ≤ (gI σ 42 x5.toNatClampNeg) → Q 3 σ))))))))))) : K_X12_barsBy_42 d n σ0 Q σ x1 x2 x3 x4 x5 := by
  refine e_iload dX12_barsBy_42 rfl ?_
  refine e_aload_n dX12_barsBy_44 rfl rfl ?_
  refine e_getI dX12_barsBy_45 fl_X12_131 (ob_11 hn) rfl ?_
  refine e_icmp_ge (tgt := 111) dX12_barsBy_48 (by decide) (fun c1 => ?_) (fun c1 => ?_)
  · replace h := h.1 c1
    refine e_iinc dX12_barsBy_111 rfl (ii_1 _) rfl (by decide) ?_
    refine e_goto (tgt := 27) dX12_barsBy_114 (by decide) ?_
    refine e_kill [true, true, true, true, true, false] ?_
    exact h
  · replace h := h.2 c1
    refine e_iload_n dX12_barsBy_51 rfl rfl ?_
    refine e_iload dX12_barsBy_52 rfl ?_
    refine e_callS (M' := M_X12_holds) (as := [.int x3, .int x4]) (rest := []) dX12_barsBy_54 ml_X12_289 mk_X12_holds rfl (Nat.le_of_ble_eq_true rfl) (show 0 < d by omega) (sp_X12_holds) Md_nil (fun v σv hq hf => ?_)
    obtain ⟨v, rfl, rfl, rfl⟩ := hq
    refine e_if_eq (tgt := 105) dX12_barsBy_57 (by decide) (fun c2 => ?_) (fun c2 => ?_)
    · replace h := h.1 c2
      refine e_iinc dX12_barsBy_105 rfl (ii_1 _) rfl (by decide) ?_
      refine e_goto (tgt := 42) dX12_barsBy_108 (by decide) ?_
      exact h
    · replace h := h.2 c2
      refine e_iload_n dX12_barsBy_60 rfl rfl ?_
      refine e_iload dX12_barsBy_61 rfl ?_
      refine e_callS (M' := M_X12_holds) (as := [.int x3, .int x5]) (rest := []) dX12_barsBy_63 ml_X12_289 mk_X12_holds rfl (Nat.le_of_ble_eq_true rfl) (show 0 < d by omega) (sp_X12_holds) Md_nil (fun v σv hq hf => ?_)
      obtain ⟨v, rfl, rfl, rfl⟩ := hq
      refine e_if_eq (tgt := 105) dX12_barsBy_66 (by decide) (fun c3 => ?_) (fun c3 => ?_)
      · replace h := h.1 c3
        refine e_iinc dX12_barsBy_105 rfl (ii_1 _) rfl (by decide) ?_
        refine e_goto (tgt := 42) dX12_barsBy_108 (by decide) ?_
        exact h
      · replace h := h.2 c3
        refine e_aload_n dX12_barsBy_69 rfl rfl ?_
        refine e_getR (y := 42) dX12_barsBy_70 fl_X12_20 (ob_11 hn) rfl rfl ?_
        refine e_iload dX12_barsBy_73 rfl ?_
        refine e_iald dX12_barsBy_75 (ar_42 hn) h.1 ?_
        replace h := h.2
        refine e_aload_n dX12_barsBy_76 rfl rfl ?_
        refine e_getR (y := 43) dX12_barsBy_77 fl_X12_23 (ob_11 hn) rfl rfl ?_
        refine e_iload dX12_barsBy_80 rfl ?_
        refine e_iald dX12_barsBy_82 (ar_43 hn) h.1 ?_
        replace h := h.2
        refine e_icmp_ge (tgt := 105) dX12_barsBy_83 (by decide) (fun c4 => ?_) (fun c4 => ?_)
        · replace h := h.1 c4
          refine e_iinc dX12_barsBy_105 rfl (ii_1 _) rfl (by decide) ?_
          refine e_goto (tgt := 42) dX12_barsBy_108 (by decide) ?_
          exact h
        · replace h := h.2 c4
          refine e_aload_n dX12_barsBy_86 rfl rfl ?_
          refine e_getR (y := 42) dX12_barsBy_87 fl_X12_20 (ob_11 hn) rfl rfl ?_
          refine e_iload dX12_barsBy_90 rfl ?_
          refine e_iald dX12_barsBy_92 (ar_42 hn) h.1 ?_
          replace h := h.2
          refine e_aload_n dX12_barsBy_93 rfl rfl ?_
          refine e_getR (y := 43) dX12_barsBy_94 fl_X12_23 (ob_11 hn) rfl rfl ?_
          refine e_iload dX12_barsBy_97 rfl ?_
          refine e_iald dX12_barsBy_99 (ar_43 hn) h.1 ?_
          replace h := h.2
          refine e_icmp_ge (tgt := 105) dX12_barsBy_100 (by decide) (fun c5 => ?_) (fun c5 => ?_)
          · replace h := h.1 c5
            refine e_iinc dX12_barsBy_105 rfl (ii_1 _) rfl (by decide) ?_
            refine e_goto (tgt := 42) dX12_barsBy_108 (by decide) ?_
            exact h
          · replace h := h.2 c5
            refine e_iconst dX12_barsBy_103 ci_3 ?_
            exact e_iret dX12_barsBy_104 rfl ⟨_, rfl, h⟩
theorem S_X12_barsBy {d n : Nat} {Q : Int32 → St → Prop} {σ : St} {a1 : Int32} {a2 : Int32} {a3 : Int32} (hn : FIX ≤ n) (hd : 1 ≤ d) (h : (((a3 >>> ((gI σ 11 0) &&& 31)) ≤ 0 → ∃ Q2 : Int32 → St → Prop, Cn (d - 1) n M_X12_bits md_X12_bits [.int a3] σ (liI Q2) ∧ ∀ (v5 : Int32) (σ4 : St), Q2 v5 σ4 → Fr md_X12_bits σ σ4 → ((v5 ≤ (gI σ4 11 3) → K_X12_barsBy_27 d n σ Q σ4 a1 a2 a3 0) ∧ (¬ v5 ≤ (gI σ4 11 3) → Q 2 σ4))) ∧ (¬ (a3 >>> ((gI σ 11 0) &&& 31)) ≤ 0 → Q 1 σ))) : Cn d n M_X12_barsBy md_X12_barsBy [.ref 11, .int a1, .int a2, .int a3] σ (liI Q) := by
  refine Cn.of (k0 := 2) (by decide) rfl ?_
  show Ev (d, n, md_X12_barsBy, σ, liI Q) M_X12_barsBy 0 [some (.ref 11), some (.int a1), some (.int a2), some (.int a3), none, none] [] σ
  refine e_iload_n dX12_barsBy_0 rfl rfl ?_
  refine e_aload_n dX12_barsBy_1 rfl rfl ?_
  refine e_getI dX12_barsBy_2 fl_X12_131 (ob_11 hn) rfl ?_
  refine e_ishr dX12_barsBy_5 ?_
  refine e_if_le (tgt := 11) dX12_barsBy_6 (by decide) (fun c1 => ?_) (fun c1 => ?_)
  · replace h := h.1 c1
    refine e_iload_n dX12_barsBy_11 rfl rfl ?_
    obtain ⟨Q2, hc3, h⟩ := h
    refine e_callS (M' := M_X12_bits) (as := [.int a3]) (rest := []) dX12_barsBy_12 ml_X12_306 mk_X12_bits rfl (Nat.le_of_ble_eq_true rfl) (show 0 < d by omega) hc3 (Md_le (b := md_X12_barsBy) (by decide)) (fun v σ4 hq hf => ?_)
    obtain ⟨v5, rfl, hq⟩ := hq
    replace h := h v5 σ4 hq hf
    refine e_aload_n dX12_barsBy_15 rfl rfl ?_
    refine e_getI dX12_barsBy_16 fl_X12_7 (ob_11 hn) rfl ?_
    refine e_icmp_le (tgt := 24) dX12_barsBy_19 (by decide) (fun c8 => ?_) (fun c8 => ?_)
    · replace h := h.1 c8
      refine e_iconst dX12_barsBy_24 ci_0 ?_
      refine e_istore dX12_barsBy_25 rfl (by decide) ?_
      exact h
    · replace h := h.2 c8
      refine e_iconst dX12_barsBy_22 ci_2 ?_
      exact e_iret dX12_barsBy_23 rfl ⟨_, rfl, h⟩
  · replace h := h.2 c1
    refine e_iconst dX12_barsBy_9 ci_1 ?_
    exact e_iret dX12_barsBy_10 rfl ⟨_, rfl, h⟩
theorem S_X12_bars {d n : Nat} {Q : Int32 → St → Prop} {σ : St} {a1 : Int32} {a2 : Int32} (hn : FIX ≤ n) (hd : 2 ≤ d) (h : (((fn_X12_isPerson σ a1) = 0 → Q (-1) σ) ∧ (¬ (fn_X12_isPerson σ a1) = 0 → (((fn_X12_isBundle a2) = 0 → Q (-1) σ) ∧ (¬ (fn_X12_isBundle a2) = 0 → ∃ Q3 : Int32 → St → Prop, Cn (d - 1) n M_X12_barsBy md_X12_barsBy [.ref 11, .int a1, .int a1, .int a2] σ (liI Q3) ∧ ∀ (v6 : Int32) (σ5 : St), Q3 v6 σ5 → Fr md_X12_barsBy σ σ5 → Q v6 σ5))))) : Cn d n M_X12_bars md_X12_bars [.ref 11, .int a1, .int a2] σ (liI Q) := by
  refine Cn.of (k0 := 0) (by decide) rfl ?_
  show Ev (d, n, md_X12_bars, σ, liI Q) M_X12_bars 0 [some (.ref 11), some (.int a1), some (.int a2)] [] σ
  refine e_aload_n dX12_bars_0 rfl rfl ?_
  refine e_iload_n dX12_bars_1 rfl rfl ?_
  refine e_callV (M' := M_X12_isPerson) (as := [.int a1]) (rest := []) dX12_bars_2 ml_X12_151 mk_X12_isPerson (ob_11 hn) rfl rfl rfl (Nat.le_of_ble_eq_true rfl) (show 0 < d by omega) (sp_X12_isPerson hn (show 1 ≤ d - 1 by omega)) Md_nil (fun v σv hq hf => ?_)
  obtain ⟨v, rfl, rfl, rfl⟩ := hq
  refine e_if_eq (tgt := 25) dX12_bars_5 (by decide) (fun c1 => ?_) (fun c1 => ?_)
  · replace h := h.1 c1
    refine e_iconst dX12_bars_25 ci_m1 ?_
    exact e_iret dX12_bars_26 rfl ⟨_, rfl, h⟩
  · replace h := h.2 c1
    refine e_iload_n dX12_bars_8 rfl rfl ?_
    refine e_callS (M' := M_X12_isBundle) (as := [.int a2]) (rest := []) dX12_bars_9 ml_X12_148 mk_X12_isBundle rfl (Nat.le_of_ble_eq_true rfl) (show 0 < d by omega) (sp_X12_isBundle (show 1 ≤ d - 1 by omega)) Md_nil (fun v σv hq hf => ?_)
    obtain ⟨v, rfl, rfl, rfl⟩ := hq
    refine e_if_eq (tgt := 25) dX12_bars_12 (by decide) (fun c2 => ?_) (fun c2 => ?_)
    · replace h := h.1 c2
      refine e_iconst dX12_bars_25 ci_m1 ?_
      exact e_iret dX12_bars_26 rfl ⟨_, rfl, h⟩
    · replace h := h.2 c2
      refine e_aload_n dX12_bars_15 rfl rfl ?_
      refine e_iload_n dX12_bars_16 rfl rfl ?_
      refine e_iload_n dX12_bars_17 rfl rfl ?_
      refine e_iload_n dX12_bars_18 rfl rfl ?_
      obtain ⟨Q3, hc4, h⟩ := h
      refine e_callV (M' := M_X12_barsBy) (as := [.int a1, .int a1, .int a2]) (rest := []) dX12_bars_19 ml_X12_324 mk_X12_barsBy (ob_11 hn) rfl rfl rfl (Nat.le_of_ble_eq_true rfl) (show 0 < d by omega) hc4 (Md_le (b := md_X12_bars) (by decide)) (fun v σ5 hq hf => ?_)
      obtain ⟨v6, rfl, hq⟩ := hq
      replace h := h v6 σ5 hq hf
      refine e_goto (tgt := 26) dX12_bars_22 (by decide) ?_
      exact e_iret dX12_bars_26 rfl ⟨_, rfl, h⟩
theorem S_X12_worth {d n : Nat} {Q : Int32 → St → Prop} {σ : St} {a1 : Int32} {a2 : Int32} (hn : FIX ≤ n) (hd : 2 ≤ d) (h : (((fn_X12_isPerson σ a1) = 0 → Q (-2000000) σ) ∧ (¬ (fn_X12_isPerson σ a1) = 0 → (((fn_X12_isBundle a2) = 0 → Q (-2000000) σ) ∧ (¬ (fn_X12_isBundle a2) = 0 → ∃ Q3 : Int32 → St → Prop, Cn (d - 1) n M_X12_worthBy md_X12_worthBy [.ref 11, .int a1, .int a1, .int a2] σ (liI Q3) ∧ ∀ (v6 : Int32) (σ5 : St), Q3 v6 σ5 → Fr md_X12_worthBy σ σ5 → Q v6 σ5))))) : Cn d n M_X12_worth md_X12_worth [.ref 11, .int a1, .int a2] σ (liI Q) := by
  refine Cn.of (k0 := 0) (by decide) rfl ?_
  show Ev (d, n, md_X12_worth, σ, liI Q) M_X12_worth 0 [some (.ref 11), some (.int a1), some (.int a2)] [] σ
  refine e_aload_n dX12_worth_0 rfl rfl ?_
  refine e_iload_n dX12_worth_1 rfl rfl ?_
  refine e_callV (M' := M_X12_isPerson) (as := [.int a1]) (rest := []) dX12_worth_2 ml_X12_151 mk_X12_isPerson (ob_11 hn) rfl rfl rfl (Nat.le_of_ble_eq_true rfl) (show 0 < d by omega) (sp_X12_isPerson hn (show 1 ≤ d - 1 by omega)) Md_nil (fun v σv hq hf => ?_)
  obtain ⟨v, rfl, rfl, rfl⟩ := hq
  refine e_if_eq (tgt := 25) dX12_worth_5 (by decide) (fun c1 => ?_) (fun c1 => ?_)
  · replace h := h.1 c1
    refine e_ldcw dX12_worth_25 ck_X12_331 ?_
    exact e_iret dX12_worth_28 rfl ⟨_, rfl, h⟩
  · replace h := h.2 c1
    refine e_iload_n dX12_worth_8 rfl rfl ?_
    refine e_callS (M' := M_X12_isBundle) (as := [.int a2]) (rest := []) dX12_worth_9 ml_X12_148 mk_X12_isBundle rfl (Nat.le_of_ble_eq_true rfl) (show 0 < d by omega) (sp_X12_isBundle (show 1 ≤ d - 1 by omega)) Md_nil (fun v σv hq hf => ?_)
    obtain ⟨v, rfl, rfl, rfl⟩ := hq
    refine e_if_eq (tgt := 25) dX12_worth_12 (by decide) (fun c2 => ?_) (fun c2 => ?_)
    · replace h := h.1 c2
      refine e_ldcw dX12_worth_25 ck_X12_331 ?_
      exact e_iret dX12_worth_28 rfl ⟨_, rfl, h⟩
    · replace h := h.2 c2
      refine e_aload_n dX12_worth_15 rfl rfl ?_
      refine e_iload_n dX12_worth_16 rfl rfl ?_
      refine e_iload_n dX12_worth_17 rfl rfl ?_
      refine e_iload_n dX12_worth_18 rfl rfl ?_
      obtain ⟨Q3, hc4, h⟩ := h
      refine e_callV (M' := M_X12_worthBy) (as := [.int a1, .int a1, .int a2]) (rest := []) dX12_worth_19 ml_X12_328 mk_X12_worthBy (ob_11 hn) rfl rfl rfl (Nat.le_of_ble_eq_true rfl) (show 0 < d by omega) hc4 (Md_le (b := md_X12_worth) (by decide)) (fun v σ5 hq hf => ?_)
      obtain ⟨v6, rfl, hq⟩ := hq
      replace h := h v6 σ5 hq hf
      refine e_goto (tgt := 28) dX12_worth_22 (by decide) ?_
      exact e_iret dX12_worth_28 rfl ⟨_, rfl, h⟩
abbrev K_X12_fills_3 (d n : Nat) (σ0 : St) (Q : St → Prop) (σ : St) (x1 : Int32) (x2 : Int32) (x3 : Int32) (x4 : Int32) : Prop := Ev (d, n, md_X12_fills, σ0, liV Q) M_X12_fills 3 [some (.ref 11), some (.int x1), some (.int x2), some (.int x3), some (.int x4)] [] σ
theorem B_X12_fills_3 {d n : Nat} {σ0 : St} {Q : St → Prop}  {σ : St} {x1 : Int32} {x2 : Int32} {x3 : Int32} {x4 : Int32} (hn : FIX ≤ n) (hd : 1 ≤ d) (h : (((1024 : Int32) ≤ x4 → Q σ) ∧ (¬ (1024 : Int32) ≤ x4 → ∃ Q2 : Int32 → St → Prop, Cn (d - 1) n M_X12_barsBy md_X12_barsBy [.ref 11, .int x2, .int x3, .int x4] σ (liI Q2) ∧ ∀ (v5 : Int32) (σ4 : St), Q2 v5 σ4 → Fr md_X12_barsBy σ σ4 → ((v5 ≠ 0 → vp_in ((1024 * x1) + x4) 9216 ∧ ∃ Q9 : Int32 → St → Prop, Cn (d - 1) n M_X12_worthBy md_X12_worthBy [.ref 11, .int x2, .int x3, .int x4] (sI σ4 61 ((1024 * x1) + x4).toNatClampNeg (vp_nar .boolean 0)) (liI Q9) ∧ ∀ (v12 : Int32) (σ11 : St), Q9 v12 σ11 → Fr md_X12_worthBy (sI σ4 61 ((1024 * x1) + x4).toNatClampNeg (vp_nar .boolean 0)) σ11 → vp_in ((1024 * x1) + x4) 9216 ∧ K_X12_fills_3 d n σ0 Q (sI σ11 62 ((1024 * x1) + x4).toNatClampNeg v12) x1 x2 x3 (x4 + 1)) ∧ (v5 = 0 → vp_in ((1024 * x1) + x4) 9216 ∧ ∃ Q15 : Int32 → St → Prop, Cn (d - 1) n M_X12_worthBy md_X12_worthBy [.ref 11, .int x2, .int x3, .int x4] (sI σ4 61 ((1024 * x1) + x4).toNatClampNeg (vp_nar .boolean 1)) (liI Q15) ∧ ∀ (v18 : Int32) (σ17 : St), Q15 v18 σ17 → Fr md_X12_worthBy (sI σ4 61 ((1024 * x1) + x4).toNatClampNeg (vp_nar .boolean 1)) σ17 → vp_in ((1024 * x1) + x4) 9216 ∧ K_X12_fills_3 d n σ0 Q (sI σ17 62 ((1024 * x1) + x4).toNatClampNeg v18) x1 x2 x3 (x4 + 1)))))) : K_X12_fills_3 d n σ0 Q σ x1 x2 x3 x4 := by
  refine e_iload dX12_fills_3 rfl ?_
  refine e_sipush dX12_fills_5 cs_1024 ?_
  refine e_icmp_ge (tgt := 67) dX12_fills_8 (by decide) (fun c1 => ?_) (fun c1 => ?_)
  · replace h := h.1 c1
    exact e_vret dX12_fills_67 rfl ⟨rfl, h⟩
  · replace h := h.2 c1
    refine e_aload_n dX12_fills_11 rfl rfl ?_
    refine e_getR (y := 61) dX12_fills_12 fl_X12_85 (ob_11 hn) rfl rfl ?_
    refine e_sipush dX12_fills_15 cs_1024 ?_
    refine e_iload_n dX12_fills_18 rfl rfl ?_
    refine e_imul dX12_fills_19 ?_
    refine e_iload dX12_fills_20 rfl ?_
    refine e_iadd dX12_fills_22 ?_
    refine e_aload_n dX12_fills_23 rfl rfl ?_
    refine e_iload_n dX12_fills_24 rfl rfl ?_
    refine e_iload_n dX12_fills_25 rfl rfl ?_
    refine e_iload dX12_fills_26 rfl ?_
    obtain ⟨Q2, hc3, h⟩ := h
    refine e_callV (M' := M_X12_barsBy) (as := [.int x2, .int x3, .int x4]) (rest := [.int ((1024 * x1) + x4), .ref 61]) dX12_fills_28 ml_X12_324 mk_X12_barsBy (ob_11 hn) rfl rfl rfl (Nat.le_of_ble_eq_true rfl) (show 0 < d by omega) hc3 (Md_le (b := md_X12_fills) (by decide)) (fun v σ4 hq hf => ?_)
    obtain ⟨v5, rfl, hq⟩ := hq
    replace h := h v5 σ4 hq hf
    refine e_if_ne (tgt := 38) dX12_fills_31 (by decide) (fun c8 => ?_) (fun c8 => ?_)
    · replace h := h.1 c8
      refine e_iconst dX12_fills_38 ci_0 ?_
      refine e_zast dX12_fills_39 (ar_61 hn) h.1 (md_r (m := md_X12_fills) (by decide)) ?_
      replace h := h.2
      refine e_aload_n dX12_fills_40 rfl rfl ?_
      refine e_getR (y := 62) dX12_fills_41 fl_X12_89 (ob_11 hn) rfl rfl ?_
      refine e_sipush dX12_fills_44 cs_1024 ?_
      refine e_iload_n dX12_fills_47 rfl rfl ?_
      refine e_imul dX12_fills_48 ?_
      refine e_iload dX12_fills_49 rfl ?_
      refine e_iadd dX12_fills_51 ?_
      refine e_aload_n dX12_fills_52 rfl rfl ?_
      refine e_iload_n dX12_fills_53 rfl rfl ?_
      refine e_iload_n dX12_fills_54 rfl rfl ?_
      refine e_iload dX12_fills_55 rfl ?_
      obtain ⟨Q9, hc10, h⟩ := h
      refine e_callV (M' := M_X12_worthBy) (as := [.int x2, .int x3, .int x4]) (rest := [.int ((1024 * x1) + x4), .ref 62]) dX12_fills_57 ml_X12_328 mk_X12_worthBy (ob_11 hn) rfl rfl rfl (Nat.le_of_ble_eq_true rfl) (show 0 < d by omega) hc10 (Md_le (b := md_X12_fills) (by decide)) (fun v σ11 hq hf => ?_)
      obtain ⟨v12, rfl, hq⟩ := hq
      replace h := h v12 σ11 hq hf
      refine e_iast dX12_fills_60 (ar_62 hn) h.1 (md_r (m := md_X12_fills) (by decide)) ?_
      replace h := h.2
      refine e_iinc dX12_fills_61 rfl (ii_1 _) rfl (by decide) ?_
      refine e_goto (tgt := 3) dX12_fills_64 (by decide) ?_
      exact h
    · replace h := h.2 c8
      refine e_iconst dX12_fills_34 ci_1 ?_
      refine e_goto (tgt := 39) dX12_fills_35 (by decide) ?_
      refine e_zast dX12_fills_39 (ar_61 hn) h.1 (md_r (m := md_X12_fills) (by decide)) ?_
      replace h := h.2
      refine e_aload_n dX12_fills_40 rfl rfl ?_
      refine e_getR (y := 62) dX12_fills_41 fl_X12_89 (ob_11 hn) rfl rfl ?_
      refine e_sipush dX12_fills_44 cs_1024 ?_
      refine e_iload_n dX12_fills_47 rfl rfl ?_
      refine e_imul dX12_fills_48 ?_
      refine e_iload dX12_fills_49 rfl ?_
      refine e_iadd dX12_fills_51 ?_
      refine e_aload_n dX12_fills_52 rfl rfl ?_
      refine e_iload_n dX12_fills_53 rfl rfl ?_
      refine e_iload_n dX12_fills_54 rfl rfl ?_
      refine e_iload dX12_fills_55 rfl ?_
      obtain ⟨Q15, hc16, h⟩ := h
      refine e_callV (M' := M_X12_worthBy) (as := [.int x2, .int x3, .int x4]) (rest := [.int ((1024 * x1) + x4), .ref 62]) dX12_fills_57 ml_X12_328 mk_X12_worthBy (ob_11 hn) rfl rfl rfl (Nat.le_of_ble_eq_true rfl) (show 0 < d by omega) hc16 (Md_le (b := md_X12_fills) (by decide)) (fun v σ17 hq hf => ?_)
      obtain ⟨v18, rfl, hq⟩ := hq
      replace h := h v18 σ17 hq hf
      refine e_iast dX12_fills_60 (ar_62 hn) h.1 (md_r (m := md_X12_fills) (by decide)) ?_
      replace h := h.2
      refine e_iinc dX12_fills_61 rfl (ii_1 _) rfl (by decide) ?_
      refine e_goto (tgt := 3) dX12_fills_64 (by decide) ?_
      exact h
theorem S_X12_fills {d n : Nat} {Q : St → Prop} {σ : St} {a1 : Int32} {a2 : Int32} {a3 : Int32} (hn : FIX ≤ n) (hd : 1 ≤ d) (h : K_X12_fills_3 d n σ Q σ a1 a2 a3 0) : Cn d n M_X12_fills md_X12_fills [.ref 11, .int a1, .int a2, .int a3] σ (liV Q) := by
  refine Cn.of (k0 := 1) (by decide) rfl ?_
  show Ev (d, n, md_X12_fills, σ, liV Q) M_X12_fills 0 [some (.ref 11), some (.int a1), some (.int a2), some (.int a3), none] [] σ
  refine e_iconst dX12_fills_0 ci_0 ?_
  refine e_istore dX12_fills_1 rfl (by decide) ?_
  exact h
abbrev K_X12_tables_14 (d n : Nat) (σ0 : St) (Q : St → Prop) (σ : St) (x1 : Int32) : Prop := Ev (d, n, md_X12_tables, σ0, liV Q) M_X12_tables 14 [some (.ref 11), some (.int x1)] [] σ
theorem B_X12_tables_14 {d n : Nat} {σ0 : St} {Q : St → Prop}  {σ : St} {x1 : Int32} (hn : FIX ≤ n) (hd : 1 ≤ d) (h : (((gI σ 11 1) ≤ x1 → Q (sI σ 11 37 (gI σ 11 20))) ∧ (¬ (gI σ 11 1) ≤ x1 → ∃ Q2 : St → Prop, Cn (d - 1) n M_X12_fills md_X12_fills [.ref 11, .int x1, .int x1, .int x1] σ (liV Q2) ∧ ∀ (σ4 : St), Q2 σ4 → Fr md_X12_fills σ σ4 → K_X12_tables_14 d n σ0 Q σ4 (x1 + 1)))) : K_X12_tables_14 d n σ0 Q σ x1 := by
  refine e_iload_n dX12_tables_14 rfl rfl ?_
  refine e_aload_n dX12_tables_15 rfl rfl ?_
  refine e_getI dX12_tables_16 fl_X12_138 (ob_11 hn) rfl ?_
  refine e_icmp_ge (tgt := 35) dX12_tables_19 (by decide) (fun c1 => ?_) (fun c1 => ?_)
  · replace h := h.1 c1
    refine e_aload_n dX12_tables_35 rfl rfl ?_
    refine e_aload_n dX12_tables_36 rfl rfl ?_
    refine e_getI dX12_tables_37 fl_X12_47 (ob_11 hn) rfl ?_
    refine e_putI dX12_tables_40 fl_X12_332 (ob_11 hn) rfl (fpI_12_37 _) (md_c (m := md_X12_tables) (by decide)) ?_
    exact e_vret dX12_tables_43 rfl ⟨rfl, h⟩
  · replace h := h.2 c1
    refine e_aload_n dX12_tables_22 rfl rfl ?_
    refine e_iload_n dX12_tables_23 rfl rfl ?_
    refine e_iload_n dX12_tables_24 rfl rfl ?_
    refine e_iload_n dX12_tables_25 rfl rfl ?_
    obtain ⟨Q2, hc3, h⟩ := h
    refine e_callV (M' := M_X12_fills) (as := [.int x1, .int x1, .int x1]) (rest := []) dX12_tables_26 ml_X12_335 mk_X12_fills (ob_11 hn) rfl rfl rfl (Nat.le_of_ble_eq_true rfl) (show 0 < d by omega) hc3 (Md_le (b := md_X12_tables) (by decide)) (fun v σ4 hq hf => ?_)
    obtain ⟨rfl, hq⟩ := hq
    replace h := h σ4 hq hf
    refine e_iinc dX12_tables_29 rfl (ii_1 _) rfl (by decide) ?_
    refine e_goto (tgt := 14) dX12_tables_32 (by decide) ?_
    exact h
theorem S_X12_tables {d n : Nat} {Q : St → Prop} {σ : St}  (hn : FIX ≤ n) (hd : 1 ≤ d) (h : (((gI σ 11 37) ≠ (gI σ 11 20) → K_X12_tables_14 d n σ Q σ 0) ∧ ((gI σ 11 37) = (gI σ 11 20) → Q σ))) : Cn d n M_X12_tables md_X12_tables [.ref 11] σ (liV Q) := by
  refine Cn.of (k0 := 1) (by decide) rfl ?_
  show Ev (d, n, md_X12_tables, σ, liV Q) M_X12_tables 0 [some (.ref 11), none] [] σ
  refine e_aload_n dX12_tables_0 rfl rfl ?_
  refine e_getI dX12_tables_1 fl_X12_332 (ob_11 hn) rfl ?_
  refine e_aload_n dX12_tables_4 rfl rfl ?_
  refine e_getI dX12_tables_5 fl_X12_47 (ob_11 hn) rfl ?_
  refine e_icmp_ne (tgt := 12) dX12_tables_8 (by decide) (fun c1 => ?_) (fun c1 => ?_)
  · replace h := h.1 c1
    refine e_iconst dX12_tables_12 ci_0 ?_
    refine e_istore_n dX12_tables_13 rfl rfl (by decide) ?_
    exact h
  · replace h := h.2 c1
    exact e_vret dX12_tables_11 rfl ⟨rfl, h⟩
abbrev K_X12_costOf_4 (d n : Nat) (σ0 : St) (Q : Int32 → St → Prop) (σ : St) (x1 : Int32) (x2 : Int32) (x3 : Int32) : Prop := Ev (d, n, md_X12_costOf, σ0, liI Q) M_X12_costOf 4 [some (.ref 11), some (.int x1), some (.int x2), some (.int x3)] [] σ
theorem B_X12_costOf_4 {d n : Nat} {σ0 : St} {Q : Int32 → St → Prop}  {σ : St} {x1 : Int32} {x2 : Int32} {x3 : Int32} (hn : FIX ≤ n) (hd : 1 ≤ d) (h : (((gI σ 11 0) ≤ x3 → Q x2 σ) ∧ (¬ (gI σ 11 0) ≤ x3 → (((fn_X12_holds x1 x3) = 0 → K_X12_costOf_4 d n σ0 Q σ x1 (x2 + 0) (x3 + 1)) ∧ (¬ (fn_X12_holds x1 x3) = 0 → vp_in x3 10 ∧ K_X12_costOf_4 d n σ0 Q σ x1 (x2 + (gI σ 63 x3.toNatClampNeg)) (x3 + 1)))))) : K_X12_costOf_4 d n σ0 Q σ x1 x2 x3 := by
  refine e_iload_n dX12_costOf_4 rfl rfl ?_
  refine e_aload_n dX12_costOf_5 rfl rfl ?_
  refine e_getI dX12_costOf_6 fl_X12_131 (ob_11 hn) rfl ?_
  refine e_icmp_ge (tgt := 39) dX12_costOf_9 (by decide) (fun c1 => ?_) (fun c1 => ?_)
  · replace h := h.1 c1
    refine e_iload_n dX12_costOf_39 rfl rfl ?_
    exact e_iret dX12_costOf_40 rfl ⟨_, rfl, h⟩
  · replace h := h.2 c1
    refine e_iload_n dX12_costOf_12 rfl rfl ?_
    refine e_iload_n dX12_costOf_13 rfl rfl ?_
    refine e_iload_n dX12_costOf_14 rfl rfl ?_
    refine e_callS (M' := M_X12_holds) (as := [.int x1, .int x3]) (rest := [.int x2]) dX12_costOf_15 ml_X12_289 mk_X12_holds rfl (Nat.le_of_ble_eq_true rfl) (show 0 < d by omega) (sp_X12_holds) Md_nil (fun v σv hq hf => ?_)
    obtain ⟨v, rfl, rfl, rfl⟩ := hq
    refine e_if_eq (tgt := 30) dX12_costOf_18 (by decide) (fun c2 => ?_) (fun c2 => ?_)
    · replace h := h.1 c2
      refine e_iconst dX12_costOf_30 ci_0 ?_
      refine e_iadd dX12_costOf_31 ?_
      refine e_istore_n dX12_costOf_32 rfl rfl (by decide) ?_
      refine e_iinc dX12_costOf_33 rfl (ii_1 _) rfl (by decide) ?_
      refine e_goto (tgt := 4) dX12_costOf_36 (by decide) ?_
      exact h
    · replace h := h.2 c2
      refine e_aload_n dX12_costOf_21 rfl rfl ?_
      refine e_getR (y := 63) dX12_costOf_22 fl_X12_95 (ob_11 hn) rfl rfl ?_
      refine e_iload_n dX12_costOf_25 rfl rfl ?_
      refine e_iald dX12_costOf_26 (ar_63 hn) h.1 ?_
      replace h := h.2
      refine e_goto (tgt := 31) dX12_costOf_27 (by decide) ?_
      refine e_iadd dX12_costOf_31 ?_
      refine e_istore_n dX12_costOf_32 rfl rfl (by decide) ?_
      refine e_iinc dX12_costOf_33 rfl (ii_1 _) rfl (by decide) ?_
      refine e_goto (tgt := 4) dX12_costOf_36 (by decide) ?_
      exact h
theorem S_X12_costOf {d n : Nat} {Q : Int32 → St → Prop} {σ : St} {a1 : Int32} (hn : FIX ≤ n) (hd : 1 ≤ d) (h : K_X12_costOf_4 d n σ Q σ a1 0 0) : Cn d n M_X12_costOf md_X12_costOf [.ref 11, .int a1] σ (liI Q) := by
  refine Cn.of (k0 := 2) (by decide) rfl ?_
  show Ev (d, n, md_X12_costOf, σ, liI Q) M_X12_costOf 0 [some (.ref 11), some (.int a1), none, none] [] σ
  refine e_iconst dX12_costOf_0 ci_0 ?_
  refine e_istore_n dX12_costOf_1 rfl rfl (by decide) ?_
  refine e_iconst dX12_costOf_2 ci_0 ?_
  refine e_istore_n dX12_costOf_3 rfl rfl (by decide) ?_
  exact h
abbrev K_X12_buysBy_21 (d n : Nat) (σ0 : St) (Q : Int32 → St → Prop) (σ : St) (x1 : Int32) (x2 : Int32) (x3 : Int32) (x4 : Int32) : Prop := Ev (d, n, md_X12_buysBy, σ0, liI Q) M_X12_buysBy 21 [some (.ref 11), some (.int x1), some (.int x2), some (.int x3), some (.int x4), none, none] [] σ
theorem B_X12_buysBy_21 {d n : Nat} {σ0 : St} {Q : Int32 → St → Prop}  {σ : St} {x1 : Int32} {x2 : Int32} {x3 : Int32} {x4 : Int32} (hn : FIX ≤ n) (hd : 1 ≤ d) (h : ((((1 : Int32) <<< ((gI σ 11 0) &&& 31)) ≤ x4 → Q x3 σ) ∧ (¬ ((1 : Int32) <<< ((gI σ 11 0) &&& 31)) ≤ x4 → pre_X12_isLawful σ x2 x4 ∧ (((fn_X12_isLawful σ x2 x4) ≠ 0 → ∃ Q3 : Int32 → St → Prop, Cn (d - 1) n M_X12_costOf md_X12_costOf [.ref 11, .int x4] σ (liI Q3) ∧ ∀ (v6 : Int32) (σ5 : St), Q3 v6 σ5 → Fr md_X12_costOf σ σ5 → pre_X12_worthOf σ5 x2 x4 ∧ vp_in x1 8 ∧ (((gI σ5 47 x1.toNatClampNeg) < v6 → K_X12_buysBy_21 d n σ0 Q σ5 x1 x2 x3 (x4 + 1)) ∧ (¬ (gI σ5 47 x1.toNatClampNeg) < v6 → ((x3 = (-1) → K_X12_buysBy_21 d n σ0 Q (sI (sI σ5 11 40 v6) 11 41 (fn_X12_worthOf σ5 x2 x4)) x1 x2 x4 (x4 + 1)) ∧ (¬ x3 = (-1) → (((fn_X12_worthOf σ5 x2 x4) < (gI σ5 11 41) → K_X12_buysBy_21 d n σ0 Q σ5 x1 x2 x3 (x4 + 1)) ∧ (¬ (fn_X12_worthOf σ5 x2 x4) < (gI σ5 11 41) → (((fn_X12_worthOf σ5 x2 x4) ≠ (gI σ5 11 41) → K_X12_buysBy_21 d n σ0 Q (sI (sI σ5 11 40 v6) 11 41 (fn_X12_worthOf σ5 x2 x4)) x1 x2 x4 (x4 + 1)) ∧ ((fn_X12_worthOf σ5 x2 x4) = (gI σ5 11 41) → ((v6 < (gI σ5 11 40) → K_X12_buysBy_21 d n σ0 Q (sI (sI σ5 11 40 v6) 11 41 (fn_X12_worthOf σ5 x2 x4)) x1 x2 x4 (x4 + 1)) ∧ (¬ v6 < (gI σ5 11 40) → K_X12_buysBy_21 d n σ0 Q σ5 x1 x2 x3 (x4 + 1)))))))))))) ∧ ((fn_X12_isLawful σ x2 x4) = 0 → K_X12_buysBy_21 d n σ0 Q σ x1 x2 x3 (x4 + 1)))))) : K_X12_buysBy_21 d n σ0 Q σ x1 x2 x3 x4 := by
  refine e_iload dX12_buysBy_21 rfl ?_
  refine e_iconst dX12_buysBy_23 ci_1 ?_
  refine e_aload_n dX12_buysBy_24 rfl rfl ?_
  refine e_getI dX12_buysBy_25 fl_X12_131 (ob_11 hn) rfl ?_
  refine e_ishl dX12_buysBy_28 ?_
  refine e_icmp_ge (tgt := 129) dX12_buysBy_29 (by decide) (fun c1 => ?_) (fun c1 => ?_)
  · replace h := h.1 c1
    refine e_iload_n dX12_buysBy_129 rfl rfl ?_
    exact e_iret dX12_buysBy_130 rfl ⟨_, rfl, h⟩
  · replace h := h.2 c1
    refine e_aload_n dX12_buysBy_32 rfl rfl ?_
    refine e_iload_n dX12_buysBy_33 rfl rfl ?_
    refine e_iload dX12_buysBy_34 rfl ?_
    refine e_callV (M' := M_X12_isLawful) (as := [.int x2, .int x4]) (rest := []) dX12_buysBy_36 ml_X12_348 mk_X12_isLawful (ob_11 hn) rfl rfl rfl (Nat.le_of_ble_eq_true rfl) (show 0 < d by omega) (sp_X12_isLawful hn h.1) Md_nil (fun v σv hq hf => ?_)
    obtain ⟨v, rfl, rfl, rfl⟩ := hq
    replace h := h.2
    refine e_if_ne (tgt := 45) dX12_buysBy_39 (by decide) (fun c2 => ?_) (fun c2 => ?_)
    · replace h := h.1 c2
      refine e_aload_n dX12_buysBy_45 rfl rfl ?_
      refine e_iload dX12_buysBy_46 rfl ?_
      obtain ⟨Q3, hc4, h⟩ := h
      refine e_callV (M' := M_X12_costOf) (as := [.int x4]) (rest := []) dX12_buysBy_48 ml_X12_351 mk_X12_costOf (ob_11 hn) rfl rfl rfl (Nat.le_of_ble_eq_true rfl) (show 0 < d by omega) hc4 (Md_le (b := md_X12_buysBy) (by decide)) (fun v σ5 hq hf => ?_)
      obtain ⟨v6, rfl, hq⟩ := hq
      replace h := h v6 σ5 hq hf
      refine e_istore dX12_buysBy_51 rfl (by decide) ?_
      refine e_aload_n dX12_buysBy_53 rfl rfl ?_
      refine e_iload_n dX12_buysBy_54 rfl rfl ?_
      refine e_iload dX12_buysBy_55 rfl ?_
      refine e_callV (M' := M_X12_worthOf) (as := [.int x2, .int x4]) (rest := []) dX12_buysBy_57 ml_X12_354 mk_X12_worthOf (ob_11 hn) rfl rfl rfl (Nat.le_of_ble_eq_true rfl) (show 0 < d by omega) (sp_X12_worthOf hn h.1) Md_nil (fun v σv hq hf => ?_)
      obtain ⟨v, rfl, rfl, rfl⟩ := hq
      replace h := h.2
      refine e_istore dX12_buysBy_60 rfl (by decide) ?_
      refine e_iload dX12_buysBy_62 rfl ?_
      refine e_aload_n dX12_buysBy_64 rfl rfl ?_
      refine e_getR (y := 47) dX12_buysBy_65 fl_X12_35 (ob_11 hn) rfl rfl ?_
      refine e_iload_n dX12_buysBy_68 rfl rfl ?_
      refine e_iald dX12_buysBy_69 (ar_47 hn) h.1 ?_
      replace h := h.2
      refine e_icmp_gt (tgt := 123) dX12_buysBy_70 (by decide) (fun c9 => ?_) (fun c9 => ?_)
      · replace h := h.1 c9
        refine e_iinc dX12_buysBy_123 rfl (ii_1 _) rfl (by decide) ?_
        refine e_goto (tgt := 21) dX12_buysBy_126 (by decide) ?_
        refine e_kill [true, true, true, true, true, false, false] ?_
        exact h
      · replace h := h.2 c9
        refine e_iload_n dX12_buysBy_73 rfl rfl ?_
        refine e_iconst dX12_buysBy_74 ci_m1 ?_
        refine e_icmp_eq (tgt := 108) dX12_buysBy_75 (by decide) (fun c10 => ?_) (fun c10 => ?_)
        · replace h := h.1 c10
          refine e_iload dX12_buysBy_108 rfl ?_
          refine e_istore_n dX12_buysBy_110 rfl rfl (by decide) ?_
          refine e_aload_n dX12_buysBy_111 rfl rfl ?_
          refine e_iload dX12_buysBy_112 rfl ?_
          refine e_putI dX12_buysBy_114 fl_X12_342 (ob_11 hn) rfl (fpI_12_40 _) (md_c (m := md_X12_buysBy) (by decide)) ?_
          refine e_aload_n dX12_buysBy_117 rfl rfl ?_
          refine e_iload dX12_buysBy_118 rfl ?_
          refine e_putI dX12_buysBy_120 fl_X12_345 (ob_11 hn) rfl (fpI_12_41 _) (md_c (m := md_X12_buysBy) (by decide)) ?_
          refine e_iinc dX12_buysBy_123 rfl (ii_1 _) rfl (by decide) ?_
          refine e_goto (tgt := 21) dX12_buysBy_126 (by decide) ?_
          refine e_kill [true, true, true, true, true, false, false] ?_
          exact h
        · replace h := h.2 c10
          refine e_iload dX12_buysBy_78 rfl ?_
          refine e_aload_n dX12_buysBy_80 rfl rfl ?_
          refine e_getI dX12_buysBy_81 fl_X12_345 (ob_11 hn) rfl ?_
          refine e_icmp_lt (tgt := 123) dX12_buysBy_84 (by decide) (fun c11 => ?_) (fun c11 => ?_)
          · replace h := h.1 c11
            refine e_iinc dX12_buysBy_123 rfl (ii_1 _) rfl (by decide) ?_
            refine e_goto (tgt := 21) dX12_buysBy_126 (by decide) ?_
            refine e_kill [true, true, true, true, true, false, false] ?_
            exact h
          · replace h := h.2 c11
            refine e_iload dX12_buysBy_87 rfl ?_
            refine e_aload_n dX12_buysBy_89 rfl rfl ?_
            refine e_getI dX12_buysBy_90 fl_X12_345 (ob_11 hn) rfl ?_
            refine e_icmp_ne (tgt := 108) dX12_buysBy_93 (by decide) (fun c12 => ?_) (fun c12 => ?_)
            · replace h := h.1 c12
              refine e_iload dX12_buysBy_108 rfl ?_
              refine e_istore_n dX12_buysBy_110 rfl rfl (by decide) ?_
              refine e_aload_n dX12_buysBy_111 rfl rfl ?_
              refine e_iload dX12_buysBy_112 rfl ?_
              refine e_putI dX12_buysBy_114 fl_X12_342 (ob_11 hn) rfl (fpI_12_40 _) (md_c (m := md_X12_buysBy) (by decide)) ?_
              refine e_aload_n dX12_buysBy_117 rfl rfl ?_
              refine e_iload dX12_buysBy_118 rfl ?_
              refine e_putI dX12_buysBy_120 fl_X12_345 (ob_11 hn) rfl (fpI_12_41 _) (md_c (m := md_X12_buysBy) (by decide)) ?_
              refine e_iinc dX12_buysBy_123 rfl (ii_1 _) rfl (by decide) ?_
              refine e_goto (tgt := 21) dX12_buysBy_126 (by decide) ?_
              refine e_kill [true, true, true, true, true, false, false] ?_
              exact h
            · replace h := h.2 c12
              refine e_iload dX12_buysBy_96 rfl ?_
              refine e_aload_n dX12_buysBy_98 rfl rfl ?_
              refine e_getI dX12_buysBy_99 fl_X12_342 (ob_11 hn) rfl ?_
              refine e_icmp_lt (tgt := 108) dX12_buysBy_102 (by decide) (fun c13 => ?_) (fun c13 => ?_)
              · replace h := h.1 c13
                refine e_iload dX12_buysBy_108 rfl ?_
                refine e_istore_n dX12_buysBy_110 rfl rfl (by decide) ?_
                refine e_aload_n dX12_buysBy_111 rfl rfl ?_
                refine e_iload dX12_buysBy_112 rfl ?_
                refine e_putI dX12_buysBy_114 fl_X12_342 (ob_11 hn) rfl (fpI_12_40 _) (md_c (m := md_X12_buysBy) (by decide)) ?_
                refine e_aload_n dX12_buysBy_117 rfl rfl ?_
                refine e_iload dX12_buysBy_118 rfl ?_
                refine e_putI dX12_buysBy_120 fl_X12_345 (ob_11 hn) rfl (fpI_12_41 _) (md_c (m := md_X12_buysBy) (by decide)) ?_
                refine e_iinc dX12_buysBy_123 rfl (ii_1 _) rfl (by decide) ?_
                refine e_goto (tgt := 21) dX12_buysBy_126 (by decide) ?_
                refine e_kill [true, true, true, true, true, false, false] ?_
                exact h
              · replace h := h.2 c13
                refine e_goto (tgt := 123) dX12_buysBy_105 (by decide) ?_
                refine e_iinc dX12_buysBy_123 rfl (ii_1 _) rfl (by decide) ?_
                refine e_goto (tgt := 21) dX12_buysBy_126 (by decide) ?_
                refine e_kill [true, true, true, true, true, false, false] ?_
                exact h
    · replace h := h.2 c2
      refine e_goto (tgt := 123) dX12_buysBy_42 (by decide) ?_
      refine e_iinc dX12_buysBy_123 rfl (ii_1 _) rfl (by decide) ?_
      refine e_goto (tgt := 21) dX12_buysBy_126 (by decide) ?_
      exact h
theorem S_X12_buysBy {d n : Nat} {Q : Int32 → St → Prop} {σ : St} {a1 : Int32} (hn : FIX ≤ n) (hd : 1 ≤ d) (h : K_X12_buysBy_21 d n σ Q (sI (sI σ 11 40 0) 11 41 0) a1 (fn_X12_rowOf σ a1) (-1) 0) : Cn d n M_X12_buysBy md_X12_buysBy [.ref 11, .int a1] σ (liI Q) := by
  refine Cn.of (k0 := 5) (by decide) rfl ?_
  show Ev (d, n, md_X12_buysBy, σ, liI Q) M_X12_buysBy 0 [some (.ref 11), some (.int a1), none, none, none, none, none] [] σ
  refine e_aload_n dX12_buysBy_0 rfl rfl ?_
  refine e_iload_n dX12_buysBy_1 rfl rfl ?_
  refine e_callV (M' := M_X12_rowOf) (as := [.int a1]) (rest := []) dX12_buysBy_2 ml_X12_339 mk_X12_rowOf (ob_11 hn) rfl rfl rfl (Nat.le_of_ble_eq_true rfl) (show 0 < d by omega) (sp_X12_rowOf hn) Md_nil (fun v σv hq hf => ?_)
  obtain ⟨v, rfl, rfl, rfl⟩ := hq
  refine e_istore_n dX12_buysBy_5 rfl rfl (by decide) ?_
  refine e_iconst dX12_buysBy_6 ci_m1 ?_
  refine e_istore_n dX12_buysBy_7 rfl rfl (by decide) ?_
  refine e_aload_n dX12_buysBy_8 rfl rfl ?_
  refine e_iconst dX12_buysBy_9 ci_0 ?_
  refine e_putI dX12_buysBy_10 fl_X12_342 (ob_11 hn) rfl (fpI_12_40 _) (md_c (m := md_X12_buysBy) (by decide)) ?_
  refine e_aload_n dX12_buysBy_13 rfl rfl ?_
  refine e_iconst dX12_buysBy_14 ci_0 ?_
  refine e_putI dX12_buysBy_15 fl_X12_345 (ob_11 hn) rfl (fpI_12_41 _) (md_c (m := md_X12_buysBy) (by decide)) ?_
  refine e_iconst dX12_buysBy_18 ci_0 ?_
  refine e_istore dX12_buysBy_19 rfl (by decide) ?_
  exact h
abbrev K_X12_told_6 (d n : Nat) (σ0 : St) (Q : St → Prop) (σ : St) (x1 : Int32) : Prop := Ev (d, n, md_X12_told, σ0, liV Q) M_X12_told 6 [some (.ref 11), some (.int x1)] [] σ
theorem B_X12_told_6 {d n : Nat} {σ0 : St} {Q : St → Prop}  {σ : St} {x1 : Int32} (hn : FIX ≤ n) (hd : 1 ≤ d) (h : (((10 : Int32) ≤ x1 → Q σ) ∧ (¬ (10 : Int32) ≤ x1 → vp_in x1 10 ∧ vp_in x1 10 ∧ K_X12_told_6 d n σ0 Q (sI σ 63 x1.toNatClampNeg (gI σ 44 x1.toNatClampNeg)) (x1 + 1)))) : K_X12_told_6 d n σ0 Q σ x1 := by
  refine e_iload_n dX12_told_6 rfl rfl ?_
  refine e_bipush dX12_told_7 cb_10 ?_
  refine e_icmp_ge (tgt := 30) dX12_told_9 (by decide) (fun c1 => ?_) (fun c1 => ?_)
  · replace h := h.1 c1
    exact e_vret dX12_told_30 rfl ⟨rfl, h⟩
  · replace h := h.2 c1
    refine e_aload_n dX12_told_12 rfl rfl ?_
    refine e_getR (y := 63) dX12_told_13 fl_X12_95 (ob_11 hn) rfl rfl ?_
    refine e_iload_n dX12_told_16 rfl rfl ?_
    refine e_aload_n dX12_told_17 rfl rfl ?_
    refine e_getR (y := 44) dX12_told_18 fl_X12_26 (ob_11 hn) rfl rfl ?_
    refine e_iload_n dX12_told_21 rfl rfl ?_
    refine e_iald dX12_told_22 (ar_44 hn) h.1 ?_
    replace h := h.2
    refine e_iast dX12_told_23 (ar_63 hn) h.1 (md_r (m := md_X12_told) (by decide)) ?_
    replace h := h.2
    refine e_iinc dX12_told_24 rfl (ii_1 _) rfl (by decide) ?_
    refine e_goto (tgt := 6) dX12_told_27 (by decide) ?_
    exact h
theorem S_X12_told {d n : Nat} {Q : St → Prop} {σ : St}  (hn : FIX ≤ n) (hd : 1 ≤ d) (h : ∃ Q1 : St → Prop, Cn (d - 1) n M_X12_tables md_X12_tables [.ref 11] σ (liV Q1) ∧ ∀ (σ3 : St), Q1 σ3 → Fr md_X12_tables σ σ3 → K_X12_told_6 d n σ Q σ3 0) : Cn d n M_X12_told md_X12_told [.ref 11] σ (liV Q) := by
  refine Cn.of (k0 := 1) (by decide) rfl ?_
  show Ev (d, n, md_X12_told, σ, liV Q) M_X12_told 0 [some (.ref 11), none] [] σ
  refine e_aload_n dX12_told_0 rfl rfl ?_
  obtain ⟨Q1, hc2, h⟩ := h
  refine e_callV (M' := M_X12_tables) (as := []) (rest := []) dX12_told_1 ml_X12_357 mk_X12_tables (ob_11 hn) rfl rfl rfl (Nat.le_of_ble_eq_true rfl) (show 0 < d by omega) hc2 (Md_le (b := md_X12_told) (by decide)) (fun v σ3 hq hf => ?_)
  obtain ⟨rfl, hq⟩ := hq
  replace h := h σ3 hq hf
  refine e_iconst dX12_told_4 ci_0 ?_
  refine e_istore_n dX12_told_5 rfl rfl (by decide) ?_
  exact h
theorem S_X12_buys {d n : Nat} {Q : Int32 → St → Prop} {σ : St} {a1 : Int32} {a2 : Int32} (hn : FIX ≤ n) (hd : 2 ≤ d) (h : (((fn_X12_isPerson σ a1) = 0 → Q (-2000000) σ) ∧ (¬ (fn_X12_isPerson σ a1) = 0 → (((fn_X12_isIn a2 0 2) ≠ 0 → ∃ Q3 : St → Prop, Cn (d - 1) n M_X12_told md_X12_told [.ref 11] σ (liV Q3) ∧ ∀ (σ5 : St), Q3 σ5 → Fr md_X12_told σ σ5 → ∃ Q9 : Int32 → St → Prop, Cn (d - 1) n M_X12_buysBy md_X12_buysBy [.ref 11, .int a1] σ5 (liI Q9) ∧ ∀ (v12 : Int32) (σ11 : St), Q9 v12 σ11 → Fr md_X12_buysBy σ5 σ11 → ((a2 ≠ 0 → ((a2 ≠ 1 → Q (gI σ11 11 41) σ11) ∧ (a2 = 1 → Q (gI σ11 11 40) σ11))) ∧ (a2 = 0 → Q (mxI 0 v12) σ11))) ∧ ((fn_X12_isIn a2 0 2) = 0 → Q (-2000000) σ))))) : Cn d n M_X12_buys md_X12_buys [.ref 11, .int a1, .int a2] σ (liI Q) := by
  refine Cn.of (k0 := 1) (by decide) rfl ?_
  show Ev (d, n, md_X12_buys, σ, liI Q) M_X12_buys 0 [some (.ref 11), some (.int a1), some (.int a2), none] [] σ
  refine e_aload_n dX12_buys_0 rfl rfl ?_
  refine e_iload_n dX12_buys_1 rfl rfl ?_
  refine e_callV (M' := M_X12_isPerson) (as := [.int a1]) (rest := []) dX12_buys_2 ml_X12_151 mk_X12_isPerson (ob_11 hn) rfl rfl rfl (Nat.le_of_ble_eq_true rfl) (show 0 < d by omega) (sp_X12_isPerson hn (show 1 ≤ d - 1 by omega)) Md_nil (fun v σv hq hf => ?_)
  obtain ⟨v, rfl, rfl, rfl⟩ := hq
  refine e_if_eq (tgt := 17) dX12_buys_5 (by decide) (fun c1 => ?_) (fun c1 => ?_)
  · replace h := h.1 c1
    refine e_ldcw dX12_buys_17 ck_X12_331 ?_
    exact e_iret dX12_buys_20 rfl ⟨_, rfl, h⟩
  · replace h := h.2 c1
    refine e_iload_n dX12_buys_8 rfl rfl ?_
    refine e_iconst dX12_buys_9 ci_0 ?_
    refine e_iconst dX12_buys_10 ci_2 ?_
    refine e_callS (M' := M_X12_isIn) (as := [.int a2, .int 0, .int 2]) (rest := []) dX12_buys_11 ml_X12_134 mk_X12_isIn rfl (Nat.le_of_ble_eq_true rfl) (show 0 < d by omega) (sp_X12_isIn) Md_nil (fun v σv hq hf => ?_)
    obtain ⟨v, rfl, rfl, rfl⟩ := hq
    refine e_if_ne (tgt := 21) dX12_buys_14 (by decide) (fun c2 => ?_) (fun c2 => ?_)
    · replace h := h.1 c2
      refine e_aload_n dX12_buys_21 rfl rfl ?_
      obtain ⟨Q3, hc4, h⟩ := h
      refine e_callV (M' := M_X12_told) (as := []) (rest := []) dX12_buys_22 ml_X12_360 mk_X12_told (ob_11 hn) rfl rfl rfl (Nat.le_of_ble_eq_true rfl) (show 0 < d by omega) hc4 (Md_le (b := md_X12_buys) (by decide)) (fun v σ5 hq hf => ?_)
      obtain ⟨rfl, hq⟩ := hq
      replace h := h σ5 hq hf
      refine e_aload_n dX12_buys_25 rfl rfl ?_
      refine e_iload_n dX12_buys_26 rfl rfl ?_
      obtain ⟨Q9, hc10, h⟩ := h
      refine e_callV (M' := M_X12_buysBy) (as := [.int a1]) (rest := []) dX12_buys_27 ml_X12_363 mk_X12_buysBy (ob_11 hn) rfl rfl rfl (Nat.le_of_ble_eq_true rfl) (show 0 < d by omega) hc10 (Md_le (b := md_X12_buys) (by decide)) (fun v σ11 hq hf => ?_)
      obtain ⟨v12, rfl, hq⟩ := hq
      replace h := h v12 σ11 hq hf
      refine e_istore_n dX12_buys_30 rfl rfl (by decide) ?_
      refine e_iload_n dX12_buys_31 rfl rfl ?_
      refine e_if_ne (tgt := 43) dX12_buys_32 (by decide) (fun c15 => ?_) (fun c15 => ?_)
      · replace h := h.1 c15
        refine e_iload_n dX12_buys_43 rfl rfl ?_
        refine e_iconst dX12_buys_44 ci_1 ?_
        refine e_icmp_ne (tgt := 55) dX12_buys_45 (by decide) (fun c16 => ?_) (fun c16 => ?_)
        · replace h := h.1 c16
          refine e_aload_n dX12_buys_55 rfl rfl ?_
          refine e_getI dX12_buys_56 fl_X12_345 (ob_11 hn) rfl ?_
          exact e_iret dX12_buys_59 rfl ⟨_, rfl, h⟩
        · replace h := h.2 c16
          refine e_aload_n dX12_buys_48 rfl rfl ?_
          refine e_getI dX12_buys_49 fl_X12_342 (ob_11 hn) rfl ?_
          refine e_goto (tgt := 59) dX12_buys_52 (by decide) ?_
          exact e_iret dX12_buys_59 rfl ⟨_, rfl, h⟩
      · replace h := h.2 c15
        refine e_iconst dX12_buys_35 ci_0 ?_
        refine e_iload_n dX12_buys_36 rfl rfl ?_
        refine e_mmax (st := []) dX12_buys_37 ml_X12_304 (Nat.le_of_ble_eq_true rfl) (show 0 < d by omega) ?_
        refine e_goto (tgt := 59) dX12_buys_40 (by decide) ?_
        exact e_iret dX12_buys_59 rfl ⟨_, rfl, h⟩
    · replace h := h.2 c2
      refine e_ldcw dX12_buys_17 ck_X12_331 ?_
      exact e_iret dX12_buys_20 rfl ⟨_, rfl, h⟩
