theorem S_X3_betters {d n : Nat} {Q : Int32 → St → Prop} {σ : St} {a1 : Int32} {a2 : Int32} {a3 : Int32} {a4 : Int32} (hn : FIX ≤ n) (hd : 1 ≤ d) (h : vp_in a1 8 ∧ vp_in a2 8 ∧ (((a3 &&& (gI σ 34 a1.toNatClampNeg)) ≠ a3 → (((a3 &&& (gI σ 34 a2.toNatClampNeg)) ≠ 0 → (((0 : Int32) = 0 → Q 0 σ) ∧ (¬ (0 : Int32) = 0 → (((0 : Int32) = 0 → Q 0 σ) ∧ (¬ (0 : Int32) = 0 → (((a3 ||| a4) ≠ 0 → vp_in a1 8 ∧ ∃ pp6, gR σ a1.toNatClampNeg = some pp6 ∧ IsP n pp6 ∧ pre_X3_growth σ pp6 (gI σ 34 a1.toNatClampNeg) (((gI σ 34 a1.toNatClampNeg) &&& (a3 ^^^ (-1))) ||| a4) ∧ vp_in a2 8 ∧ ∃ pp7, gR σ a2.toNatClampNeg = some pp7 ∧ IsP n pp7 ∧ pre_X3_growth σ pp7 (gI σ 34 a2.toNatClampNeg) (((gI σ 34 a2.toNatClampNeg) &&& (a4 ^^^ (-1))) ||| a3) ∧ (((fn_X3_growth σ pp6 (gI σ 34 a1.toNatClampNeg) (((gI σ 34 a1.toNatClampNeg) &&& (a3 ^^^ (-1))) ||| a4)) < 0 → Q 0 σ) ∧ (¬ (fn_X3_growth σ pp6 (gI σ 34 a1.toNatClampNeg) (((gI σ 34 a1.toNatClampNeg) &&& (a3 ^^^ (-1))) ||| a4)) < 0 → (((fn_X3_growth σ pp7 (gI σ 34 a2.toNatClampNeg) (((gI σ 34 a2.toNatClampNeg) &&& (a4 ^^^ (-1))) ||| a3)) < 0 → Q 0 σ) ∧ (¬ (fn_X3_growth σ pp7 (gI σ 34 a2.toNatClampNeg) (((gI σ 34 a2.toNatClampNeg) &&& (a4 ^^^ (-1))) ||| a3)) < 0 → ((((fn_X3_growth σ pp6 (gI σ 34 a1.toNatClampNeg) (((gI σ 34 a1.toNatClampNeg) &&& (a3 ^^^ (-1))) ||| a4)) + (fn_X3_growth σ pp7 (gI σ 34 a2.toNatClampNeg) (((gI σ 34 a2.toNatClampNeg) &&& (a4 ^^^ (-1))) ||| a3))) ≤ 0 → Q 0 σ) ∧ (¬ ((fn_X3_growth σ pp6 (gI σ 34 a1.toNatClampNeg) (((gI σ 34 a1.toNatClampNeg) &&& (a3 ^^^ (-1))) ||| a4)) + (fn_X3_growth σ pp7 (gI σ 34 a2.toNatClampNeg) (((gI σ 34 a2.toNatClampNeg) &&& (a4 ^^^ (-1))) ||| a3))) ≤ 0 → Q 1 σ))))))) ∧ ((a3 ||| a4) = 0 → Q 0 σ))))))) ∧ ((a3 &&& (gI σ 34 a2.toNatClampNeg)) = 0 → (((a4 &&& (gI σ 34 a1.toNatClampNeg)) ≠ 0 → (((0 : Int32) = 0 → Q 0 σ) ∧ (¬ (0 : Int32) = 0 → (((0 : Int32) = 0 → Q 0 σ) ∧ (¬ (0 : Int32) = 0 → (((a3 ||| a4) ≠ 0 → vp_in a1 8 ∧ ∃ pp15, gR σ a1.toNatClampNeg = some pp15 ∧ IsP n pp15 ∧ pre_X3_growth σ pp15 (gI σ 34 a1.toNatClampNeg) (((gI σ 34 a1.toNatClampNeg) &&& (a3 ^^^ (-1))) ||| a4) ∧ vp_in a2 8 ∧ ∃ pp16, gR σ a2.toNatClampNeg = some pp16 ∧ IsP n pp16 ∧ pre_X3_growth σ pp16 (gI σ 34 a2.toNatClampNeg) (((gI σ 34 a2.toNatClampNeg) &&& (a4 ^^^ (-1))) ||| a3) ∧ (((fn_X3_growth σ pp15 (gI σ 34 a1.toNatClampNeg) (((gI σ 34 a1.toNatClampNeg) &&& (a3 ^^^ (-1))) ||| a4)) < 0 → Q 0 σ) ∧ (¬ (fn_X3_growth σ pp15 (gI σ 34 a1.toNatClampNeg) (((gI σ 34 a1.toNatClampNeg) &&& (a3 ^^^ (-1))) ||| a4)) < 0 → (((fn_X3_growth σ pp16 (gI σ 34 a2.toNatClampNeg) (((gI σ 34 a2.toNatClampNeg) &&& (a4 ^^^ (-1))) ||| a3)) < 0 → Q 0 σ) ∧ (¬ (fn_X3_growth σ pp16 (gI σ 34 a2.toNatClampNeg) (((gI σ 34 a2.toNatClampNeg) &&& (a4 ^^^ (-1))) ||| a3)) < 0 → ((((fn_X3_growth σ pp15 (gI σ 34 a1.toNatClampNeg) (((gI σ 34 a1.toNatClampNeg) &&& (a3 ^^^ (-1))) ||| a4)) + (fn_X3_growth σ pp16 (gI σ 34 a2.toNatClampNeg) (((gI σ 34 a2.toNatClampNeg) &&& (a4 ^^^ (-1))) ||| a3))) ≤ 0 → Q 0 σ) ∧ (¬ ((fn_X3_growth σ pp15 (gI σ 34 a1.toNatClampNeg) (((gI σ 34 a1.toNatClampNeg) &&& (a3 ^^^ (-1))) ||| a4)) + (fn_X3_growth σ pp16 (gI σ 34 a2.toNatClampNeg) (((gI σ 34 a2.toNatClampNeg) &&& (a4 ^^^ (-1))) ||| a3))) ≤ 0 → Q 1 σ))))))) ∧ ((a3 ||| a4) = 0 → Q 0 σ))))))) ∧ ((a4 &&& (gI σ 34 a1.toNatClampNeg)) = 0 → (((0 : Int32) = 0 → Q 0 σ) ∧ (¬ (0 : Int32) = 0 → (((1 : Int32) = 0 → Q 0 σ) ∧ (¬ (1 : Int32) = 0 → (((a3 ||| a4) ≠ 0 → vp_in a1 8 ∧ ∃ pp23, gR σ a1.toNatClampNeg = some pp23 ∧ IsP n pp23 ∧ pre_X3_growth σ pp23 (gI σ 34 a1.toNatClampNeg) (((gI σ 34 a1.toNatClampNeg) &&& (a3 ^^^ (-1))) ||| a4) ∧ vp_in a2 8 ∧ ∃ pp24, gR σ a2.toNatClampNeg = some pp24 ∧ IsP n pp24 ∧ pre_X3_growth σ pp24 (gI σ 34 a2.toNatClampNeg) (((gI σ 34 a2.toNatClampNeg) &&& (a4 ^^^ (-1))) ||| a3) ∧ (((fn_X3_growth σ pp23 (gI σ 34 a1.toNatClampNeg) (((gI σ 34 a1.toNatClampNeg) &&& (a3 ^^^ (-1))) ||| a4)) < 0 → Q 0 σ) ∧ (¬ (fn_X3_growth σ pp23 (gI σ 34 a1.toNatClampNeg) (((gI σ 34 a1.toNatClampNeg) &&& (a3 ^^^ (-1))) ||| a4)) < 0 → (((fn_X3_growth σ pp24 (gI σ 34 a2.toNatClampNeg) (((gI σ 34 a2.toNatClampNeg) &&& (a4 ^^^ (-1))) ||| a3)) < 0 → Q 0 σ) ∧ (¬ (fn_X3_growth σ pp24 (gI σ 34 a2.toNatClampNeg) (((gI σ 34 a2.toNatClampNeg) &&& (a4 ^^^ (-1))) ||| a3)) < 0 → ((((fn_X3_growth σ pp23 (gI σ 34 a1.toNatClampNeg) (((gI σ 34 a1.toNatClampNeg) &&& (a3 ^^^ (-1))) ||| a4)) + (fn_X3_growth σ pp24 (gI σ 34 a2.toNatClampNeg) (((gI σ 34 a2.toNatClampNeg) &&& (a4 ^^^ (-1))) ||| a3))) ≤ 0 → Q 0 σ) ∧ (¬ ((fn_X3_growth σ pp23 (gI σ 34 a1.toNatClampNeg) (((gI σ 34 a1.toNatClampNeg) &&& (a3 ^^^ (-1))) ||| a4)) + (fn_X3_growth σ pp24 (gI σ 34 a2.toNatClampNeg) (((gI σ 34 a2.toNatClampNeg) &&& (a4 ^^^ (-1))) ||| a3))) ≤ 0 → Q 1 σ))))))) ∧ ((a3 ||| a4) = 0 → Q 0 σ))))))))))) ∧ ((a3 &&& (gI σ 34 a1.toNatClampNeg)) = a3 → (((a4 &&& (gI σ 34 a2.toNatClampNeg)) ≠ a4 → (((a3 &&& (gI σ 34 a2.toNatClampNeg)) ≠ 0 → (((0 : Int32) = 0 → Q 0 σ) ∧ (¬ (0 : Int32) = 0 → (((0 : Int32) = 0 → Q 0 σ) ∧ (¬ (0 : Int32) = 0 → (((a3 ||| a4) ≠ 0 → vp_in a1 8 ∧ ∃ pp33, gR σ a1.toNatClampNeg = some pp33 ∧ IsP n pp33 ∧ pre_X3_growth σ pp33 (gI σ 34 a1.toNatClampNeg) (((gI σ 34 a1.toNatClampNeg) &&& (a3 ^^^ (-1))) ||| a4) ∧ vp_in a2 8 ∧ ∃ pp34, gR σ a2.toNatClampNeg = some pp34 ∧ IsP n pp34 ∧ pre_X3_growth σ pp34 (gI σ 34 a2.toNatClampNeg) (((gI σ 34 a2.toNatClampNeg) &&& (a4 ^^^ (-1))) ||| a3) ∧ (((fn_X3_growth σ pp33 (gI σ 34 a1.toNatClampNeg) (((gI σ 34 a1.toNatClampNeg) &&& (a3 ^^^ (-1))) ||| a4)) < 0 → Q 0 σ) ∧ (¬ (fn_X3_growth σ pp33 (gI σ 34 a1.toNatClampNeg) (((gI σ 34 a1.toNatClampNeg) &&& (a3 ^^^ (-1))) ||| a4)) < 0 → (((fn_X3_growth σ pp34 (gI σ 34 a2.toNatClampNeg) (((gI σ 34 a2.toNatClampNeg) &&& (a4 ^^^ (-1))) ||| a3)) < 0 → Q 0 σ) ∧ (¬ (fn_X3_growth σ pp34 (gI σ 34 a2.toNatClampNeg) (((gI σ 34 a2.toNatClampNeg) &&& (a4 ^^^ (-1))) ||| a3)) < 0 → ((((fn_X3_growth σ pp33 (gI σ 34 a1.toNatClampNeg) (((gI σ 34 a1.toNatClampNeg) &&& (a3 ^^^ (-1))) ||| a4)) + (fn_X3_growth σ pp34 (gI σ 34 a2.toNatClampNeg) (((gI σ 34 a2.toNatClampNeg) &&& (a4 ^^^ (-1))) ||| a3))) ≤ 0 → Q 0 σ) ∧ (¬ ((fn_X3_growth σ pp33 (gI σ 34 a1.toNatClampNeg) (((gI σ 34 a1.toNatClampNeg) &&& (a3 ^^^ (-1))) ||| a4)) + (fn_X3_growth σ pp34 (gI σ 34 a2.toNatClampNeg) (((gI σ 34 a2.toNatClampNeg) &&& (a4 ^^^ (-1))) ||| a3))) ≤ 0 → Q 1 σ))))))) ∧ ((a3 ||| a4) = 0 → Q 0 σ))))))) ∧ ((a3 &&& (gI σ 34 a2.toNatClampNeg)) = 0 → (((a4 &&& (gI σ 34 a1.toNatClampNeg)) ≠ 0 → (((0 : Int32) = 0 → Q 0 σ) ∧ (¬ (0 : Int32) = 0 → (((0 : Int32) = 0 → Q 0 σ) ∧ (¬ (0 : Int32) = 0 → (((a3 ||| a4) ≠ 0 → vp_in a1 8 ∧ ∃ pp42, gR σ a1.toNatClampNeg = some pp42 ∧ IsP n pp42 ∧ pre_X3_growth σ pp42 (gI σ 34 a1.toNatClampNeg) (((gI σ 34 a1.toNatClampNeg) &&& (a3 ^^^ (-1))) ||| a4) ∧ vp_in a2 8 ∧ ∃ pp43, gR σ a2.toNatClampNeg = some pp43 ∧ IsP n pp43 ∧ pre_X3_growth σ pp43 (gI σ 34 a2.toNatClampNeg) (((gI σ 34 a2.toNatClampNeg) &&& (a4 ^^^ (-1))) ||| a3) ∧ (((fn_X3_growth σ pp42 (gI σ 34 a1.toNatClampNeg) (((gI σ 34 a1.toNatClampNeg) &&& (a3 ^^^ (-1))) ||| a4)) < 0 → Q 0 σ) ∧ (¬ (fn_X3_growth σ pp42 (gI σ 34 a1.toNatClampNeg) (((gI σ 34 a1.toNatClampNeg) &&& (a3 ^^^ (-1))) ||| a4)) < 0 → (((fn_X3_growth σ pp43 (gI σ 34 a2.toNatClampNeg) (((gI σ 34 a2.toNatClampNeg) &&& (a4 ^^^ (-1))) ||| a3)) < 0 → Q 0 σ) ∧ (¬ (fn_X3_growth σ pp43 (gI σ 34 a2.toNatClampNeg) (((gI σ 34 a2.toNatClampNeg) &&& (a4 ^^^ (-1))) ||| a3)) < 0 → ((((fn_X3_growth σ pp42 (gI σ 34 a1.toNatClampNeg) (((gI σ 34 a1.toNatClampNeg) &&& (a3 ^^^ (-1))) ||| a4)) + (fn_X3_growth σ pp43 (gI σ 34 a2.toNatClampNeg) (((gI σ 34 a2.toNatClampNeg) &&& (a4 ^^^ (-1))) ||| a3))) ≤ 0 → Q 0 σ) ∧ (¬ ((fn_X3_growth σ pp42 (gI σ 34 a1.toNatClampNeg) (((gI σ 34 a1.toNatClampNeg) &&& (a3 ^^^ (-1))) ||| a4)) + (fn_X3_growth σ pp43 (gI σ 34 a2.toNatClampNeg) (((gI σ 34 a2.toNatClampNeg) &&& (a4 ^^^ (-1))) ||| a3))) ≤ 0 → Q 1 σ))))))) ∧ ((a3 ||| a4) = 0 → Q 0 σ))))))) ∧ ((a4 &&& (gI σ 34 a1.toNatClampNeg)) = 0 → (((0 : Int32) = 0 → Q 0 σ) ∧ (¬ (0 : Int32) = 0 → (((1 : Int32) = 0 → Q 0 σ) ∧ (¬ (1 : Int32) = 0 → (((a3 ||| a4) ≠ 0 → vp_in a1 8 ∧ ∃ pp50, gR σ a1.toNatClampNeg = some pp50 ∧ IsP n pp50 ∧ pre_X3_growth σ pp50 (gI σ 34 a1.toNatClampNeg) (((gI σ 34 a1.toNatClampNeg) &&& (a3 ^^^ (-1))) ||| a4) ∧ vp_in a2 8 ∧ ∃ pp51, gR σ a2.toNatClampNeg = some pp51 ∧ IsP n pp51 ∧ pre_X3_growth σ pp51 (gI σ 34 a2.toNatClampNeg) (((gI σ 34 a2.toNatClampNeg) &&& (a4 ^^^ (-1))) ||| a3) ∧ (((fn_X3_growth σ pp50 (gI σ 34 a1.toNatClampNeg) (((gI σ 34 a1.toNatClampNeg) &&& (a3 ^^^ (-1))) ||| a4)) < 0 → Q 0 σ) ∧ (¬ (fn_X3_growth σ pp50 (gI σ 34 a1.toNatClampNeg) (((gI σ 34 a1.toNatClampNeg) &&& (a3 ^^^ (-1))) ||| a4)) < 0 → (((fn_X3_growth σ pp51 (gI σ 34 a2.toNatClampNeg) (((gI σ 34 a2.toNatClampNeg) &&& (a4 ^^^ (-1))) ||| a3)) < 0 → Q 0 σ) ∧ (¬ (fn_X3_growth σ pp51 (gI σ 34 a2.toNatClampNeg) (((gI σ 34 a2.toNatClampNeg) &&& (a4 ^^^ (-1))) ||| a3)) < 0 → ((((fn_X3_growth σ pp50 (gI σ 34 a1.toNatClampNeg) (((gI σ 34 a1.toNatClampNeg) &&& (a3 ^^^ (-1))) ||| a4)) + (fn_X3_growth σ pp51 (gI σ 34 a2.toNatClampNeg) (((gI σ 34 a2.toNatClampNeg) &&& (a4 ^^^ (-1))) ||| a3))) ≤ 0 → Q 0 σ) ∧ (¬ ((fn_X3_growth σ pp50 (gI σ 34 a1.toNatClampNeg) (((gI σ 34 a1.toNatClampNeg) &&& (a3 ^^^ (-1))) ||| a4)) + (fn_X3_growth σ pp51 (gI σ 34 a2.toNatClampNeg) (((gI σ 34 a2.toNatClampNeg) &&& (a4 ^^^ (-1))) ||| a3))) ≤ 0 → Q 1 σ))))))) ∧ ((a3 ||| a4) = 0 → Q 0 σ))))))))))) ∧ ((a4 &&& (gI σ 34 a2.toNatClampNeg)) = a4 → (((a3 &&& (gI σ 34 a2.toNatClampNeg)) ≠ 0 → (((1 : Int32) = 0 → Q 0 σ) ∧ (¬ (1 : Int32) = 0 → (((0 : Int32) = 0 → Q 0 σ) ∧ (¬ (0 : Int32) = 0 → (((a3 ||| a4) ≠ 0 → vp_in a1 8 ∧ ∃ pp59, gR σ a1.toNatClampNeg = some pp59 ∧ IsP n pp59 ∧ pre_X3_growth σ pp59 (gI σ 34 a1.toNatClampNeg) (((gI σ 34 a1.toNatClampNeg) &&& (a3 ^^^ (-1))) ||| a4) ∧ vp_in a2 8 ∧ ∃ pp60, gR σ a2.toNatClampNeg = some pp60 ∧ IsP n pp60 ∧ pre_X3_growth σ pp60 (gI σ 34 a2.toNatClampNeg) (((gI σ 34 a2.toNatClampNeg) &&& (a4 ^^^ (-1))) ||| a3) ∧ (((fn_X3_growth σ pp59 (gI σ 34 a1.toNatClampNeg) (((gI σ 34 a1.toNatClampNeg) &&& (a3 ^^^ (-1))) ||| a4)) < 0 → Q 0 σ) ∧ (¬ (fn_X3_growth σ pp59 (gI σ 34 a1.toNatClampNeg) (((gI σ 34 a1.toNatClampNeg) &&& (a3 ^^^ (-1))) ||| a4)) < 0 → (((fn_X3_growth σ pp60 (gI σ 34 a2.toNatClampNeg) (((gI σ 34 a2.toNatClampNeg) &&& (a4 ^^^ (-1))) ||| a3)) < 0 → Q 0 σ) ∧ (¬ (fn_X3_growth σ pp60 (gI σ 34 a2.toNatClampNeg) (((gI σ 34 a2.toNatClampNeg) &&& (a4 ^^^ (-1))) ||| a3)) < 0 → ((((fn_X3_growth σ pp59 (gI σ 34 a1.toNatClampNeg) (((gI σ 34 a1.toNatClampNeg) &&& (a3 ^^^ (-1))) ||| a4)) + (fn_X3_growth σ pp60 (gI σ 34 a2.toNatClampNeg) (((gI σ 34 a2.toNatClampNeg) &&& (a4 ^^^ (-1))) ||| a3))) ≤ 0 → Q 0 σ) ∧ (¬ ((fn_X3_growth σ pp59 (gI σ 34 a1.toNatClampNeg) (((gI σ 34 a1.toNatClampNeg) &&& (a3 ^^^ (-1))) ||| a4)) + (fn_X3_growth σ pp60 (gI σ 34 a2.toNatClampNeg) (((gI σ 34 a2.toNatClampNeg) &&& (a4 ^^^ (-1))) ||| a3))) ≤ 0 → Q 1 σ))))))) ∧ ((a3 ||| a4) = 0 → Q 0 σ))))))) ∧ ((a3 &&& (gI σ 34 a2.toNatClampNeg)) = 0 → (((a4 &&& (gI σ 34 a1.toNatClampNeg)) ≠ 0 → (((1 : Int32) = 0 → Q 0 σ) ∧ (¬ (1 : Int32) = 0 → (((0 : Int32) = 0 → Q 0 σ) ∧ (¬ (0 : Int32) = 0 → (((a3 ||| a4) ≠ 0 → vp_in a1 8 ∧ ∃ pp68, gR σ a1.toNatClampNeg = some pp68 ∧ IsP n pp68 ∧ pre_X3_growth σ pp68 (gI σ 34 a1.toNatClampNeg) (((gI σ 34 a1.toNatClampNeg) &&& (a3 ^^^ (-1))) ||| a4) ∧ vp_in a2 8 ∧ ∃ pp69, gR σ a2.toNatClampNeg = some pp69 ∧ IsP n pp69 ∧ pre_X3_growth σ pp69 (gI σ 34 a2.toNatClampNeg) (((gI σ 34 a2.toNatClampNeg) &&& (a4 ^^^ (-1))) ||| a3) ∧ (((fn_X3_growth σ pp68 (gI σ 34 a1.toNatClampNeg) (((gI σ 34 a1.toNatClampNeg) &&& (a3 ^^^ (-1))) ||| a4)) < 0 → Q 0 σ) ∧ (¬ (fn_X3_growth σ pp68 (gI σ 34 a1.toNatClampNeg) (((gI σ 34 a1.toNatClampNeg) &&& (a3 ^^^ (-1))) ||| a4)) < 0 → (((fn_X3_growth σ pp69 (gI σ 34 a2.toNatClampNeg) (((gI σ 34 a2.toNatClampNeg) &&& (a4 ^^^ (-1))) ||| a3)) < 0 → Q 0 σ) ∧ (¬ (fn_X3_growth σ pp69 (gI σ 34 a2.toNatClampNeg) (((gI σ 34 a2.toNatClampNeg) &&& (a4 ^^^ (-1))) ||| a3)) < 0 → ((((fn_X3_growth σ pp68 (gI σ 34 a1.toNatClampNeg) (((gI σ 34 a1.toNatClampNeg) &&& (a3 ^^^ (-1))) ||| a4)) + (fn_X3_growth σ pp69 (gI σ 34 a2.toNatClampNeg) (((gI σ 34 a2.toNatClampNeg) &&& (a4 ^^^ (-1))) ||| a3))) ≤ 0 → Q 0 σ) ∧ (¬ ((fn_X3_growth σ pp68 (gI σ 34 a1.toNatClampNeg) (((gI σ 34 a1.toNatClampNeg) &&& (a3 ^^^ (-1))) ||| a4)) + (fn_X3_growth σ pp69 (gI σ 34 a2.toNatClampNeg) (((gI σ 34 a2.toNatClampNeg) &&& (a4 ^^^ (-1))) ||| a3))) ≤ 0 → Q 1 σ))))))) ∧ ((a3 ||| a4) = 0 → Q 0 σ))))))) ∧ ((a4 &&& (gI σ 34 a1.toNatClampNeg)) = 0 → (((1 : Int32) = 0 → Q 0 σ) ∧ (¬ (1 : Int32) = 0 → (((1 : Int32) = 0 → Q 0 σ) ∧ (¬ (1 : Int32) = 0 → (((a3 ||| a4) ≠ 0 → vp_in a1 8 ∧ ∃ pp76, gR σ a1.toNatClampNeg = some pp76 ∧ IsP n pp76 ∧ pre_X3_growth σ pp76 (gI σ 34 a1.toNatClampNeg) (((gI σ 34 a1.toNatClampNeg) &&& (a3 ^^^ (-1))) ||| a4) ∧ vp_in a2 8 ∧ ∃ pp77, gR σ a2.toNatClampNeg = some pp77 ∧ IsP n pp77 ∧ pre_X3_growth σ pp77 (gI σ 34 a2.toNatClampNeg) (((gI σ 34 a2.toNatClampNeg) &&& (a4 ^^^ (-1))) ||| a3) ∧ (((fn_X3_growth σ pp76 (gI σ 34 a1.toNatClampNeg) (((gI σ 34 a1.toNatClampNeg) &&& (a3 ^^^ (-1))) ||| a4)) < 0 → Q 0 σ) ∧ (¬ (fn_X3_growth σ pp76 (gI σ 34 a1.toNatClampNeg) (((gI σ 34 a1.toNatClampNeg) &&& (a3 ^^^ (-1))) ||| a4)) < 0 → (((fn_X3_growth σ pp77 (gI σ 34 a2.toNatClampNeg) (((gI σ 34 a2.toNatClampNeg) &&& (a4 ^^^ (-1))) ||| a3)) < 0 → Q 0 σ) ∧ (¬ (fn_X3_growth σ pp77 (gI σ 34 a2.toNatClampNeg) (((gI σ 34 a2.toNatClampNeg) &&& (a4 ^^^ (-1))) ||| a3)) < 0 → ((((fn_X3_growth σ pp76 (gI σ 34 a1.toNatClampNeg) (((gI σ 34 a1.toNatClampNeg) &&& (a3 ^^^ (-1))) ||| a4)) + (fn_X3_growth σ pp77 (gI σ 34 a2.toNatClampNeg) (((gI σ 34 a2.toNatClampNeg) &&& (a4 ^^^ (-1))) ||| a3))) ≤ 0 → Q 0 σ) ∧ (¬ ((fn_X3_growth σ pp76 (gI σ 34 a1.toNatClampNeg) (((gI σ 34 a1.toNatClampNeg) &&& (a3 ^^^ (-1))) ||| a4)) + (fn_X3_growth σ pp77 (gI σ 34 a2.toNatClampNeg) (((gI σ 34 a2.toNatClampNeg) &&& (a4 ^^^ (-1))) ||| a3))) ≤ 0 → Q 1 σ))))))) ∧ ((a3 ||| a4) = 0 → Q 0 σ))))))))))))))) : Cn d n M_X3_betters md_X3_betters [.ref 9, .int a1, .int a2, .int a3, .int a4] σ (liI Q) := by
  refine Cn.of (k0 := 6) (by decide) rfl ?_
  show Ev (d, n, md_X3_betters, σ, liI Q) M_X3_betters 0 [some (.ref 9), some (.int a1), some (.int a2), some (.int a3), some (.int a4), none, none, none, none, none, none] [] σ
  refine e_aload_n dX3_betters_0 rfl rfl ?_
  refine e_getR (y := 8) dX3_betters_1 fl_X3_23 (ob_9 hn) rfl rfl ?_
  refine e_getR (y := 34) dX3_betters_4 fl_X3_38 (ob_8 hn) rfl rfl ?_
  refine e_iload_n dX3_betters_7 rfl rfl ?_
  refine e_iald dX3_betters_8 (ar_34 hn) h.1 ?_
  replace h := h.2
  refine e_istore dX3_betters_9 rfl (by decide) ?_
  refine e_aload_n dX3_betters_11 rfl rfl ?_
  refine e_getR (y := 8) dX3_betters_12 fl_X3_23 (ob_9 hn) rfl rfl ?_
  refine e_getR (y := 34) dX3_betters_15 fl_X3_38 (ob_8 hn) rfl rfl ?_
  refine e_iload_n dX3_betters_18 rfl rfl ?_
  refine e_iald dX3_betters_19 (ar_34 hn) h.1 ?_
  replace h := h.2
  refine e_istore dX3_betters_20 rfl (by decide) ?_
  refine e_iload_n dX3_betters_22 rfl rfl ?_
  refine e_iload dX3_betters_23 rfl ?_
  refine e_iand dX3_betters_25 ?_
  refine e_iload_n dX3_betters_26 rfl rfl ?_
  refine e_icmp_ne (tgt := 44) dX3_betters_27 (by decide) (fun c1 => ?_) (fun c1 => ?_)
  · replace h := h.1 c1
    refine e_iconst dX3_betters_44 ci_0 ?_
    refine e_istore dX3_betters_45 rfl (by decide) ?_
    refine e_iload_n dX3_betters_47 rfl rfl ?_
    refine e_iload dX3_betters_48 rfl ?_
    refine e_iand dX3_betters_50 ?_
    refine e_if_ne (tgt := 66) dX3_betters_51 (by decide) (fun c2 => ?_) (fun c2 => ?_)
    · replace h := h.1 c2
      refine e_iconst dX3_betters_66 ci_0 ?_
      refine e_istore dX3_betters_67 rfl (by decide) ?_
      refine e_iload dX3_betters_69 rfl ?_
      refine e_if_eq (tgt := 86) dX3_betters_71 (by decide) (fun c3 => ?_) (fun c3 => ?_)
      · replace h := h.1 c3
        refine e_iconst dX3_betters_86 ci_0 ?_
        exact e_zret dX3_betters_87 rfl (nar_z (Or.inl rfl)) ⟨_, rfl, h⟩
      · replace h := h.2 c3
        refine e_iload dX3_betters_74 rfl ?_
        refine e_if_eq (tgt := 86) dX3_betters_76 (by decide) (fun c4 => ?_) (fun c4 => ?_)
        · replace h := h.1 c4
          refine e_iconst dX3_betters_86 ci_0 ?_
          exact e_zret dX3_betters_87 rfl (nar_z (Or.inl rfl)) ⟨_, rfl, h⟩
        · replace h := h.2 c4
          refine e_iload_n dX3_betters_79 rfl rfl ?_
          refine e_iload dX3_betters_80 rfl ?_
          refine e_ior dX3_betters_82 ?_
          refine e_if_ne (tgt := 88) dX3_betters_83 (by decide) (fun c5 => ?_) (fun c5 => ?_)
          · replace h := h.1 c5
            refine e_aload_n dX3_betters_88 rfl rfl ?_
            refine e_getR (y := 3) dX3_betters_89 fl_X3_19 (ob_9 hn) rfl rfl ?_
            refine e_getR (y := 18) dX3_betters_92 fl_X3_27 (ob_3 hn) rfl rfl ?_
            refine e_iload_n dX3_betters_95 rfl rfl ?_
            obtain ⟨hi, pp6, hg, hp_pp6, h⟩ := h
            refine e_aldP dX3_betters_96 hn hi hg ?_
            refine e_iload dX3_betters_97 rfl ?_
            refine e_iload dX3_betters_99 rfl ?_
            refine e_iload_n dX3_betters_101 rfl rfl ?_
            refine e_iconst dX3_betters_102 ci_m1 ?_
            refine e_ixor dX3_betters_103 ?_
            refine e_iand dX3_betters_104 ?_
            refine e_iload dX3_betters_105 rfl ?_
            refine e_ior dX3_betters_107 ?_
            refine e_callS (M' := M_X3_growth) (as := [.ref pp6, .int (gI σ 34 a1.toNatClampNeg), .int (((gI σ 34 a1.toNatClampNeg) &&& (a3 ^^^ (-1))) ||| a4)]) (rest := []) dX3_betters_108 ml_X3_73 mk_X3_growth rfl (Nat.le_of_ble_eq_true rfl) (show 0 < d by omega) (sp_X3_growth hp_pp6 h.1) Md_nil (fun v σv hq hf => ?_)
            obtain ⟨v, rfl, rfl, rfl⟩ := hq
            replace h := h.2
            refine e_istore dX3_betters_111 rfl (by decide) ?_
            refine e_aload_n dX3_betters_113 rfl rfl ?_
            refine e_getR (y := 3) dX3_betters_114 fl_X3_19 (ob_9 hn) rfl rfl ?_
            refine e_getR (y := 18) dX3_betters_117 fl_X3_27 (ob_3 hn) rfl rfl ?_
            refine e_iload_n dX3_betters_120 rfl rfl ?_
            obtain ⟨hi, pp7, hg, hp_pp7, h⟩ := h
            refine e_aldP dX3_betters_121 hn hi hg ?_
            refine e_iload dX3_betters_122 rfl ?_
            refine e_iload dX3_betters_124 rfl ?_
            refine e_iload dX3_betters_126 rfl ?_
            refine e_iconst dX3_betters_128 ci_m1 ?_
            refine e_ixor dX3_betters_129 ?_
            refine e_iand dX3_betters_130 ?_
            refine e_iload_n dX3_betters_131 rfl rfl ?_
            refine e_ior dX3_betters_132 ?_
            refine e_callS (M' := M_X3_growth) (as := [.ref pp7, .int (gI σ 34 a2.toNatClampNeg), .int (((gI σ 34 a2.toNatClampNeg) &&& (a4 ^^^ (-1))) ||| a3)]) (rest := []) dX3_betters_133 ml_X3_73 mk_X3_growth rfl (Nat.le_of_ble_eq_true rfl) (show 0 < d by omega) (sp_X3_growth hp_pp7 h.1) Md_nil (fun v σv hq hf => ?_)
            obtain ⟨v, rfl, rfl, rfl⟩ := hq
            replace h := h.2
            refine e_istore dX3_betters_136 rfl (by decide) ?_
            refine e_iload dX3_betters_138 rfl ?_
            refine e_if_lt (tgt := 160) dX3_betters_140 (by decide) (fun c8 => ?_) (fun c8 => ?_)
            · replace h := h.1 c8
              refine e_iconst dX3_betters_160 ci_0 ?_
              exact e_zret dX3_betters_161 rfl (nar_z (Or.inl rfl)) ⟨_, rfl, h⟩
            · replace h := h.2 c8
              refine e_iload dX3_betters_143 rfl ?_
              refine e_if_lt (tgt := 160) dX3_betters_145 (by decide) (fun c9 => ?_) (fun c9 => ?_)
              · replace h := h.1 c9
                refine e_iconst dX3_betters_160 ci_0 ?_
                exact e_zret dX3_betters_161 rfl (nar_z (Or.inl rfl)) ⟨_, rfl, h⟩
              · replace h := h.2 c9
                refine e_iload dX3_betters_148 rfl ?_
                refine e_iload dX3_betters_150 rfl ?_
                refine e_iadd dX3_betters_152 ?_
                refine e_if_le (tgt := 160) dX3_betters_153 (by decide) (fun c10 => ?_) (fun c10 => ?_)
                · replace h := h.1 c10
                  refine e_iconst dX3_betters_160 ci_0 ?_
                  exact e_zret dX3_betters_161 rfl (nar_z (Or.inl rfl)) ⟨_, rfl, h⟩
                · replace h := h.2 c10
                  refine e_iconst dX3_betters_156 ci_1 ?_
                  refine e_goto (tgt := 161) dX3_betters_157 (by decide) ?_
                  exact e_zret dX3_betters_161 rfl (nar_z (Or.inr rfl)) ⟨_, rfl, h⟩
          · replace h := h.2 c5
            refine e_iconst dX3_betters_86 ci_0 ?_
            exact e_zret dX3_betters_87 rfl (nar_z (Or.inl rfl)) ⟨_, rfl, h⟩
    · replace h := h.2 c2
      refine e_iload dX3_betters_54 rfl ?_
      refine e_iload dX3_betters_56 rfl ?_
      refine e_iand dX3_betters_58 ?_
      refine e_if_ne (tgt := 66) dX3_betters_59 (by decide) (fun c11 => ?_) (fun c11 => ?_)
      · replace h := h.1 c11
        refine e_iconst dX3_betters_66 ci_0 ?_
        refine e_istore dX3_betters_67 rfl (by decide) ?_
        refine e_iload dX3_betters_69 rfl ?_
        refine e_if_eq (tgt := 86) dX3_betters_71 (by decide) (fun c12 => ?_) (fun c12 => ?_)
        · replace h := h.1 c12
          refine e_iconst dX3_betters_86 ci_0 ?_
          exact e_zret dX3_betters_87 rfl (nar_z (Or.inl rfl)) ⟨_, rfl, h⟩
        · replace h := h.2 c12
          refine e_iload dX3_betters_74 rfl ?_
          refine e_if_eq (tgt := 86) dX3_betters_76 (by decide) (fun c13 => ?_) (fun c13 => ?_)
          · replace h := h.1 c13
            refine e_iconst dX3_betters_86 ci_0 ?_
            exact e_zret dX3_betters_87 rfl (nar_z (Or.inl rfl)) ⟨_, rfl, h⟩
          · replace h := h.2 c13
            refine e_iload_n dX3_betters_79 rfl rfl ?_
            refine e_iload dX3_betters_80 rfl ?_
            refine e_ior dX3_betters_82 ?_
            refine e_if_ne (tgt := 88) dX3_betters_83 (by decide) (fun c14 => ?_) (fun c14 => ?_)
            · replace h := h.1 c14
              refine e_aload_n dX3_betters_88 rfl rfl ?_
              refine e_getR (y := 3) dX3_betters_89 fl_X3_19 (ob_9 hn) rfl rfl ?_
              refine e_getR (y := 18) dX3_betters_92 fl_X3_27 (ob_3 hn) rfl rfl ?_
              refine e_iload_n dX3_betters_95 rfl rfl ?_
              obtain ⟨hi, pp15, hg, hp_pp15, h⟩ := h
              refine e_aldP dX3_betters_96 hn hi hg ?_
              refine e_iload dX3_betters_97 rfl ?_
              refine e_iload dX3_betters_99 rfl ?_
              refine e_iload_n dX3_betters_101 rfl rfl ?_
              refine e_iconst dX3_betters_102 ci_m1 ?_
              refine e_ixor dX3_betters_103 ?_
              refine e_iand dX3_betters_104 ?_
              refine e_iload dX3_betters_105 rfl ?_
              refine e_ior dX3_betters_107 ?_
              refine e_callS (M' := M_X3_growth) (as := [.ref pp15, .int (gI σ 34 a1.toNatClampNeg), .int (((gI σ 34 a1.toNatClampNeg) &&& (a3 ^^^ (-1))) ||| a4)]) (rest := []) dX3_betters_108 ml_X3_73 mk_X3_growth rfl (Nat.le_of_ble_eq_true rfl) (show 0 < d by omega) (sp_X3_growth hp_pp15 h.1) Md_nil (fun v σv hq hf => ?_)
              obtain ⟨v, rfl, rfl, rfl⟩ := hq
              replace h := h.2
              refine e_istore dX3_betters_111 rfl (by decide) ?_
              refine e_aload_n dX3_betters_113 rfl rfl ?_
              refine e_getR (y := 3) dX3_betters_114 fl_X3_19 (ob_9 hn) rfl rfl ?_
              refine e_getR (y := 18) dX3_betters_117 fl_X3_27 (ob_3 hn) rfl rfl ?_
              refine e_iload_n dX3_betters_120 rfl rfl ?_
              obtain ⟨hi, pp16, hg, hp_pp16, h⟩ := h
              refine e_aldP dX3_betters_121 hn hi hg ?_
              refine e_iload dX3_betters_122 rfl ?_
              refine e_iload dX3_betters_124 rfl ?_
              refine e_iload dX3_betters_126 rfl ?_
              refine e_iconst dX3_betters_128 ci_m1 ?_
              refine e_ixor dX3_betters_129 ?_
              refine e_iand dX3_betters_130 ?_
              refine e_iload_n dX3_betters_131 rfl rfl ?_
              refine e_ior dX3_betters_132 ?_
              refine e_callS (M' := M_X3_growth) (as := [.ref pp16, .int (gI σ 34 a2.toNatClampNeg), .int (((gI σ 34 a2.toNatClampNeg) &&& (a4 ^^^ (-1))) ||| a3)]) (rest := []) dX3_betters_133 ml_X3_73 mk_X3_growth rfl (Nat.le_of_ble_eq_true rfl) (show 0 < d by omega) (sp_X3_growth hp_pp16 h.1) Md_nil (fun v σv hq hf => ?_)
              obtain ⟨v, rfl, rfl, rfl⟩ := hq
              replace h := h.2
              refine e_istore dX3_betters_136 rfl (by decide) ?_
              refine e_iload dX3_betters_138 rfl ?_
              refine e_if_lt (tgt := 160) dX3_betters_140 (by decide) (fun c17 => ?_) (fun c17 => ?_)
              · replace h := h.1 c17
                refine e_iconst dX3_betters_160 ci_0 ?_
                exact e_zret dX3_betters_161 rfl (nar_z (Or.inl rfl)) ⟨_, rfl, h⟩
              · replace h := h.2 c17
                refine e_iload dX3_betters_143 rfl ?_
                refine e_if_lt (tgt := 160) dX3_betters_145 (by decide) (fun c18 => ?_) (fun c18 => ?_)
                · replace h := h.1 c18
                  refine e_iconst dX3_betters_160 ci_0 ?_
                  exact e_zret dX3_betters_161 rfl (nar_z (Or.inl rfl)) ⟨_, rfl, h⟩
                · replace h := h.2 c18
                  refine e_iload dX3_betters_148 rfl ?_
                  refine e_iload dX3_betters_150 rfl ?_
                  refine e_iadd dX3_betters_152 ?_
                  refine e_if_le (tgt := 160) dX3_betters_153 (by decide) (fun c19 => ?_) (fun c19 => ?_)
                  · replace h := h.1 c19
                    refine e_iconst dX3_betters_160 ci_0 ?_
                    exact e_zret dX3_betters_161 rfl (nar_z (Or.inl rfl)) ⟨_, rfl, h⟩
                  · replace h := h.2 c19
                    refine e_iconst dX3_betters_156 ci_1 ?_
                    refine e_goto (tgt := 161) dX3_betters_157 (by decide) ?_
                    exact e_zret dX3_betters_161 rfl (nar_z (Or.inr rfl)) ⟨_, rfl, h⟩
            · replace h := h.2 c14
              refine e_iconst dX3_betters_86 ci_0 ?_
              exact e_zret dX3_betters_87 rfl (nar_z (Or.inl rfl)) ⟨_, rfl, h⟩
      · replace h := h.2 c11
        refine e_iconst dX3_betters_62 ci_1 ?_
        refine e_goto (tgt := 67) dX3_betters_63 (by decide) ?_
        refine e_istore dX3_betters_67 rfl (by decide) ?_
        refine e_iload dX3_betters_69 rfl ?_
        refine e_if_eq (tgt := 86) dX3_betters_71 (by decide) (fun c20 => ?_) (fun c20 => ?_)
        · replace h := h.1 c20
          refine e_iconst dX3_betters_86 ci_0 ?_
          exact e_zret dX3_betters_87 rfl (nar_z (Or.inl rfl)) ⟨_, rfl, h⟩
        · replace h := h.2 c20
          refine e_iload dX3_betters_74 rfl ?_
          refine e_if_eq (tgt := 86) dX3_betters_76 (by decide) (fun c21 => ?_) (fun c21 => ?_)
          · replace h := h.1 c21
            refine e_iconst dX3_betters_86 ci_0 ?_
            exact e_zret dX3_betters_87 rfl (nar_z (Or.inl rfl)) ⟨_, rfl, h⟩
          · replace h := h.2 c21
            refine e_iload_n dX3_betters_79 rfl rfl ?_
            refine e_iload dX3_betters_80 rfl ?_
            refine e_ior dX3_betters_82 ?_
            refine e_if_ne (tgt := 88) dX3_betters_83 (by decide) (fun c22 => ?_) (fun c22 => ?_)
            · replace h := h.1 c22
              refine e_aload_n dX3_betters_88 rfl rfl ?_
              refine e_getR (y := 3) dX3_betters_89 fl_X3_19 (ob_9 hn) rfl rfl ?_
              refine e_getR (y := 18) dX3_betters_92 fl_X3_27 (ob_3 hn) rfl rfl ?_
              refine e_iload_n dX3_betters_95 rfl rfl ?_
              obtain ⟨hi, pp23, hg, hp_pp23, h⟩ := h
              refine e_aldP dX3_betters_96 hn hi hg ?_
              refine e_iload dX3_betters_97 rfl ?_
              refine e_iload dX3_betters_99 rfl ?_
              refine e_iload_n dX3_betters_101 rfl rfl ?_
              refine e_iconst dX3_betters_102 ci_m1 ?_
              refine e_ixor dX3_betters_103 ?_
              refine e_iand dX3_betters_104 ?_
              refine e_iload dX3_betters_105 rfl ?_
              refine e_ior dX3_betters_107 ?_
              refine e_callS (M' := M_X3_growth) (as := [.ref pp23, .int (gI σ 34 a1.toNatClampNeg), .int (((gI σ 34 a1.toNatClampNeg) &&& (a3 ^^^ (-1))) ||| a4)]) (rest := []) dX3_betters_108 ml_X3_73 mk_X3_growth rfl (Nat.le_of_ble_eq_true rfl) (show 0 < d by omega) (sp_X3_growth hp_pp23 h.1) Md_nil (fun v σv hq hf => ?_)
              obtain ⟨v, rfl, rfl, rfl⟩ := hq
              replace h := h.2
              refine e_istore dX3_betters_111 rfl (by decide) ?_
              refine e_aload_n dX3_betters_113 rfl rfl ?_
              refine e_getR (y := 3) dX3_betters_114 fl_X3_19 (ob_9 hn) rfl rfl ?_
              refine e_getR (y := 18) dX3_betters_117 fl_X3_27 (ob_3 hn) rfl rfl ?_
              refine e_iload_n dX3_betters_120 rfl rfl ?_
              obtain ⟨hi, pp24, hg, hp_pp24, h⟩ := h
              refine e_aldP dX3_betters_121 hn hi hg ?_
              refine e_iload dX3_betters_122 rfl ?_
              refine e_iload dX3_betters_124 rfl ?_
              refine e_iload dX3_betters_126 rfl ?_
              refine e_iconst dX3_betters_128 ci_m1 ?_
              refine e_ixor dX3_betters_129 ?_
              refine e_iand dX3_betters_130 ?_
              refine e_iload_n dX3_betters_131 rfl rfl ?_
              refine e_ior dX3_betters_132 ?_
              refine e_callS (M' := M_X3_growth) (as := [.ref pp24, .int (gI σ 34 a2.toNatClampNeg), .int (((gI σ 34 a2.toNatClampNeg) &&& (a4 ^^^ (-1))) ||| a3)]) (rest := []) dX3_betters_133 ml_X3_73 mk_X3_growth rfl (Nat.le_of_ble_eq_true rfl) (show 0 < d by omega) (sp_X3_growth hp_pp24 h.1) Md_nil (fun v σv hq hf => ?_)
              obtain ⟨v, rfl, rfl, rfl⟩ := hq
              replace h := h.2
              refine e_istore dX3_betters_136 rfl (by decide) ?_
              refine e_iload dX3_betters_138 rfl ?_
              refine e_if_lt (tgt := 160) dX3_betters_140 (by decide) (fun c25 => ?_) (fun c25 => ?_)
              · replace h := h.1 c25
                refine e_iconst dX3_betters_160 ci_0 ?_
                exact e_zret dX3_betters_161 rfl (nar_z (Or.inl rfl)) ⟨_, rfl, h⟩
              · replace h := h.2 c25
                refine e_iload dX3_betters_143 rfl ?_
                refine e_if_lt (tgt := 160) dX3_betters_145 (by decide) (fun c26 => ?_) (fun c26 => ?_)
                · replace h := h.1 c26
                  refine e_iconst dX3_betters_160 ci_0 ?_
                  exact e_zret dX3_betters_161 rfl (nar_z (Or.inl rfl)) ⟨_, rfl, h⟩
                · replace h := h.2 c26
                  refine e_iload dX3_betters_148 rfl ?_
                  refine e_iload dX3_betters_150 rfl ?_
                  refine e_iadd dX3_betters_152 ?_
                  refine e_if_le (tgt := 160) dX3_betters_153 (by decide) (fun c27 => ?_) (fun c27 => ?_)
                  · replace h := h.1 c27
                    refine e_iconst dX3_betters_160 ci_0 ?_
                    exact e_zret dX3_betters_161 rfl (nar_z (Or.inl rfl)) ⟨_, rfl, h⟩
                  · replace h := h.2 c27
                    refine e_iconst dX3_betters_156 ci_1 ?_
                    refine e_goto (tgt := 161) dX3_betters_157 (by decide) ?_
                    exact e_zret dX3_betters_161 rfl (nar_z (Or.inr rfl)) ⟨_, rfl, h⟩
            · replace h := h.2 c22
              refine e_iconst dX3_betters_86 ci_0 ?_
              exact e_zret dX3_betters_87 rfl (nar_z (Or.inl rfl)) ⟨_, rfl, h⟩
  · replace h := h.2 c1
    refine e_iload dX3_betters_30 rfl ?_
    refine e_iload dX3_betters_32 rfl ?_
    refine e_iand dX3_betters_34 ?_
    refine e_iload dX3_betters_35 rfl ?_
    refine e_icmp_ne (tgt := 44) dX3_betters_37 (by decide) (fun c28 => ?_) (fun c28 => ?_)
    · replace h := h.1 c28
      refine e_iconst dX3_betters_44 ci_0 ?_
      refine e_istore dX3_betters_45 rfl (by decide) ?_
      refine e_iload_n dX3_betters_47 rfl rfl ?_
      refine e_iload dX3_betters_48 rfl ?_
      refine e_iand dX3_betters_50 ?_
      refine e_if_ne (tgt := 66) dX3_betters_51 (by decide) (fun c29 => ?_) (fun c29 => ?_)
      · replace h := h.1 c29
        refine e_iconst dX3_betters_66 ci_0 ?_
        refine e_istore dX3_betters_67 rfl (by decide) ?_
        refine e_iload dX3_betters_69 rfl ?_
        refine e_if_eq (tgt := 86) dX3_betters_71 (by decide) (fun c30 => ?_) (fun c30 => ?_)
        · replace h := h.1 c30
          refine e_iconst dX3_betters_86 ci_0 ?_
          exact e_zret dX3_betters_87 rfl (nar_z (Or.inl rfl)) ⟨_, rfl, h⟩
        · replace h := h.2 c30
          refine e_iload dX3_betters_74 rfl ?_
          refine e_if_eq (tgt := 86) dX3_betters_76 (by decide) (fun c31 => ?_) (fun c31 => ?_)
          · replace h := h.1 c31
            refine e_iconst dX3_betters_86 ci_0 ?_
            exact e_zret dX3_betters_87 rfl (nar_z (Or.inl rfl)) ⟨_, rfl, h⟩
          · replace h := h.2 c31
            refine e_iload_n dX3_betters_79 rfl rfl ?_
            refine e_iload dX3_betters_80 rfl ?_
            refine e_ior dX3_betters_82 ?_
            refine e_if_ne (tgt := 88) dX3_betters_83 (by decide) (fun c32 => ?_) (fun c32 => ?_)
            · replace h := h.1 c32
              refine e_aload_n dX3_betters_88 rfl rfl ?_
              refine e_getR (y := 3) dX3_betters_89 fl_X3_19 (ob_9 hn) rfl rfl ?_
              refine e_getR (y := 18) dX3_betters_92 fl_X3_27 (ob_3 hn) rfl rfl ?_
              refine e_iload_n dX3_betters_95 rfl rfl ?_
              obtain ⟨hi, pp33, hg, hp_pp33, h⟩ := h
              refine e_aldP dX3_betters_96 hn hi hg ?_
              refine e_iload dX3_betters_97 rfl ?_
              refine e_iload dX3_betters_99 rfl ?_
              refine e_iload_n dX3_betters_101 rfl rfl ?_
              refine e_iconst dX3_betters_102 ci_m1 ?_
              refine e_ixor dX3_betters_103 ?_
              refine e_iand dX3_betters_104 ?_
              refine e_iload dX3_betters_105 rfl ?_
              refine e_ior dX3_betters_107 ?_
              refine e_callS (M' := M_X3_growth) (as := [.ref pp33, .int (gI σ 34 a1.toNatClampNeg), .int (((gI σ 34 a1.toNatClampNeg) &&& (a3 ^^^ (-1))) ||| a4)]) (rest := []) dX3_betters_108 ml_X3_73 mk_X3_growth rfl (Nat.le_of_ble_eq_true rfl) (show 0 < d by omega) (sp_X3_growth hp_pp33 h.1) Md_nil (fun v σv hq hf => ?_)
              obtain ⟨v, rfl, rfl, rfl⟩ := hq
              replace h := h.2
              refine e_istore dX3_betters_111 rfl (by decide) ?_
              refine e_aload_n dX3_betters_113 rfl rfl ?_
              refine e_getR (y := 3) dX3_betters_114 fl_X3_19 (ob_9 hn) rfl rfl ?_
              refine e_getR (y := 18) dX3_betters_117 fl_X3_27 (ob_3 hn) rfl rfl ?_
              refine e_iload_n dX3_betters_120 rfl rfl ?_
              obtain ⟨hi, pp34, hg, hp_pp34, h⟩ := h
              refine e_aldP dX3_betters_121 hn hi hg ?_
              refine e_iload dX3_betters_122 rfl ?_
              refine e_iload dX3_betters_124 rfl ?_
              refine e_iload dX3_betters_126 rfl ?_
              refine e_iconst dX3_betters_128 ci_m1 ?_
              refine e_ixor dX3_betters_129 ?_
              refine e_iand dX3_betters_130 ?_
              refine e_iload_n dX3_betters_131 rfl rfl ?_
              refine e_ior dX3_betters_132 ?_
              refine e_callS (M' := M_X3_growth) (as := [.ref pp34, .int (gI σ 34 a2.toNatClampNeg), .int (((gI σ 34 a2.toNatClampNeg) &&& (a4 ^^^ (-1))) ||| a3)]) (rest := []) dX3_betters_133 ml_X3_73 mk_X3_growth rfl (Nat.le_of_ble_eq_true rfl) (show 0 < d by omega) (sp_X3_growth hp_pp34 h.1) Md_nil (fun v σv hq hf => ?_)
              obtain ⟨v, rfl, rfl, rfl⟩ := hq
              replace h := h.2
              refine e_istore dX3_betters_136 rfl (by decide) ?_
              refine e_iload dX3_betters_138 rfl ?_
              refine e_if_lt (tgt := 160) dX3_betters_140 (by decide) (fun c35 => ?_) (fun c35 => ?_)
              · replace h := h.1 c35
                refine e_iconst dX3_betters_160 ci_0 ?_
                exact e_zret dX3_betters_161 rfl (nar_z (Or.inl rfl)) ⟨_, rfl, h⟩
              · replace h := h.2 c35
                refine e_iload dX3_betters_143 rfl ?_
                refine e_if_lt (tgt := 160) dX3_betters_145 (by decide) (fun c36 => ?_) (fun c36 => ?_)
                · replace h := h.1 c36
                  refine e_iconst dX3_betters_160 ci_0 ?_
                  exact e_zret dX3_betters_161 rfl (nar_z (Or.inl rfl)) ⟨_, rfl, h⟩
                · replace h := h.2 c36
                  refine e_iload dX3_betters_148 rfl ?_
                  refine e_iload dX3_betters_150 rfl ?_
                  refine e_iadd dX3_betters_152 ?_
                  refine e_if_le (tgt := 160) dX3_betters_153 (by decide) (fun c37 => ?_) (fun c37 => ?_)
                  · replace h := h.1 c37
                    refine e_iconst dX3_betters_160 ci_0 ?_
                    exact e_zret dX3_betters_161 rfl (nar_z (Or.inl rfl)) ⟨_, rfl, h⟩
                  · replace h := h.2 c37
                    refine e_iconst dX3_betters_156 ci_1 ?_
                    refine e_goto (tgt := 161) dX3_betters_157 (by decide) ?_
                    exact e_zret dX3_betters_161 rfl (nar_z (Or.inr rfl)) ⟨_, rfl, h⟩
            · replace h := h.2 c32
              refine e_iconst dX3_betters_86 ci_0 ?_
              exact e_zret dX3_betters_87 rfl (nar_z (Or.inl rfl)) ⟨_, rfl, h⟩
      · replace h := h.2 c29
        refine e_iload dX3_betters_54 rfl ?_
        refine e_iload dX3_betters_56 rfl ?_
        refine e_iand dX3_betters_58 ?_
        refine e_if_ne (tgt := 66) dX3_betters_59 (by decide) (fun c38 => ?_) (fun c38 => ?_)
        · replace h := h.1 c38
          refine e_iconst dX3_betters_66 ci_0 ?_
          refine e_istore dX3_betters_67 rfl (by decide) ?_
          refine e_iload dX3_betters_69 rfl ?_
          refine e_if_eq (tgt := 86) dX3_betters_71 (by decide) (fun c39 => ?_) (fun c39 => ?_)
          · replace h := h.1 c39
            refine e_iconst dX3_betters_86 ci_0 ?_
            exact e_zret dX3_betters_87 rfl (nar_z (Or.inl rfl)) ⟨_, rfl, h⟩
          · replace h := h.2 c39
            refine e_iload dX3_betters_74 rfl ?_
            refine e_if_eq (tgt := 86) dX3_betters_76 (by decide) (fun c40 => ?_) (fun c40 => ?_)
            · replace h := h.1 c40
              refine e_iconst dX3_betters_86 ci_0 ?_
              exact e_zret dX3_betters_87 rfl (nar_z (Or.inl rfl)) ⟨_, rfl, h⟩
            · replace h := h.2 c40
              refine e_iload_n dX3_betters_79 rfl rfl ?_
              refine e_iload dX3_betters_80 rfl ?_
              refine e_ior dX3_betters_82 ?_
              refine e_if_ne (tgt := 88) dX3_betters_83 (by decide) (fun c41 => ?_) (fun c41 => ?_)
              · replace h := h.1 c41
                refine e_aload_n dX3_betters_88 rfl rfl ?_
                refine e_getR (y := 3) dX3_betters_89 fl_X3_19 (ob_9 hn) rfl rfl ?_
                refine e_getR (y := 18) dX3_betters_92 fl_X3_27 (ob_3 hn) rfl rfl ?_
                refine e_iload_n dX3_betters_95 rfl rfl ?_
                obtain ⟨hi, pp42, hg, hp_pp42, h⟩ := h
                refine e_aldP dX3_betters_96 hn hi hg ?_
                refine e_iload dX3_betters_97 rfl ?_
                refine e_iload dX3_betters_99 rfl ?_
                refine e_iload_n dX3_betters_101 rfl rfl ?_
                refine e_iconst dX3_betters_102 ci_m1 ?_
                refine e_ixor dX3_betters_103 ?_
                refine e_iand dX3_betters_104 ?_
                refine e_iload dX3_betters_105 rfl ?_
                refine e_ior dX3_betters_107 ?_
                refine e_callS (M' := M_X3_growth) (as := [.ref pp42, .int (gI σ 34 a1.toNatClampNeg), .int (((gI σ 34 a1.toNatClampNeg) &&& (a3 ^^^ (-1))) ||| a4)]) (rest := []) dX3_betters_108 ml_X3_73 mk_X3_growth rfl (Nat.le_of_ble_eq_true rfl) (show 0 < d by omega) (sp_X3_growth hp_pp42 h.1) Md_nil (fun v σv hq hf => ?_)
                obtain ⟨v, rfl, rfl, rfl⟩ := hq
                replace h := h.2
                refine e_istore dX3_betters_111 rfl (by decide) ?_
                refine e_aload_n dX3_betters_113 rfl rfl ?_
                refine e_getR (y := 3) dX3_betters_114 fl_X3_19 (ob_9 hn) rfl rfl ?_
                refine e_getR (y := 18) dX3_betters_117 fl_X3_27 (ob_3 hn) rfl rfl ?_
                refine e_iload_n dX3_betters_120 rfl rfl ?_
                obtain ⟨hi, pp43, hg, hp_pp43, h⟩ := h
                refine e_aldP dX3_betters_121 hn hi hg ?_
                refine e_iload dX3_betters_122 rfl ?_
                refine e_iload dX3_betters_124 rfl ?_
                refine e_iload dX3_betters_126 rfl ?_
                refine e_iconst dX3_betters_128 ci_m1 ?_
                refine e_ixor dX3_betters_129 ?_
                refine e_iand dX3_betters_130 ?_
                refine e_iload_n dX3_betters_131 rfl rfl ?_
                refine e_ior dX3_betters_132 ?_
                refine e_callS (M' := M_X3_growth) (as := [.ref pp43, .int (gI σ 34 a2.toNatClampNeg), .int (((gI σ 34 a2.toNatClampNeg) &&& (a4 ^^^ (-1))) ||| a3)]) (rest := []) dX3_betters_133 ml_X3_73 mk_X3_growth rfl (Nat.le_of_ble_eq_true rfl) (show 0 < d by omega) (sp_X3_growth hp_pp43 h.1) Md_nil (fun v σv hq hf => ?_)
                obtain ⟨v, rfl, rfl, rfl⟩ := hq
                replace h := h.2
                refine e_istore dX3_betters_136 rfl (by decide) ?_
                refine e_iload dX3_betters_138 rfl ?_
                refine e_if_lt (tgt := 160) dX3_betters_140 (by decide) (fun c44 => ?_) (fun c44 => ?_)
                · replace h := h.1 c44
                  refine e_iconst dX3_betters_160 ci_0 ?_
                  exact e_zret dX3_betters_161 rfl (nar_z (Or.inl rfl)) ⟨_, rfl, h⟩
                · replace h := h.2 c44
                  refine e_iload dX3_betters_143 rfl ?_
                  refine e_if_lt (tgt := 160) dX3_betters_145 (by decide) (fun c45 => ?_) (fun c45 => ?_)
                  · replace h := h.1 c45
                    refine e_iconst dX3_betters_160 ci_0 ?_
                    exact e_zret dX3_betters_161 rfl (nar_z (Or.inl rfl)) ⟨_, rfl, h⟩
                  · replace h := h.2 c45
                    refine e_iload dX3_betters_148 rfl ?_
                    refine e_iload dX3_betters_150 rfl ?_
                    refine e_iadd dX3_betters_152 ?_
                    refine e_if_le (tgt := 160) dX3_betters_153 (by decide) (fun c46 => ?_) (fun c46 => ?_)
                    · replace h := h.1 c46
                      refine e_iconst dX3_betters_160 ci_0 ?_
                      exact e_zret dX3_betters_161 rfl (nar_z (Or.inl rfl)) ⟨_, rfl, h⟩
                    · replace h := h.2 c46
                      refine e_iconst dX3_betters_156 ci_1 ?_
                      refine e_goto (tgt := 161) dX3_betters_157 (by decide) ?_
                      exact e_zret dX3_betters_161 rfl (nar_z (Or.inr rfl)) ⟨_, rfl, h⟩
              · replace h := h.2 c41
                refine e_iconst dX3_betters_86 ci_0 ?_
                exact e_zret dX3_betters_87 rfl (nar_z (Or.inl rfl)) ⟨_, rfl, h⟩
        · replace h := h.2 c38
          refine e_iconst dX3_betters_62 ci_1 ?_
          refine e_goto (tgt := 67) dX3_betters_63 (by decide) ?_
          refine e_istore dX3_betters_67 rfl (by decide) ?_
          refine e_iload dX3_betters_69 rfl ?_
          refine e_if_eq (tgt := 86) dX3_betters_71 (by decide) (fun c47 => ?_) (fun c47 => ?_)
          · replace h := h.1 c47
            refine e_iconst dX3_betters_86 ci_0 ?_
            exact e_zret dX3_betters_87 rfl (nar_z (Or.inl rfl)) ⟨_, rfl, h⟩
          · replace h := h.2 c47
            refine e_iload dX3_betters_74 rfl ?_
            refine e_if_eq (tgt := 86) dX3_betters_76 (by decide) (fun c48 => ?_) (fun c48 => ?_)
            · replace h := h.1 c48
              refine e_iconst dX3_betters_86 ci_0 ?_
              exact e_zret dX3_betters_87 rfl (nar_z (Or.inl rfl)) ⟨_, rfl, h⟩
            · replace h := h.2 c48
              refine e_iload_n dX3_betters_79 rfl rfl ?_
              refine e_iload dX3_betters_80 rfl ?_
              refine e_ior dX3_betters_82 ?_
              refine e_if_ne (tgt := 88) dX3_betters_83 (by decide) (fun c49 => ?_) (fun c49 => ?_)
              · replace h := h.1 c49
                refine e_aload_n dX3_betters_88 rfl rfl ?_
                refine e_getR (y := 3) dX3_betters_89 fl_X3_19 (ob_9 hn) rfl rfl ?_
                refine e_getR (y := 18) dX3_betters_92 fl_X3_27 (ob_3 hn) rfl rfl ?_
                refine e_iload_n dX3_betters_95 rfl rfl ?_
                obtain ⟨hi, pp50, hg, hp_pp50, h⟩ := h
                refine e_aldP dX3_betters_96 hn hi hg ?_
                refine e_iload dX3_betters_97 rfl ?_
                refine e_iload dX3_betters_99 rfl ?_
                refine e_iload_n dX3_betters_101 rfl rfl ?_
                refine e_iconst dX3_betters_102 ci_m1 ?_
                refine e_ixor dX3_betters_103 ?_
                refine e_iand dX3_betters_104 ?_
                refine e_iload dX3_betters_105 rfl ?_
                refine e_ior dX3_betters_107 ?_
                refine e_callS (M' := M_X3_growth) (as := [.ref pp50, .int (gI σ 34 a1.toNatClampNeg), .int (((gI σ 34 a1.toNatClampNeg) &&& (a3 ^^^ (-1))) ||| a4)]) (rest := []) dX3_betters_108 ml_X3_73 mk_X3_growth rfl (Nat.le_of_ble_eq_true rfl) (show 0 < d by omega) (sp_X3_growth hp_pp50 h.1) Md_nil (fun v σv hq hf => ?_)
                obtain ⟨v, rfl, rfl, rfl⟩ := hq
                replace h := h.2
                refine e_istore dX3_betters_111 rfl (by decide) ?_
                refine e_aload_n dX3_betters_113 rfl rfl ?_
                refine e_getR (y := 3) dX3_betters_114 fl_X3_19 (ob_9 hn) rfl rfl ?_
                refine e_getR (y := 18) dX3_betters_117 fl_X3_27 (ob_3 hn) rfl rfl ?_
                refine e_iload_n dX3_betters_120 rfl rfl ?_
                obtain ⟨hi, pp51, hg, hp_pp51, h⟩ := h
                refine e_aldP dX3_betters_121 hn hi hg ?_
                refine e_iload dX3_betters_122 rfl ?_
                refine e_iload dX3_betters_124 rfl ?_
                refine e_iload dX3_betters_126 rfl ?_
                refine e_iconst dX3_betters_128 ci_m1 ?_
                refine e_ixor dX3_betters_129 ?_
                refine e_iand dX3_betters_130 ?_
                refine e_iload_n dX3_betters_131 rfl rfl ?_
                refine e_ior dX3_betters_132 ?_
                refine e_callS (M' := M_X3_growth) (as := [.ref pp51, .int (gI σ 34 a2.toNatClampNeg), .int (((gI σ 34 a2.toNatClampNeg) &&& (a4 ^^^ (-1))) ||| a3)]) (rest := []) dX3_betters_133 ml_X3_73 mk_X3_growth rfl (Nat.le_of_ble_eq_true rfl) (show 0 < d by omega) (sp_X3_growth hp_pp51 h.1) Md_nil (fun v σv hq hf => ?_)
                obtain ⟨v, rfl, rfl, rfl⟩ := hq
                replace h := h.2
                refine e_istore dX3_betters_136 rfl (by decide) ?_
                refine e_iload dX3_betters_138 rfl ?_
                refine e_if_lt (tgt := 160) dX3_betters_140 (by decide) (fun c52 => ?_) (fun c52 => ?_)
                · replace h := h.1 c52
                  refine e_iconst dX3_betters_160 ci_0 ?_
                  exact e_zret dX3_betters_161 rfl (nar_z (Or.inl rfl)) ⟨_, rfl, h⟩
                · replace h := h.2 c52
                  refine e_iload dX3_betters_143 rfl ?_
                  refine e_if_lt (tgt := 160) dX3_betters_145 (by decide) (fun c53 => ?_) (fun c53 => ?_)
                  · replace h := h.1 c53
                    refine e_iconst dX3_betters_160 ci_0 ?_
                    exact e_zret dX3_betters_161 rfl (nar_z (Or.inl rfl)) ⟨_, rfl, h⟩
                  · replace h := h.2 c53
                    refine e_iload dX3_betters_148 rfl ?_
                    refine e_iload dX3_betters_150 rfl ?_
                    refine e_iadd dX3_betters_152 ?_
                    refine e_if_le (tgt := 160) dX3_betters_153 (by decide) (fun c54 => ?_) (fun c54 => ?_)
                    · replace h := h.1 c54
                      refine e_iconst dX3_betters_160 ci_0 ?_
                      exact e_zret dX3_betters_161 rfl (nar_z (Or.inl rfl)) ⟨_, rfl, h⟩
                    · replace h := h.2 c54
                      refine e_iconst dX3_betters_156 ci_1 ?_
                      refine e_goto (tgt := 161) dX3_betters_157 (by decide) ?_
                      exact e_zret dX3_betters_161 rfl (nar_z (Or.inr rfl)) ⟨_, rfl, h⟩
              · replace h := h.2 c49
                refine e_iconst dX3_betters_86 ci_0 ?_
                exact e_zret dX3_betters_87 rfl (nar_z (Or.inl rfl)) ⟨_, rfl, h⟩
    · replace h := h.2 c28
      refine e_iconst dX3_betters_40 ci_1 ?_
      refine e_goto (tgt := 45) dX3_betters_41 (by decide) ?_
      refine e_istore dX3_betters_45 rfl (by decide) ?_
      refine e_iload_n dX3_betters_47 rfl rfl ?_
      refine e_iload dX3_betters_48 rfl ?_
      refine e_iand dX3_betters_50 ?_
      refine e_if_ne (tgt := 66) dX3_betters_51 (by decide) (fun c55 => ?_) (fun c55 => ?_)
      · replace h := h.1 c55
        refine e_iconst dX3_betters_66 ci_0 ?_
        refine e_istore dX3_betters_67 rfl (by decide) ?_
        refine e_iload dX3_betters_69 rfl ?_
        refine e_if_eq (tgt := 86) dX3_betters_71 (by decide) (fun c56 => ?_) (fun c56 => ?_)
        · replace h := h.1 c56
          refine e_iconst dX3_betters_86 ci_0 ?_
          exact e_zret dX3_betters_87 rfl (nar_z (Or.inl rfl)) ⟨_, rfl, h⟩
        · replace h := h.2 c56
          refine e_iload dX3_betters_74 rfl ?_
          refine e_if_eq (tgt := 86) dX3_betters_76 (by decide) (fun c57 => ?_) (fun c57 => ?_)
          · replace h := h.1 c57
            refine e_iconst dX3_betters_86 ci_0 ?_
            exact e_zret dX3_betters_87 rfl (nar_z (Or.inl rfl)) ⟨_, rfl, h⟩
          · replace h := h.2 c57
            refine e_iload_n dX3_betters_79 rfl rfl ?_
            refine e_iload dX3_betters_80 rfl ?_
            refine e_ior dX3_betters_82 ?_
            refine e_if_ne (tgt := 88) dX3_betters_83 (by decide) (fun c58 => ?_) (fun c58 => ?_)
            · replace h := h.1 c58
              refine e_aload_n dX3_betters_88 rfl rfl ?_
              refine e_getR (y := 3) dX3_betters_89 fl_X3_19 (ob_9 hn) rfl rfl ?_
              refine e_getR (y := 18) dX3_betters_92 fl_X3_27 (ob_3 hn) rfl rfl ?_
              refine e_iload_n dX3_betters_95 rfl rfl ?_
              obtain ⟨hi, pp59, hg, hp_pp59, h⟩ := h
              refine e_aldP dX3_betters_96 hn hi hg ?_
              refine e_iload dX3_betters_97 rfl ?_
              refine e_iload dX3_betters_99 rfl ?_
              refine e_iload_n dX3_betters_101 rfl rfl ?_
              refine e_iconst dX3_betters_102 ci_m1 ?_
              refine e_ixor dX3_betters_103 ?_
              refine e_iand dX3_betters_104 ?_
              refine e_iload dX3_betters_105 rfl ?_
              refine e_ior dX3_betters_107 ?_
              refine e_callS (M' := M_X3_growth) (as := [.ref pp59, .int (gI σ 34 a1.toNatClampNeg), .int (((gI σ 34 a1.toNatClampNeg) &&& (a3 ^^^ (-1))) ||| a4)]) (rest := []) dX3_betters_108 ml_X3_73 mk_X3_growth rfl (Nat.le_of_ble_eq_true rfl) (show 0 < d by omega) (sp_X3_growth hp_pp59 h.1) Md_nil (fun v σv hq hf => ?_)
              obtain ⟨v, rfl, rfl, rfl⟩ := hq
              replace h := h.2
              refine e_istore dX3_betters_111 rfl (by decide) ?_
              refine e_aload_n dX3_betters_113 rfl rfl ?_
              refine e_getR (y := 3) dX3_betters_114 fl_X3_19 (ob_9 hn) rfl rfl ?_
              refine e_getR (y := 18) dX3_betters_117 fl_X3_27 (ob_3 hn) rfl rfl ?_
              refine e_iload_n dX3_betters_120 rfl rfl ?_
              obtain ⟨hi, pp60, hg, hp_pp60, h⟩ := h
              refine e_aldP dX3_betters_121 hn hi hg ?_
              refine e_iload dX3_betters_122 rfl ?_
              refine e_iload dX3_betters_124 rfl ?_
              refine e_iload dX3_betters_126 rfl ?_
              refine e_iconst dX3_betters_128 ci_m1 ?_
              refine e_ixor dX3_betters_129 ?_
              refine e_iand dX3_betters_130 ?_
              refine e_iload_n dX3_betters_131 rfl rfl ?_
              refine e_ior dX3_betters_132 ?_
              refine e_callS (M' := M_X3_growth) (as := [.ref pp60, .int (gI σ 34 a2.toNatClampNeg), .int (((gI σ 34 a2.toNatClampNeg) &&& (a4 ^^^ (-1))) ||| a3)]) (rest := []) dX3_betters_133 ml_X3_73 mk_X3_growth rfl (Nat.le_of_ble_eq_true rfl) (show 0 < d by omega) (sp_X3_growth hp_pp60 h.1) Md_nil (fun v σv hq hf => ?_)
              obtain ⟨v, rfl, rfl, rfl⟩ := hq
              replace h := h.2
              refine e_istore dX3_betters_136 rfl (by decide) ?_
              refine e_iload dX3_betters_138 rfl ?_
              refine e_if_lt (tgt := 160) dX3_betters_140 (by decide) (fun c61 => ?_) (fun c61 => ?_)
              · replace h := h.1 c61
                refine e_iconst dX3_betters_160 ci_0 ?_
                exact e_zret dX3_betters_161 rfl (nar_z (Or.inl rfl)) ⟨_, rfl, h⟩
              · replace h := h.2 c61
                refine e_iload dX3_betters_143 rfl ?_
                refine e_if_lt (tgt := 160) dX3_betters_145 (by decide) (fun c62 => ?_) (fun c62 => ?_)
                · replace h := h.1 c62
                  refine e_iconst dX3_betters_160 ci_0 ?_
                  exact e_zret dX3_betters_161 rfl (nar_z (Or.inl rfl)) ⟨_, rfl, h⟩
                · replace h := h.2 c62
                  refine e_iload dX3_betters_148 rfl ?_
                  refine e_iload dX3_betters_150 rfl ?_
                  refine e_iadd dX3_betters_152 ?_
                  refine e_if_le (tgt := 160) dX3_betters_153 (by decide) (fun c63 => ?_) (fun c63 => ?_)
                  · replace h := h.1 c63
                    refine e_iconst dX3_betters_160 ci_0 ?_
                    exact e_zret dX3_betters_161 rfl (nar_z (Or.inl rfl)) ⟨_, rfl, h⟩
                  · replace h := h.2 c63
                    refine e_iconst dX3_betters_156 ci_1 ?_
                    refine e_goto (tgt := 161) dX3_betters_157 (by decide) ?_
                    exact e_zret dX3_betters_161 rfl (nar_z (Or.inr rfl)) ⟨_, rfl, h⟩
            · replace h := h.2 c58
              refine e_iconst dX3_betters_86 ci_0 ?_
              exact e_zret dX3_betters_87 rfl (nar_z (Or.inl rfl)) ⟨_, rfl, h⟩
      · replace h := h.2 c55
        refine e_iload dX3_betters_54 rfl ?_
        refine e_iload dX3_betters_56 rfl ?_
        refine e_iand dX3_betters_58 ?_
        refine e_if_ne (tgt := 66) dX3_betters_59 (by decide) (fun c64 => ?_) (fun c64 => ?_)
        · replace h := h.1 c64
          refine e_iconst dX3_betters_66 ci_0 ?_
          refine e_istore dX3_betters_67 rfl (by decide) ?_
          refine e_iload dX3_betters_69 rfl ?_
          refine e_if_eq (tgt := 86) dX3_betters_71 (by decide) (fun c65 => ?_) (fun c65 => ?_)
          · replace h := h.1 c65
            refine e_iconst dX3_betters_86 ci_0 ?_
            exact e_zret dX3_betters_87 rfl (nar_z (Or.inl rfl)) ⟨_, rfl, h⟩
          · replace h := h.2 c65
            refine e_iload dX3_betters_74 rfl ?_
            refine e_if_eq (tgt := 86) dX3_betters_76 (by decide) (fun c66 => ?_) (fun c66 => ?_)
            · replace h := h.1 c66
              refine e_iconst dX3_betters_86 ci_0 ?_
              exact e_zret dX3_betters_87 rfl (nar_z (Or.inl rfl)) ⟨_, rfl, h⟩
            · replace h := h.2 c66
              refine e_iload_n dX3_betters_79 rfl rfl ?_
              refine e_iload dX3_betters_80 rfl ?_
              refine e_ior dX3_betters_82 ?_
              refine e_if_ne (tgt := 88) dX3_betters_83 (by decide) (fun c67 => ?_) (fun c67 => ?_)
              · replace h := h.1 c67
                refine e_aload_n dX3_betters_88 rfl rfl ?_
                refine e_getR (y := 3) dX3_betters_89 fl_X3_19 (ob_9 hn) rfl rfl ?_
                refine e_getR (y := 18) dX3_betters_92 fl_X3_27 (ob_3 hn) rfl rfl ?_
                refine e_iload_n dX3_betters_95 rfl rfl ?_
                obtain ⟨hi, pp68, hg, hp_pp68, h⟩ := h
                refine e_aldP dX3_betters_96 hn hi hg ?_
                refine e_iload dX3_betters_97 rfl ?_
                refine e_iload dX3_betters_99 rfl ?_
                refine e_iload_n dX3_betters_101 rfl rfl ?_
                refine e_iconst dX3_betters_102 ci_m1 ?_
                refine e_ixor dX3_betters_103 ?_
                refine e_iand dX3_betters_104 ?_
                refine e_iload dX3_betters_105 rfl ?_
                refine e_ior dX3_betters_107 ?_
                refine e_callS (M' := M_X3_growth) (as := [.ref pp68, .int (gI σ 34 a1.toNatClampNeg), .int (((gI σ 34 a1.toNatClampNeg) &&& (a3 ^^^ (-1))) ||| a4)]) (rest := []) dX3_betters_108 ml_X3_73 mk_X3_growth rfl (Nat.le_of_ble_eq_true rfl) (show 0 < d by omega) (sp_X3_growth hp_pp68 h.1) Md_nil (fun v σv hq hf => ?_)
                obtain ⟨v, rfl, rfl, rfl⟩ := hq
                replace h := h.2
                refine e_istore dX3_betters_111 rfl (by decide) ?_
                refine e_aload_n dX3_betters_113 rfl rfl ?_
                refine e_getR (y := 3) dX3_betters_114 fl_X3_19 (ob_9 hn) rfl rfl ?_
                refine e_getR (y := 18) dX3_betters_117 fl_X3_27 (ob_3 hn) rfl rfl ?_
                refine e_iload_n dX3_betters_120 rfl rfl ?_
                obtain ⟨hi, pp69, hg, hp_pp69, h⟩ := h
                refine e_aldP dX3_betters_121 hn hi hg ?_
                refine e_iload dX3_betters_122 rfl ?_
                refine e_iload dX3_betters_124 rfl ?_
                refine e_iload dX3_betters_126 rfl ?_
                refine e_iconst dX3_betters_128 ci_m1 ?_
                refine e_ixor dX3_betters_129 ?_
                refine e_iand dX3_betters_130 ?_
                refine e_iload_n dX3_betters_131 rfl rfl ?_
                refine e_ior dX3_betters_132 ?_
                refine e_callS (M' := M_X3_growth) (as := [.ref pp69, .int (gI σ 34 a2.toNatClampNeg), .int (((gI σ 34 a2.toNatClampNeg) &&& (a4 ^^^ (-1))) ||| a3)]) (rest := []) dX3_betters_133 ml_X3_73 mk_X3_growth rfl (Nat.le_of_ble_eq_true rfl) (show 0 < d by omega) (sp_X3_growth hp_pp69 h.1) Md_nil (fun v σv hq hf => ?_)
                obtain ⟨v, rfl, rfl, rfl⟩ := hq
                replace h := h.2
                refine e_istore dX3_betters_136 rfl (by decide) ?_
                refine e_iload dX3_betters_138 rfl ?_
                refine e_if_lt (tgt := 160) dX3_betters_140 (by decide) (fun c70 => ?_) (fun c70 => ?_)
                · replace h := h.1 c70
                  refine e_iconst dX3_betters_160 ci_0 ?_
                  exact e_zret dX3_betters_161 rfl (nar_z (Or.inl rfl)) ⟨_, rfl, h⟩
                · replace h := h.2 c70
                  refine e_iload dX3_betters_143 rfl ?_
                  refine e_if_lt (tgt := 160) dX3_betters_145 (by decide) (fun c71 => ?_) (fun c71 => ?_)
                  · replace h := h.1 c71
                    refine e_iconst dX3_betters_160 ci_0 ?_
                    exact e_zret dX3_betters_161 rfl (nar_z (Or.inl rfl)) ⟨_, rfl, h⟩
                  · replace h := h.2 c71
                    refine e_iload dX3_betters_148 rfl ?_
                    refine e_iload dX3_betters_150 rfl ?_
                    refine e_iadd dX3_betters_152 ?_
                    refine e_if_le (tgt := 160) dX3_betters_153 (by decide) (fun c72 => ?_) (fun c72 => ?_)
                    · replace h := h.1 c72
                      refine e_iconst dX3_betters_160 ci_0 ?_
                      exact e_zret dX3_betters_161 rfl (nar_z (Or.inl rfl)) ⟨_, rfl, h⟩
                    · replace h := h.2 c72
                      refine e_iconst dX3_betters_156 ci_1 ?_
                      refine e_goto (tgt := 161) dX3_betters_157 (by decide) ?_
                      exact e_zret dX3_betters_161 rfl (nar_z (Or.inr rfl)) ⟨_, rfl, h⟩
              · replace h := h.2 c67
                refine e_iconst dX3_betters_86 ci_0 ?_
                exact e_zret dX3_betters_87 rfl (nar_z (Or.inl rfl)) ⟨_, rfl, h⟩
        · replace h := h.2 c64
          refine e_iconst dX3_betters_62 ci_1 ?_
          refine e_goto (tgt := 67) dX3_betters_63 (by decide) ?_
          refine e_istore dX3_betters_67 rfl (by decide) ?_
          refine e_iload dX3_betters_69 rfl ?_
          refine e_if_eq (tgt := 86) dX3_betters_71 (by decide) (fun c73 => ?_) (fun c73 => ?_)
          · replace h := h.1 c73
            refine e_iconst dX3_betters_86 ci_0 ?_
            exact e_zret dX3_betters_87 rfl (nar_z (Or.inl rfl)) ⟨_, rfl, h⟩
          · replace h := h.2 c73
            refine e_iload dX3_betters_74 rfl ?_
            refine e_if_eq (tgt := 86) dX3_betters_76 (by decide) (fun c74 => ?_) (fun c74 => ?_)
            · replace h := h.1 c74
              refine e_iconst dX3_betters_86 ci_0 ?_
              exact e_zret dX3_betters_87 rfl (nar_z (Or.inl rfl)) ⟨_, rfl, h⟩
            · replace h := h.2 c74
              refine e_iload_n dX3_betters_79 rfl rfl ?_
              refine e_iload dX3_betters_80 rfl ?_
              refine e_ior dX3_betters_82 ?_
              refine e_if_ne (tgt := 88) dX3_betters_83 (by decide) (fun c75 => ?_) (fun c75 => ?_)
              · replace h := h.1 c75
                refine e_aload_n dX3_betters_88 rfl rfl ?_
                refine e_getR (y := 3) dX3_betters_89 fl_X3_19 (ob_9 hn) rfl rfl ?_
                refine e_getR (y := 18) dX3_betters_92 fl_X3_27 (ob_3 hn) rfl rfl ?_
                refine e_iload_n dX3_betters_95 rfl rfl ?_
                obtain ⟨hi, pp76, hg, hp_pp76, h⟩ := h
                refine e_aldP dX3_betters_96 hn hi hg ?_
                refine e_iload dX3_betters_97 rfl ?_
                refine e_iload dX3_betters_99 rfl ?_
                refine e_iload_n dX3_betters_101 rfl rfl ?_
                refine e_iconst dX3_betters_102 ci_m1 ?_
                refine e_ixor dX3_betters_103 ?_
                refine e_iand dX3_betters_104 ?_
                refine e_iload dX3_betters_105 rfl ?_
                refine e_ior dX3_betters_107 ?_
                refine e_callS (M' := M_X3_growth) (as := [.ref pp76, .int (gI σ 34 a1.toNatClampNeg), .int (((gI σ 34 a1.toNatClampNeg) &&& (a3 ^^^ (-1))) ||| a4)]) (rest := []) dX3_betters_108 ml_X3_73 mk_X3_growth rfl (Nat.le_of_ble_eq_true rfl) (show 0 < d by omega) (sp_X3_growth hp_pp76 h.1) Md_nil (fun v σv hq hf => ?_)
                obtain ⟨v, rfl, rfl, rfl⟩ := hq
                replace h := h.2
                refine e_istore dX3_betters_111 rfl (by decide) ?_
                refine e_aload_n dX3_betters_113 rfl rfl ?_
                refine e_getR (y := 3) dX3_betters_114 fl_X3_19 (ob_9 hn) rfl rfl ?_
                refine e_getR (y := 18) dX3_betters_117 fl_X3_27 (ob_3 hn) rfl rfl ?_
                refine e_iload_n dX3_betters_120 rfl rfl ?_
                obtain ⟨hi, pp77, hg, hp_pp77, h⟩ := h
                refine e_aldP dX3_betters_121 hn hi hg ?_
                refine e_iload dX3_betters_122 rfl ?_
                refine e_iload dX3_betters_124 rfl ?_
                refine e_iload dX3_betters_126 rfl ?_
                refine e_iconst dX3_betters_128 ci_m1 ?_
                refine e_ixor dX3_betters_129 ?_
                refine e_iand dX3_betters_130 ?_
                refine e_iload_n dX3_betters_131 rfl rfl ?_
                refine e_ior dX3_betters_132 ?_
                refine e_callS (M' := M_X3_growth) (as := [.ref pp77, .int (gI σ 34 a2.toNatClampNeg), .int (((gI σ 34 a2.toNatClampNeg) &&& (a4 ^^^ (-1))) ||| a3)]) (rest := []) dX3_betters_133 ml_X3_73 mk_X3_growth rfl (Nat.le_of_ble_eq_true rfl) (show 0 < d by omega) (sp_X3_growth hp_pp77 h.1) Md_nil (fun v σv hq hf => ?_)
                obtain ⟨v, rfl, rfl, rfl⟩ := hq
                replace h := h.2
                refine e_istore dX3_betters_136 rfl (by decide) ?_
                refine e_iload dX3_betters_138 rfl ?_
                refine e_if_lt (tgt := 160) dX3_betters_140 (by decide) (fun c78 => ?_) (fun c78 => ?_)
                · replace h := h.1 c78
                  refine e_iconst dX3_betters_160 ci_0 ?_
                  exact e_zret dX3_betters_161 rfl (nar_z (Or.inl rfl)) ⟨_, rfl, h⟩
                · replace h := h.2 c78
                  refine e_iload dX3_betters_143 rfl ?_
                  refine e_if_lt (tgt := 160) dX3_betters_145 (by decide) (fun c79 => ?_) (fun c79 => ?_)
                  · replace h := h.1 c79
                    refine e_iconst dX3_betters_160 ci_0 ?_
                    exact e_zret dX3_betters_161 rfl (nar_z (Or.inl rfl)) ⟨_, rfl, h⟩
                  · replace h := h.2 c79
                    refine e_iload dX3_betters_148 rfl ?_
                    refine e_iload dX3_betters_150 rfl ?_
                    refine e_iadd dX3_betters_152 ?_
                    refine e_if_le (tgt := 160) dX3_betters_153 (by decide) (fun c80 => ?_) (fun c80 => ?_)
                    · replace h := h.1 c80
                      refine e_iconst dX3_betters_160 ci_0 ?_
                      exact e_zret dX3_betters_161 rfl (nar_z (Or.inl rfl)) ⟨_, rfl, h⟩
                    · replace h := h.2 c80
                      refine e_iconst dX3_betters_156 ci_1 ?_
                      refine e_goto (tgt := 161) dX3_betters_157 (by decide) ?_
                      exact e_zret dX3_betters_161 rfl (nar_z (Or.inr rfl)) ⟨_, rfl, h⟩
              · replace h := h.2 c75
                refine e_iconst dX3_betters_86 ci_0 ?_
                exact e_zret dX3_betters_87 rfl (nar_z (Or.inl rfl)) ⟨_, rfl, h⟩
abbrev K_X3_findSwap_2 (d n : Nat) (σ0 : St) (Q : Int32 → St → Prop) (σ : St) (x1 : Int32) (x2 : Int32) (x3 : Int32) : Prop := Ev (d, n, md_X3_findSwap, σ0, liI Q) M_X3_findSwap 2 [some (.ref 9), some (.int x1), some (.int x2), some (.int x3), none] [] σ
abbrev K_X3_findSwap_11 (d n : Nat) (σ0 : St) (Q : Int32 → St → Prop) (σ : St) (x1 : Int32) (x2 : Int32) (x3 : Int32) (x4 : Int32) : Prop := Ev (d, n, md_X3_findSwap, σ0, liI Q) M_X3_findSwap 11 [some (.ref 9), some (.int x1), some (.int x2), some (.int x3), some (.int x4)] [] σ
theorem B_X3_findSwap_2 {d n : Nat} {σ0 : St} {Q : Int32 → St → Prop}  {σ : St} {x1 : Int32} {x2 : Int32} {x3 : Int32} (hn : FIX ≤ n) (hd : 1 ≤ d) (h : (((10 : Int32) < x3 → Q 0 σ) ∧ (¬ (10 : Int32) < x3 → K_X3_findSwap_11 d n σ0 Q σ x1 x2 x3 0))) : K_X3_findSwap_2 d n σ0 Q σ x1 x2 x3 := by
  refine e_iload_n dX3_findSwap_2 rfl rfl ?_
  refine e_bipush dX3_findSwap_3 cb_10 ?_
  refine e_icmp_gt (tgt := 79) dX3_findSwap_5 (by decide) (fun c1 => ?_) (fun c1 => ?_)
  · replace h := h.1 c1
    refine e_iconst dX3_findSwap_79 ci_0 ?_
    exact e_zret dX3_findSwap_80 rfl (nar_z (Or.inl rfl)) ⟨_, rfl, h⟩
  · replace h := h.2 c1
    refine e_iconst dX3_findSwap_8 ci_0 ?_
    refine e_istore dX3_findSwap_9 rfl (by decide) ?_
    exact h
theorem B_X3_findSwap_11 {d n : Nat} {σ0 : St} {Q : Int32 → St → Prop}  {σ : St} {x1 : Int32} {x2 : Int32} {x3 : Int32} {x4 : Int32} (hn : FIX ≤ n) (hd : 1 ≤ d) (h : (((10 : Int32) < x4 → K_X3_findSwap_2 d n σ0 Q σ x1 x2 (x3 + 1)) ∧ (¬ (10 : Int32) < x4 → ∃ Q2 : Int32 → St → Prop, Cn (d - 1) n M_X3_betters md_X3_betters [.ref 9, .int x1, .int x2, .int (fn_X3_bitOf x3), .int (fn_X3_bitOf x4)] σ (liI Q2) ∧ ∀ (v5 : Int32) (σ4 : St), Q2 v5 σ4 → Fr md_X3_betters σ σ4 → ((v5 = 0 → K_X3_findSwap_11 d n σ0 Q σ4 x1 x2 x3 (x4 + 1)) ∧ (¬ v5 = 0 → Q 1 (sI (sI (sI (sI σ4 39 0 x1) 39 1 x2) 39 2 x3) 39 3 x4)))))) : K_X3_findSwap_11 d n σ0 Q σ x1 x2 x3 x4 := by
  refine e_iload dX3_findSwap_11 rfl ?_
  refine e_bipush dX3_findSwap_13 cb_10 ?_
  refine e_icmp_gt (tgt := 73) dX3_findSwap_15 (by decide) (fun c1 => ?_) (fun c1 => ?_)
  · replace h := h.1 c1
    refine e_iinc dX3_findSwap_73 rfl (ii_1 _) rfl (by decide) ?_
    refine e_goto (tgt := 2) dX3_findSwap_76 (by decide) ?_
    refine e_kill [true, true, true, true, false] ?_
    exact h
  · replace h := h.2 c1
    refine e_aload_n dX3_findSwap_18 rfl rfl ?_
    refine e_iload_n dX3_findSwap_19 rfl rfl ?_
    refine e_iload_n dX3_findSwap_20 rfl rfl ?_
    refine e_iload_n dX3_findSwap_21 rfl rfl ?_
    refine e_callS (M' := M_X3_bitOf) (as := [.int x3]) (rest := [.int x2, .int x1, .ref 9]) dX3_findSwap_22 ml_X3_65 mk_X3_bitOf rfl (Nat.le_of_ble_eq_true rfl) (show 0 < d by omega) (sp_X3_bitOf) Md_nil (fun v σv hq hf => ?_)
    obtain ⟨v, rfl, rfl, rfl⟩ := hq
    refine e_iload dX3_findSwap_25 rfl ?_
    refine e_callS (M' := M_X3_bitOf) (as := [.int x4]) (rest := [.int (fn_X3_bitOf x3), .int x2, .int x1, .ref 9]) dX3_findSwap_27 ml_X3_65 mk_X3_bitOf rfl (Nat.le_of_ble_eq_true rfl) (show 0 < d by omega) (sp_X3_bitOf) Md_nil (fun v σv hq hf => ?_)
    obtain ⟨v, rfl, rfl, rfl⟩ := hq
    obtain ⟨Q2, hc3, h⟩ := h
    refine e_callV (M' := M_X3_betters) (as := [.int x1, .int x2, .int (fn_X3_bitOf x3), .int (fn_X3_bitOf x4)]) (rest := []) dX3_findSwap_30 ml_X3_69 mk_X3_betters (ob_9 hn) rfl rfl rfl (Nat.le_of_ble_eq_true rfl) (show 0 < d by omega) hc3 (Md_le (b := md_X3_findSwap) (by decide)) (fun v σ4 hq hf => ?_)
    obtain ⟨v5, rfl, hq⟩ := hq
    replace h := h v5 σ4 hq hf
    refine e_if_eq (tgt := 67) dX3_findSwap_33 (by decide) (fun c8 => ?_) (fun c8 => ?_)
    · replace h := h.1 c8
      refine e_iinc dX3_findSwap_67 rfl (ii_1 _) rfl (by decide) ?_
      refine e_goto (tgt := 11) dX3_findSwap_70 (by decide) ?_
      exact h
    · replace h := h.2 c8
      refine e_aload_n dX3_findSwap_36 rfl rfl ?_
      refine e_getR (y := 39) dX3_findSwap_37 fl_X3_9 (ob_9 hn) rfl rfl ?_
      refine e_iconst dX3_findSwap_40 ci_0 ?_
      refine e_iload_n dX3_findSwap_41 rfl rfl ?_
      refine e_iast dX3_findSwap_42 (ar_39 hn) (vp_lit (by decide) (by decide)) (md_r (m := md_X3_findSwap) (by decide)) ?_
      refine e_aload_n dX3_findSwap_43 rfl rfl ?_
      refine e_getR (y := 39) dX3_findSwap_44 fl_X3_9 (ob_9 hn) rfl rfl ?_
      refine e_iconst dX3_findSwap_47 ci_1 ?_
      refine e_iload_n dX3_findSwap_48 rfl rfl ?_
      refine e_iast dX3_findSwap_49 (ar_39 hn) (vp_lit (by decide) (by decide)) (md_r (m := md_X3_findSwap) (by decide)) ?_
      refine e_aload_n dX3_findSwap_50 rfl rfl ?_
      refine e_getR (y := 39) dX3_findSwap_51 fl_X3_9 (ob_9 hn) rfl rfl ?_
      refine e_iconst dX3_findSwap_54 ci_2 ?_
      refine e_iload_n dX3_findSwap_55 rfl rfl ?_
      refine e_iast dX3_findSwap_56 (ar_39 hn) (vp_lit (by decide) (by decide)) (md_r (m := md_X3_findSwap) (by decide)) ?_
      refine e_aload_n dX3_findSwap_57 rfl rfl ?_
      refine e_getR (y := 39) dX3_findSwap_58 fl_X3_9 (ob_9 hn) rfl rfl ?_
      refine e_iconst dX3_findSwap_61 ci_3 ?_
      refine e_iload dX3_findSwap_62 rfl ?_
      refine e_iast dX3_findSwap_64 (ar_39 hn) (vp_lit (by decide) (by decide)) (md_r (m := md_X3_findSwap) (by decide)) ?_
      refine e_iconst dX3_findSwap_65 ci_1 ?_
      exact e_zret dX3_findSwap_66 rfl (nar_z (Or.inr rfl)) ⟨_, rfl, h⟩
theorem S_X3_findSwap {d n : Nat} {Q : Int32 → St → Prop} {σ : St} {a1 : Int32} {a2 : Int32} (hn : FIX ≤ n) (hd : 1 ≤ d) (h : K_X3_findSwap_2 d n σ Q σ a1 a2 0) : Cn d n M_X3_findSwap md_X3_findSwap [.ref 9, .int a1, .int a2] σ (liI Q) := by
  refine Cn.of (k0 := 2) (by decide) rfl ?_
  show Ev (d, n, md_X3_findSwap, σ, liI Q) M_X3_findSwap 0 [some (.ref 9), some (.int a1), some (.int a2), none, none] [] σ
  refine e_iconst dX3_findSwap_0 ci_0 ?_
  refine e_istore_n dX3_findSwap_1 rfl rfl (by decide) ?_
  exact h
abbrev K_X3_findWaste_2 (d n : Nat) (σ0 : St) (Q : Int32 → St → Prop) (σ : St) (x1 : Int32) : Prop := Ev (d, n, md_X3_findWaste, σ0, liI Q) M_X3_findWaste 2 [some (.ref 9), some (.int x1), none] [] σ
abbrev K_X3_findWaste_17 (d n : Nat) (σ0 : St) (Q : Int32 → St → Prop) (σ : St) (x1 : Int32) (x2 : Int32) : Prop := Ev (d, n, md_X3_findWaste, σ0, liI Q) M_X3_findWaste 17 [some (.ref 9), some (.int x1), some (.int x2)] [] σ
theorem B_X3_findWaste_2 {d n : Nat} {σ0 : St} {Q : Int32 → St → Prop}  {σ : St} {x1 : Int32} (hn : FIX ≤ n) (hd : 1 ≤ d) (h : (((gI σ 3 2) ≤ x1 → Q 0 σ) ∧ (¬ (gI σ 3 2) ≤ x1 → K_X3_findWaste_17 d n σ0 Q σ x1 (x1 + 1)))) : K_X3_findWaste_2 d n σ0 Q σ x1 := by
  refine e_iload_n dX3_findWaste_2 rfl rfl ?_
  refine e_aload_n dX3_findWaste_3 rfl rfl ?_
  refine e_getR (y := 3) dX3_findWaste_4 fl_X3_19 (ob_9 hn) rfl rfl ?_
  refine e_getI dX3_findWaste_7 fl_X3_61 (ob_3 hn) rfl ?_
  refine e_icmp_ge (tgt := 51) dX3_findWaste_10 (by decide) (fun c1 => ?_) (fun c1 => ?_)
  · replace h := h.1 c1
    refine e_iconst dX3_findWaste_51 ci_0 ?_
    exact e_zret dX3_findWaste_52 rfl (nar_z (Or.inl rfl)) ⟨_, rfl, h⟩
  · replace h := h.2 c1
    refine e_iload_n dX3_findWaste_13 rfl rfl ?_
    refine e_iconst dX3_findWaste_14 ci_1 ?_
    refine e_iadd dX3_findWaste_15 ?_
    refine e_istore_n dX3_findWaste_16 rfl rfl (by decide) ?_
    exact h
theorem B_X3_findWaste_17 {d n : Nat} {σ0 : St} {Q : Int32 → St → Prop}  {σ : St} {x1 : Int32} {x2 : Int32} (hn : FIX ≤ n) (hd : 1 ≤ d) (h : (((gI σ 3 2) ≤ x2 → K_X3_findWaste_2 d n σ0 Q σ (x1 + 1)) ∧ (¬ (gI σ 3 2) ≤ x2 → ∃ Q2 : Int32 → St → Prop, Cn (d - 1) n M_X3_findSwap md_X3_findSwap [.ref 9, .int x1, .int x2] σ (liI Q2) ∧ ∀ (v5 : Int32) (σ4 : St), Q2 v5 σ4 → Fr md_X3_findSwap σ σ4 → ((v5 = 0 → K_X3_findWaste_17 d n σ0 Q σ4 x1 (x2 + 1)) ∧ (¬ v5 = 0 → Q 1 σ4))))) : K_X3_findWaste_17 d n σ0 Q σ x1 x2 := by
  refine e_iload_n dX3_findWaste_17 rfl rfl ?_
  refine e_aload_n dX3_findWaste_18 rfl rfl ?_
  refine e_getR (y := 3) dX3_findWaste_19 fl_X3_19 (ob_9 hn) rfl rfl ?_
  refine e_getI dX3_findWaste_22 fl_X3_61 (ob_3 hn) rfl ?_
  refine e_icmp_ge (tgt := 45) dX3_findWaste_25 (by decide) (fun c1 => ?_) (fun c1 => ?_)
  · replace h := h.1 c1
    refine e_iinc dX3_findWaste_45 rfl (ii_1 _) rfl (by decide) ?_
    refine e_goto (tgt := 2) dX3_findWaste_48 (by decide) ?_
    refine e_kill [true, true, false] ?_
    exact h
  · replace h := h.2 c1
    refine e_aload_n dX3_findWaste_28 rfl rfl ?_
    refine e_iload_n dX3_findWaste_29 rfl rfl ?_
    refine e_iload_n dX3_findWaste_30 rfl rfl ?_
    obtain ⟨Q2, hc3, h⟩ := h
    refine e_callV (M' := M_X3_findSwap) (as := [.int x1, .int x2]) (rest := []) dX3_findWaste_31 ml_X3_62 mk_X3_findSwap (ob_9 hn) rfl rfl rfl (Nat.le_of_ble_eq_true rfl) (show 0 < d by omega) hc3 (Md_le (b := md_X3_findWaste) (by decide)) (fun v σ4 hq hf => ?_)
    obtain ⟨v5, rfl, hq⟩ := hq
    replace h := h v5 σ4 hq hf
    refine e_if_eq (tgt := 39) dX3_findWaste_34 (by decide) (fun c8 => ?_) (fun c8 => ?_)
    · replace h := h.1 c8
      refine e_iinc dX3_findWaste_39 rfl (ii_1 _) rfl (by decide) ?_
      refine e_goto (tgt := 17) dX3_findWaste_42 (by decide) ?_
      exact h
    · replace h := h.2 c8
      refine e_iconst dX3_findWaste_37 ci_1 ?_
      exact e_zret dX3_findWaste_38 rfl (nar_z (Or.inr rfl)) ⟨_, rfl, h⟩
theorem S_X3_findWaste {d n : Nat} {Q : Int32 → St → Prop} {σ : St}  (hn : FIX ≤ n) (hd : 1 ≤ d) (h : K_X3_findWaste_2 d n σ Q σ 0) : Cn d n M_X3_findWaste md_X3_findWaste [.ref 9] σ (liI Q) := by
  refine Cn.of (k0 := 2) (by decide) rfl ?_
  show Ev (d, n, md_X3_findWaste, σ, liI Q) M_X3_findWaste 0 [some (.ref 9), none, none] [] σ
  refine e_iconst dX3_findWaste_0 ci_0 ?_
  refine e_istore_n dX3_findWaste_1 rfl rfl (by decide) ?_
  exact h
abbrev K_X3_leastHeap_7 (d n : Nat) (σ0 : St) (Q : Int32 → St → Prop) (σ : St) (x1 : Nat) (x2 : Int32) (x3 : Int32) (x4 : Int32) (x5 : Int32) : Prop := Ev (d, n, md_X3_leastHeap, σ0, liI Q) M_X3_leastHeap 7 [some (.ref 9), some (.ref x1), some (.int x2), some (.int x3), some (.int x4), some (.int x5), none, none, none] [] σ
abbrev K_X3_leastHeap_22 (d n : Nat) (σ0 : St) (Q : Int32 → St → Prop) (σ : St) (x1 : Nat) (x2 : Int32) (x3 : Int32) (x4 : Int32) (x5 : Int32) (x6 : Int32) (x7 : Int32) (x8 : Int32) : Prop := Ev (d, n, md_X3_leastHeap, σ0, liI Q) M_X3_leastHeap 22 [some (.ref 9), some (.ref x1), some (.int x2), some (.int x3), some (.int x4), some (.int x5), some (.int x6), some (.int x7), some (.int x8)] [] σ
theorem B_X3_leastHeap_7 {d n : Nat} {σ0 : St} {Q : Int32 → St → Prop}  {σ : St} {x1 : Nat} {x2 : Int32} {x3 : Int32} {x4 : Int32} {x5 : Int32} (hn : FIX ≤ n) (hd : 1 ≤ d) (hp_x1 : IsP n x1) (h : ((x3 ≤ x5 → Q x4 σ) ∧ (¬ x3 ≤ x5 → K_X3_leastHeap_22 d n σ0 Q σ x1 x2 x3 x4 x5 x2 0 0))) : K_X3_leastHeap_7 d n σ0 Q σ x1 x2 x3 x4 x5 := by
  refine e_iload dX3_leastHeap_7 rfl ?_
  refine e_iload_n dX3_leastHeap_9 rfl rfl ?_
  refine e_icmp_ge (tgt := 102) dX3_leastHeap_10 (by decide) (fun c1 => ?_) (fun c1 => ?_)
  · replace h := h.1 c1
    refine e_iload dX3_leastHeap_102 rfl ?_
    exact e_iret dX3_leastHeap_104 rfl ⟨_, rfl, h⟩
  · replace h := h.2 c1
    refine e_iload_n dX3_leastHeap_13 rfl rfl ?_
    refine e_istore dX3_leastHeap_14 rfl (by decide) ?_
    refine e_iconst dX3_leastHeap_16 ci_0 ?_
    refine e_istore dX3_leastHeap_17 rfl (by decide) ?_
    refine e_iconst dX3_leastHeap_19 ci_0 ?_
    refine e_istore dX3_leastHeap_20 rfl (by decide) ?_
    exact h
theorem B_X3_leastHeap_22 {d n : Nat} {σ0 : St} {Q : Int32 → St → Prop}  {σ : St} {x1 : Nat} {x2 : Int32} {x3 : Int32} {x4 : Int32} {x5 : Int32} {x6 : Int32} {x7 : Int32} {x8 : Int32} (hn : FIX ≤ n) (hd : 1 ≤ d) (hp_x1 : IsP n x1) (h : (((gI σ 1 0) ≤ x8 → ∃ Q2 : Int32 → St → Prop, Cn (d - 1) n M_X5_rankWithin md_X5_rankWithin [.ref x1, .int x7] σ (liI Q2) ∧ ∀ (v5 : Int32) (σ4 : St), Q2 v5 σ4 → Fr md_X5_rankWithin σ σ4 → ((v5 ≠ (-1) → pre_X5_worthAt σ4 x1 v5 ∧ K_X3_leastHeap_7 d n σ0 Q σ4 x1 x2 x3 (mnI x4 (fn_X5_worthAt σ4 x1 v5)) (x5 + 1)) ∧ (v5 = (-1) → K_X3_leastHeap_7 d n σ0 Q σ4 x1 x2 x3 (mnI x4 (-1000000)) (x5 + 1)))) ∧ (¬ (gI σ 1 0) ≤ x8 → (¬ x3 = 0) ∧ (((x6 - x6 / x3 * x3) ≠ x5 → (¬ x3 = 0) ∧ K_X3_leastHeap_22 d n σ0 Q σ x1 x2 x3 x4 x5 (x6 / x3) x7 (x8 + 1)) ∧ ((x6 - x6 / x3 * x3) = x5 → (¬ x3 = 0) ∧ K_X3_leastHeap_22 d n σ0 Q σ x1 x2 x3 x4 x5 (x6 / x3) (x7 ||| ((1 : Int32) <<< (x8 &&& 31))) (x8 + 1)))))) : K_X3_leastHeap_22 d n σ0 Q σ x1 x2 x3 x4 x5 x6 x7 x8 := by
  refine e_iload dX3_leastHeap_22 rfl ?_
  refine e_aload_n dX3_leastHeap_24 rfl rfl ?_
  refine e_getR (y := 1) dX3_leastHeap_25 fl_X3_15 (ob_9 hn) rfl rfl ?_
  refine e_getI dX3_leastHeap_28 fl_X3_47 (ob_1 hn) rfl ?_
  refine e_icmp_ge (tgt := 64) dX3_leastHeap_31 (by decide) (fun c1 => ?_) (fun c1 => ?_)
  · replace h := h.1 c1
    refine e_aload_n dX3_leastHeap_64 rfl rfl ?_
    refine e_iload dX3_leastHeap_65 rfl ?_
    obtain ⟨Q2, hc3, h⟩ := h
    refine e_callV (M' := M_X5_rankWithin) (as := [.int x7]) (rest := []) dX3_leastHeap_67 ml_X3_88 mk_X5_rankWithin (Ob.p hp_x1) rfl rfl rfl (Nat.le_of_ble_eq_true rfl) (show 0 < d by omega) hc3 (Md_le (b := md_X3_leastHeap) (by decide)) (fun v σ4 hq hf => ?_)
    obtain ⟨v5, rfl, hq⟩ := hq
    replace h := h v5 σ4 hq hf
    refine e_istore dX3_leastHeap_70 rfl (by decide) ?_
    refine e_iload dX3_leastHeap_72 rfl ?_
    refine e_iload dX3_leastHeap_74 rfl ?_
    refine e_iconst dX3_leastHeap_76 ci_m1 ?_
    refine e_icmp_ne (tgt := 85) dX3_leastHeap_77 (by decide) (fun c8 => ?_) (fun c8 => ?_)
    · replace h := h.1 c8
      refine e_aload_n dX3_leastHeap_85 rfl rfl ?_
      refine e_iload dX3_leastHeap_86 rfl ?_
      refine e_callV (M' := M_X5_worthAt) (as := [.int v5]) (rest := [.int x4]) dX3_leastHeap_88 ml_X3_91 mk_X5_worthAt (Ob.p hp_x1) rfl rfl rfl (Nat.le_of_ble_eq_true rfl) (show 0 < d by omega) (sp_X5_worthAt hp_x1 h.1) Md_nil (fun v σv hq hf => ?_)
      obtain ⟨v, rfl, rfl, rfl⟩ := hq
      replace h := h.2
      refine e_mmin (st := []) dX3_leastHeap_91 ml_X3_94 (Nat.le_of_ble_eq_true rfl) (show 0 < d by omega) ?_
      refine e_istore dX3_leastHeap_94 rfl (by decide) ?_
      refine e_iinc dX3_leastHeap_96 rfl (ii_1 _) rfl (by decide) ?_
      refine e_goto (tgt := 7) dX3_leastHeap_99 (by decide) ?_
      refine e_kill [true, true, true, true, true, true, false, false, false] ?_
      exact h
    · replace h := h.2 c8
      refine e_ldc dX3_leastHeap_80 ck_X3_77 ?_
      refine e_goto (tgt := 91) dX3_leastHeap_82 (by decide) ?_
      refine e_mmin (st := []) dX3_leastHeap_91 ml_X3_94 (Nat.le_of_ble_eq_true rfl) (show 0 < d by omega) ?_
      refine e_istore dX3_leastHeap_94 rfl (by decide) ?_
      refine e_iinc dX3_leastHeap_96 rfl (ii_1 _) rfl (by decide) ?_
      refine e_goto (tgt := 7) dX3_leastHeap_99 (by decide) ?_
      refine e_kill [true, true, true, true, true, true, false, false, false] ?_
      exact h
  · replace h := h.2 c1
    refine e_iload dX3_leastHeap_34 rfl ?_
    refine e_iload_n dX3_leastHeap_36 rfl rfl ?_
    refine e_irem dX3_leastHeap_37 h.1 ?_
    replace h := h.2
    refine e_iload dX3_leastHeap_38 rfl ?_
    refine e_icmp_ne (tgt := 52) dX3_leastHeap_40 (by decide) (fun c9 => ?_) (fun c9 => ?_)
    · replace h := h.1 c9
      refine e_iload dX3_leastHeap_52 rfl ?_
      refine e_iload_n dX3_leastHeap_54 rfl rfl ?_
      refine e_idiv dX3_leastHeap_55 h.1 ?_
      replace h := h.2
      refine e_istore dX3_leastHeap_56 rfl (by decide) ?_
      refine e_iinc dX3_leastHeap_58 rfl (ii_1 _) rfl (by decide) ?_
      refine e_goto (tgt := 22) dX3_leastHeap_61 (by decide) ?_
      exact h
    · replace h := h.2 c9
      refine e_iload dX3_leastHeap_43 rfl ?_
      refine e_iconst dX3_leastHeap_45 ci_1 ?_
      refine e_iload dX3_leastHeap_46 rfl ?_
      refine e_ishl dX3_leastHeap_48 ?_
      refine e_ior dX3_leastHeap_49 ?_
      refine e_istore dX3_leastHeap_50 rfl (by decide) ?_
      refine e_iload dX3_leastHeap_52 rfl ?_
      refine e_iload_n dX3_leastHeap_54 rfl rfl ?_
      refine e_idiv dX3_leastHeap_55 h.1 ?_
      replace h := h.2
      refine e_istore dX3_leastHeap_56 rfl (by decide) ?_
      refine e_iinc dX3_leastHeap_58 rfl (ii_1 _) rfl (by decide) ?_
      refine e_goto (tgt := 22) dX3_leastHeap_61 (by decide) ?_
      exact h
theorem S_X3_leastHeap {d n : Nat} {Q : Int32 → St → Prop} {σ : St} {p1 : Nat} {a2 : Int32} {a3 : Int32} (hn : FIX ≤ n) (hd : 1 ≤ d) (hp_p1 : IsP n p1) (h : K_X3_leastHeap_7 d n σ Q σ p1 a2 a3 1000000 0) : Cn d n M_X3_leastHeap md_X3_leastHeap [.ref 9, .ref p1, .int a2, .int a3] σ (liI Q) := by
  refine Cn.of (k0 := 5) (by decide) rfl ?_
  show Ev (d, n, md_X3_leastHeap, σ, liI Q) M_X3_leastHeap 0 [some (.ref 9), some (.ref p1), some (.int a2), some (.int a3), none, none, none, none, none] [] σ
  refine e_ldc dX3_leastHeap_0 ck_X3_87 ?_
  refine e_istore dX3_leastHeap_2 rfl (by decide) ?_
  refine e_iconst dX3_leastHeap_4 ci_0 ?_
  refine e_istore dX3_leastHeap_5 rfl (by decide) ?_
  exact h
abbrev K_X3_shareOf_13 (d n : Nat) (σ0 : St) (Q : Int32 → St → Prop) (σ : St) (x1 : Nat) (x2 : Int32) (x3 : Int32) (x4 : Int32) : Prop := Ev (d, n, md_X3_shareOf, σ0, liI Q) M_X3_shareOf 13 [some (.ref 9), some (.ref x1), some (.int x2), some (.int x3), some (.int x4), none] [] σ
abbrev K_X3_shareOf_42 (d n : Nat) (σ0 : St) (Q : Int32 → St → Prop) (σ : St) (x1 : Nat) (x2 : Int32) (x3 : Int32) (x4 : Int32) (x5 : Int32) : Prop := Ev (d, n, md_X3_shareOf, σ0, liI Q) M_X3_shareOf 42 [some (.ref 9), some (.ref x1), some (.int x2), some (.int x3), some (.int x4), some (.int x5)] [] σ
theorem B_X3_shareOf_13 {d n : Nat} {σ0 : St} {Q : Int32 → St → Prop}  {σ : St} {x1 : Nat} {x2 : Int32} {x3 : Int32} {x4 : Int32} (hn : FIX ≤ n) (hd : 1 ≤ d) (hp_x1 : IsP n x1) (h : (((gI σ 1 0) ≤ x4 → K_X3_shareOf_42 d n σ0 Q σ x1 x2 x3 (-1000000) 0) ∧ (¬ (gI σ 1 0) ≤ x4 → K_X3_shareOf_13 d n σ0 Q σ x1 x2 (x3 * x2) (x4 + 1)))) : K_X3_shareOf_13 d n σ0 Q σ x1 x2 x3 x4 := by
  refine e_iload dX3_shareOf_13 rfl ?_
  refine e_aload_n dX3_shareOf_15 rfl rfl ?_
  refine e_getR (y := 1) dX3_shareOf_16 fl_X3_15 (ob_9 hn) rfl rfl ?_
  refine e_getI dX3_shareOf_19 fl_X3_47 (ob_1 hn) rfl ?_
  refine e_icmp_ge (tgt := 35) dX3_shareOf_22 (by decide) (fun c1 => ?_) (fun c1 => ?_)
  · replace h := h.1 c1
    refine e_ldc dX3_shareOf_35 ck_X3_77 ?_
    refine e_istore dX3_shareOf_37 rfl (by decide) ?_
    refine e_iconst dX3_shareOf_39 ci_0 ?_
    refine e_istore dX3_shareOf_40 rfl (by decide) ?_
    exact h
  · replace h := h.2 c1
    refine e_iload_n dX3_shareOf_25 rfl rfl ?_
    refine e_iload_n dX3_shareOf_26 rfl rfl ?_
    refine e_imul dX3_shareOf_27 ?_
    refine e_istore_n dX3_shareOf_28 rfl rfl (by decide) ?_
    refine e_iinc dX3_shareOf_29 rfl (ii_1 _) rfl (by decide) ?_
    refine e_goto (tgt := 13) dX3_shareOf_32 (by decide) ?_
    exact h
theorem B_X3_shareOf_42 {d n : Nat} {σ0 : St} {Q : Int32 → St → Prop}  {σ : St} {x1 : Nat} {x2 : Int32} {x3 : Int32} {x4 : Int32} {x5 : Int32} (hn : FIX ≤ n) (hd : 1 ≤ d) (hp_x1 : IsP n x1) (h : ((x3 ≤ x5 → Q x4 σ) ∧ (¬ x3 ≤ x5 → ∃ Q2 : Int32 → St → Prop, Cn (d - 1) n M_X3_leastHeap md_X3_leastHeap [.ref 9, .ref x1, .int x5, .int x2] σ (liI Q2) ∧ ∀ (v5 : Int32) (σ4 : St), Q2 v5 σ4 → Fr md_X3_leastHeap σ σ4 → K_X3_shareOf_42 d n σ0 Q σ4 x1 x2 x3 (mxI x4 v5) (x5 + 1)))) : K_X3_shareOf_42 d n σ0 Q σ x1 x2 x3 x4 x5 := by
  refine e_iload dX3_shareOf_42 rfl ?_
  refine e_iload_n dX3_shareOf_44 rfl rfl ?_
  refine e_icmp_ge (tgt := 69) dX3_shareOf_45 (by decide) (fun c1 => ?_) (fun c1 => ?_)
  · replace h := h.1 c1
    refine e_iload dX3_shareOf_69 rfl ?_
    exact e_iret dX3_shareOf_71 rfl ⟨_, rfl, h⟩
  · replace h := h.2 c1
    refine e_iload dX3_shareOf_48 rfl ?_
    refine e_aload_n dX3_shareOf_50 rfl rfl ?_
    refine e_aload_n dX3_shareOf_51 rfl rfl ?_
    refine e_iload dX3_shareOf_52 rfl ?_
    refine e_iload_n dX3_shareOf_54 rfl rfl ?_
    obtain ⟨Q2, hc3, h⟩ := h
    refine e_callV (M' := M_X3_leastHeap) (as := [.ref x1, .int x5, .int x2]) (rest := [.int x4]) dX3_shareOf_55 ml_X3_78 mk_X3_leastHeap (ob_9 hn) rfl rfl rfl (Nat.le_of_ble_eq_true rfl) (show 0 < d by omega) hc3 (Md_le (b := md_X3_shareOf) (by decide)) (fun v σ4 hq hf => ?_)
    obtain ⟨v5, rfl, hq⟩ := hq
    replace h := h v5 σ4 hq hf
    refine e_mmax (st := []) dX3_shareOf_58 ml_X3_81 (Nat.le_of_ble_eq_true rfl) (show 0 < d by omega) ?_
    refine e_istore dX3_shareOf_61 rfl (by decide) ?_
    refine e_iinc dX3_shareOf_63 rfl (ii_1 _) rfl (by decide) ?_
    refine e_goto (tgt := 42) dX3_shareOf_66 (by decide) ?_
    exact h
theorem S_X3_shareOf {d n : Nat} {Q : Int32 → St → Prop} {σ : St} {p1 : Nat} (hn : FIX ≤ n) (hd : 1 ≤ d) (hp_p1 : IsP n p1) (h : K_X3_shareOf_13 d n σ Q σ p1 (gI σ 3 2) 1 0) : Cn d n M_X3_shareOf md_X3_shareOf [.ref 9, .ref p1] σ (liI Q) := by
  refine Cn.of (k0 := 4) (by decide) rfl ?_
  show Ev (d, n, md_X3_shareOf, σ, liI Q) M_X3_shareOf 0 [some (.ref 9), some (.ref p1), none, none, none, none] [] σ
  refine e_aload_n dX3_shareOf_0 rfl rfl ?_
  refine e_getR (y := 3) dX3_shareOf_1 fl_X3_19 (ob_9 hn) rfl rfl ?_
  refine e_getI dX3_shareOf_4 fl_X3_61 (ob_3 hn) rfl ?_
  refine e_istore_n dX3_shareOf_7 rfl rfl (by decide) ?_
  refine e_iconst dX3_shareOf_8 ci_1 ?_
  refine e_istore_n dX3_shareOf_9 rfl rfl (by decide) ?_
  refine e_iconst dX3_shareOf_10 ci_0 ?_
  refine e_istore dX3_shareOf_11 rfl (by decide) ?_
  exact h
abbrev K_X4_mark_2 (d n : Nat) (σ0 : St) (Q : St → Prop) (σ : St) (q1 : Nat) (N1 : Nat) (x2 : Int32) : Prop := Ev (d, n, md_X4_mark, σ0, liV Q) M_X4_mark 2 [some (.ref 6), some (.ref q1), some (.int x2), none, none] [] σ
abbrev K_X4_mark_14 (d n : Nat) (σ0 : St) (Q : St → Prop) (σ : St) (q1 : Nat) (N1 : Nat) (x2 : Int32) (x3 : Int32) (x4 : Int32) : Prop := Ev (d, n, md_X4_mark, σ0, liV Q) M_X4_mark 14 [some (.ref 6), some (.ref q1), some (.int x2), some (.int x3), some (.int x4)] [] σ
theorem B_X4_mark_2 {d n : Nat} {σ0 : St} {Q : St → Prop}  {σ : St} {q1 : Nat} {N1 : Nat} {x2 : Int32} (hn : FIX ≤ n) (ha_q1 : Ar n q1 20 N1) (h : (((5 : Int32) ≤ x2 → Q σ) ∧ (¬ (5 : Int32) ≤ x2 → K_X4_mark_14 d n σ0 Q σ q1 N1 x2 ((1 : Int32) <<< (x2 &&& 31)) 0))) : K_X4_mark_2 d n σ0 Q σ q1 N1 x2 := by
  refine e_iload_n dX4_mark_2 rfl rfl ?_
  refine e_iconst dX4_mark_3 ci_5 ?_
  refine e_icmp_ge (tgt := 74) dX4_mark_4 (by decide) (fun c1 => ?_) (fun c1 => ?_)
  · replace h := h.1 c1
    exact e_vret dX4_mark_74 rfl ⟨rfl, h⟩
  · replace h := h.2 c1
    refine e_iconst dX4_mark_7 ci_1 ?_
    refine e_iload_n dX4_mark_8 rfl rfl ?_
    refine e_ishl dX4_mark_9 ?_
    refine e_istore_n dX4_mark_10 rfl rfl (by decide) ?_
    refine e_iconst dX4_mark_11 ci_0 ?_
    refine e_istore dX4_mark_12 rfl (by decide) ?_
    exact h
theorem B_X4_mark_14 {d n : Nat} {σ0 : St} {Q : St → Prop}  {σ : St} {q1 : Nat} {N1 : Nat} {x2 : Int32} {x3 : Int32} {x4 : Int32} (hn : FIX ≤ n) (ha_q1 : Ar n q1 20 N1) (h : ((x3 ≤ x4 → K_X4_mark_2 d n σ0 Q σ q1 N1 (x2 + 1)) ∧ (¬ x3 ≤ x4 → vp_in x4 32 ∧ vp_in x2 N1 ∧ vp_in (x3 + x4) 32 ∧ vp_in x4 32 ∧ vp_in (5 + x2) N1 ∧ vp_in (x3 + x4) 32 ∧ K_X4_mark_14 d n σ0 Q (sI (sI σ 26 (x3 + x4).toNatClampNeg ((gI σ 26 x4.toNatClampNeg) + (gI σ q1 x2.toNatClampNeg))) 27 (x3 + x4).toNatClampNeg ((gI (sI σ 26 (x3 + x4).toNatClampNeg ((gI σ 26 x4.toNatClampNeg) + (gI σ q1 x2.toNatClampNeg))) 27 x4.toNatClampNeg) + (gI (sI σ 26 (x3 + x4).toNatClampNeg ((gI σ 26 x4.toNatClampNeg) + (gI σ q1 x2.toNatClampNeg))) q1 (5 + x2).toNatClampNeg))) q1 N1 x2 x3 (x4 + 1)))) : K_X4_mark_14 d n σ0 Q σ q1 N1 x2 x3 x4 := by
  refine e_iload dX4_mark_14 rfl ?_
  refine e_iload_n dX4_mark_16 rfl rfl ?_
  refine e_icmp_ge (tgt := 68) dX4_mark_17 (by decide) (fun c1 => ?_) (fun c1 => ?_)
  · replace h := h.1 c1
    refine e_iinc dX4_mark_68 rfl (ii_1 _) rfl (by decide) ?_
    refine e_goto (tgt := 2) dX4_mark_71 (by decide) ?_
    refine e_kill [true, true, true, false, false] ?_
    exact h
  · replace h := h.2 c1
    refine e_aload_n dX4_mark_20 rfl rfl ?_
    refine e_getR (y := 26) dX4_mark_21 fl_X4_22 (ob_6 hn) rfl rfl ?_
    refine e_iload_n dX4_mark_24 rfl rfl ?_
    refine e_iload dX4_mark_25 rfl ?_
    refine e_iadd dX4_mark_27 ?_
    refine e_aload_n dX4_mark_28 rfl rfl ?_
    refine e_getR (y := 26) dX4_mark_29 fl_X4_22 (ob_6 hn) rfl rfl ?_
    refine e_iload dX4_mark_32 rfl ?_
    refine e_iald dX4_mark_34 (ar_26 hn) h.1 ?_
    replace h := h.2
    refine e_aload_n dX4_mark_35 rfl rfl ?_
    refine e_iload_n dX4_mark_36 rfl rfl ?_
    refine e_iald dX4_mark_37 ha_q1 h.1 ?_
    replace h := h.2
    refine e_iadd dX4_mark_38 ?_
    refine e_iast dX4_mark_39 (ar_26 hn) h.1 (md_r (m := md_X4_mark) (by decide)) ?_
    replace h := h.2
    refine e_aload_n dX4_mark_40 rfl rfl ?_
    refine e_getR (y := 27) dX4_mark_41 fl_X4_25 (ob_6 hn) rfl rfl ?_
    refine e_iload_n dX4_mark_44 rfl rfl ?_
    refine e_iload dX4_mark_45 rfl ?_
    refine e_iadd dX4_mark_47 ?_
    refine e_aload_n dX4_mark_48 rfl rfl ?_
    refine e_getR (y := 27) dX4_mark_49 fl_X4_25 (ob_6 hn) rfl rfl ?_
    refine e_iload dX4_mark_52 rfl ?_
    refine e_iald dX4_mark_54 (ar_27 hn) h.1 ?_
    replace h := h.2
    refine e_aload_n dX4_mark_55 rfl rfl ?_
    refine e_iconst dX4_mark_56 ci_5 ?_
    refine e_iload_n dX4_mark_57 rfl rfl ?_
    refine e_iadd dX4_mark_58 ?_
    refine e_iald dX4_mark_59 ha_q1 h.1 ?_
    replace h := h.2
    refine e_iadd dX4_mark_60 ?_
    refine e_iast dX4_mark_61 (ar_27 hn) h.1 (md_r (m := md_X4_mark) (by decide)) ?_
    replace h := h.2
    refine e_iinc dX4_mark_62 rfl (ii_1 _) rfl (by decide) ?_
    refine e_goto (tgt := 14) dX4_mark_65 (by decide) ?_
    exact h
theorem S_X4_mark {d n : Nat} {Q : St → Prop} {σ : St} {q1 : Nat} {N1 : Nat} (hn : FIX ≤ n) (ha_q1 : Ar n q1 20 N1) (h : K_X4_mark_2 d n σ Q σ q1 N1 0) : Cn d n M_X4_mark md_X4_mark [.ref 6, .ref q1] σ (liV Q) := by
  refine Cn.of (k0 := 3) (by decide) rfl ?_
  show Ev (d, n, md_X4_mark, σ, liV Q) M_X4_mark 0 [some (.ref 6), some (.ref q1), none, none, none] [] σ
  refine e_iconst dX4_mark_0 ci_0 ?_
  refine e_istore_n dX4_mark_1 rfl rfl (by decide) ?_
  exact h
abbrev K_X4_pick_16 (d n : Nat) (σ0 : St) (Q : Int32 → St → Prop) (σ : St) (x1 : Nat) (x3 : Int32) (x4 : Int32) (x5 : Int32) : Prop := Ev (d, n, md_X4_pick, σ0, liI Q) M_X4_pick 16 [some (.ref 6), some (.ref x1), none, some (.int x3), some (.int x4), some (.int x5), none] [] σ
theorem B_X4_pick_16 {d n : Nat} {σ0 : St} {Q : Int32 → St → Prop}  {σ : St} {x1 : Nat} {x3 : Int32} {x4 : Int32} {x5 : Int32} (hn : FIX ≤ n) (hd : 1 ≤ d) (hp_x1 : IsP n x1) (h : (((gI σ x1 8) ≤ x5 → Q x3 σ) ∧ (¬ (gI σ x1 8) ≤ x5 → ((x3 = (-1) → pre_X5_bundleAt σ x1 x5 ∧ pre_X4_costOf σ (fn_X5_bundleAt σ x1 x5) ∧ (((gI σ x1 0) < (fn_X4_costOf σ (fn_X5_bundleAt σ x1 x5)) → K_X4_pick_16 d n σ0 Q σ x1 x3 x4 (x5 + 1)) ∧ (¬ (gI σ x1 0) < (fn_X4_costOf σ (fn_X5_bundleAt σ x1 x5)) → ((x3 = (-1) → ((x3 ≠ (-1) → K_X4_pick_16 d n σ0 Q σ x1 x5 (fn_X4_costOf σ (fn_X5_bundleAt σ x1 x5)) (x5 + 1)) ∧ (x3 = (-1) → K_X4_pick_16 d n σ0 Q (sI σ 6 5 x5) x1 x5 (fn_X4_costOf σ (fn_X5_bundleAt σ x1 x5)) (x5 + 1)))) ∧ (¬ x3 = (-1) → ((x4 ≤ (fn_X4_costOf σ (fn_X5_bundleAt σ x1 x5)) → K_X4_pick_16 d n σ0 Q σ x1 x3 x4 (x5 + 1)) ∧ (¬ x4 ≤ (fn_X4_costOf σ (fn_X5_bundleAt σ x1 x5)) → ((x3 ≠ (-1) → K_X4_pick_16 d n σ0 Q σ x1 x5 (fn_X4_costOf σ (fn_X5_bundleAt σ x1 x5)) (x5 + 1)) ∧ (x3 = (-1) → K_X4_pick_16 d n σ0 Q (sI σ 6 5 x5) x1 x5 (fn_X4_costOf σ (fn_X5_bundleAt σ x1 x5)) (x5 + 1)))))))))) ∧ (¬ x3 = (-1) → pre_X5_worthAt σ x1 x5 ∧ pre_X5_worthAt σ x1 x3 ∧ (((fn_X5_worthAt σ x1 x3) ≤ (fn_X5_worthAt σ x1 x5) → pre_X5_bundleAt σ x1 x5 ∧ pre_X4_costOf σ (fn_X5_bundleAt σ x1 x5) ∧ (((gI σ x1 0) < (fn_X4_costOf σ (fn_X5_bundleAt σ x1 x5)) → K_X4_pick_16 d n σ0 Q σ x1 x3 x4 (x5 + 1)) ∧ (¬ (gI σ x1 0) < (fn_X4_costOf σ (fn_X5_bundleAt σ x1 x5)) → ((x3 = (-1) → ((x3 ≠ (-1) → K_X4_pick_16 d n σ0 Q σ x1 x5 (fn_X4_costOf σ (fn_X5_bundleAt σ x1 x5)) (x5 + 1)) ∧ (x3 = (-1) → K_X4_pick_16 d n σ0 Q (sI σ 6 5 x5) x1 x5 (fn_X4_costOf σ (fn_X5_bundleAt σ x1 x5)) (x5 + 1)))) ∧ (¬ x3 = (-1) → ((x4 ≤ (fn_X4_costOf σ (fn_X5_bundleAt σ x1 x5)) → K_X4_pick_16 d n σ0 Q σ x1 x3 x4 (x5 + 1)) ∧ (¬ x4 ≤ (fn_X4_costOf σ (fn_X5_bundleAt σ x1 x5)) → ((x3 ≠ (-1) → K_X4_pick_16 d n σ0 Q σ x1 x5 (fn_X4_costOf σ (fn_X5_bundleAt σ x1 x5)) (x5 + 1)) ∧ (x3 = (-1) → K_X4_pick_16 d n σ0 Q (sI σ 6 5 x5) x1 x5 (fn_X4_costOf σ (fn_X5_bundleAt σ x1 x5)) (x5 + 1)))))))))) ∧ (¬ (fn_X5_worthAt σ x1 x3) ≤ (fn_X5_worthAt σ x1 x5) → Q x3 σ))))))) : K_X4_pick_16 d n σ0 Q σ x1 x3 x4 x5 := by
  refine e_iload dX4_pick_16 rfl ?_
  refine e_aload_n dX4_pick_18 rfl rfl ?_
  refine e_getI dX4_pick_19 fl_X4_36 (Ob.p hp_x1) rfl ?_
  refine e_icmp_ge (tgt := 103) dX4_pick_22 (by decide) (fun c1 => ?_) (fun c1 => ?_)
  · replace h := h.1 c1
    refine e_iload_n dX4_pick_103 rfl rfl ?_
    exact e_iret dX4_pick_104 rfl ⟨_, rfl, h⟩
  · replace h := h.2 c1
    refine e_iload_n dX4_pick_25 rfl rfl ?_
    refine e_iconst dX4_pick_26 ci_m1 ?_
    refine e_icmp_eq (tgt := 46) dX4_pick_27 (by decide) (fun c2 => ?_) (fun c2 => ?_)
    · replace h := h.1 c2
      refine e_aload_n dX4_pick_46 rfl rfl ?_
      refine e_aload_n dX4_pick_47 rfl rfl ?_
      refine e_iload dX4_pick_48 rfl ?_
      refine e_callV (M' := M_X5_bundleAt) (as := [.int x5]) (rest := [.ref 6]) dX4_pick_50 ml_X4_48 mk_X5_bundleAt (Ob.p hp_x1) rfl rfl rfl (Nat.le_of_ble_eq_true rfl) (show 0 < d by omega) (sp_X5_bundleAt hp_x1 h.1) Md_nil (fun v σv hq hf => ?_)
      obtain ⟨v, rfl, rfl, rfl⟩ := hq
      replace h := h.2
      refine e_callV (M' := M_X4_costOf) (as := [.int (fn_X5_bundleAt σ x1 x5)]) (rest := []) dX4_pick_53 ml_X4_51 mk_X4_costOf (ob_6 hn) rfl rfl rfl (Nat.le_of_ble_eq_true rfl) (show 0 < d by omega) (sp_X4_costOf hn h.1) Md_nil (fun v σv hq hf => ?_)
      obtain ⟨v, rfl, rfl, rfl⟩ := hq
      replace h := h.2
      refine e_istore dX4_pick_56 rfl (by decide) ?_
      refine e_iload dX4_pick_58 rfl ?_
      refine e_aload_n dX4_pick_60 rfl rfl ?_
      refine e_getI dX4_pick_61 fl_X4_54 (Ob.p hp_x1) rfl ?_
      refine e_icmp_gt (tgt := 97) dX4_pick_64 (by decide) (fun c3 => ?_) (fun c3 => ?_)
      · replace h := h.1 c3
        refine e_iinc dX4_pick_97 rfl (ii_1 _) rfl (by decide) ?_
        refine e_goto (tgt := 16) dX4_pick_100 (by decide) ?_
        refine e_kill [true, true, false, true, true, true, false] ?_
        exact h
      · replace h := h.2 c3
        refine e_iload_n dX4_pick_67 rfl rfl ?_
        refine e_iconst dX4_pick_68 ci_m1 ?_
        refine e_icmp_eq (tgt := 79) dX4_pick_69 (by decide) (fun c4 => ?_) (fun c4 => ?_)
        · replace h := h.1 c4
          refine e_iload_n dX4_pick_79 rfl rfl ?_
          refine e_iconst dX4_pick_80 ci_m1 ?_
          refine e_icmp_ne (tgt := 90) dX4_pick_81 (by decide) (fun c5 => ?_) (fun c5 => ?_)
          · replace h := h.1 c5
            refine e_iload dX4_pick_90 rfl ?_
            refine e_istore_n dX4_pick_92 rfl rfl (by decide) ?_
            refine e_iload dX4_pick_93 rfl ?_
            refine e_istore dX4_pick_95 rfl (by decide) ?_
            refine e_iinc dX4_pick_97 rfl (ii_1 _) rfl (by decide) ?_
            refine e_goto (tgt := 16) dX4_pick_100 (by decide) ?_
            refine e_kill [true, true, false, true, true, true, false] ?_
            exact h
          · replace h := h.2 c5
            refine e_aload_n dX4_pick_84 rfl rfl ?_
            refine e_iload dX4_pick_85 rfl ?_
            refine e_putI dX4_pick_87 fl_X4_41 (ob_6 hn) rfl (fpI_4_5 _) (md_c (m := md_X4_pick) (by decide)) ?_
            refine e_iload dX4_pick_90 rfl ?_
            refine e_istore_n dX4_pick_92 rfl rfl (by decide) ?_
            refine e_iload dX4_pick_93 rfl ?_
            refine e_istore dX4_pick_95 rfl (by decide) ?_
            refine e_iinc dX4_pick_97 rfl (ii_1 _) rfl (by decide) ?_
            refine e_goto (tgt := 16) dX4_pick_100 (by decide) ?_
            refine e_kill [true, true, false, true, true, true, false] ?_
            exact h
        · replace h := h.2 c4
          refine e_iload dX4_pick_72 rfl ?_
          refine e_iload dX4_pick_74 rfl ?_
          refine e_icmp_ge (tgt := 97) dX4_pick_76 (by decide) (fun c6 => ?_) (fun c6 => ?_)
          · replace h := h.1 c6
            refine e_iinc dX4_pick_97 rfl (ii_1 _) rfl (by decide) ?_
            refine e_goto (tgt := 16) dX4_pick_100 (by decide) ?_
            refine e_kill [true, true, false, true, true, true, false] ?_
            exact h
          · replace h := h.2 c6
            refine e_iload_n dX4_pick_79 rfl rfl ?_
            refine e_iconst dX4_pick_80 ci_m1 ?_
            refine e_icmp_ne (tgt := 90) dX4_pick_81 (by decide) (fun c7 => ?_) (fun c7 => ?_)
            · replace h := h.1 c7
              refine e_iload dX4_pick_90 rfl ?_
              refine e_istore_n dX4_pick_92 rfl rfl (by decide) ?_
              refine e_iload dX4_pick_93 rfl ?_
              refine e_istore dX4_pick_95 rfl (by decide) ?_
              refine e_iinc dX4_pick_97 rfl (ii_1 _) rfl (by decide) ?_
              refine e_goto (tgt := 16) dX4_pick_100 (by decide) ?_
              refine e_kill [true, true, false, true, true, true, false] ?_
              exact h
            · replace h := h.2 c7
              refine e_aload_n dX4_pick_84 rfl rfl ?_
              refine e_iload dX4_pick_85 rfl ?_
              refine e_putI dX4_pick_87 fl_X4_41 (ob_6 hn) rfl (fpI_4_5 _) (md_c (m := md_X4_pick) (by decide)) ?_
              refine e_iload dX4_pick_90 rfl ?_
              refine e_istore_n dX4_pick_92 rfl rfl (by decide) ?_
              refine e_iload dX4_pick_93 rfl ?_
              refine e_istore dX4_pick_95 rfl (by decide) ?_
              refine e_iinc dX4_pick_97 rfl (ii_1 _) rfl (by decide) ?_
              refine e_goto (tgt := 16) dX4_pick_100 (by decide) ?_
              refine e_kill [true, true, false, true, true, true, false] ?_
              exact h
    · replace h := h.2 c2
      refine e_aload_n dX4_pick_30 rfl rfl ?_
      refine e_iload dX4_pick_31 rfl ?_
      refine e_callV (M' := M_X5_worthAt) (as := [.int x5]) (rest := []) dX4_pick_33 ml_X4_44 mk_X5_worthAt (Ob.p hp_x1) rfl rfl rfl (Nat.le_of_ble_eq_true rfl) (show 0 < d by omega) (sp_X5_worthAt hp_x1 h.1) Md_nil (fun v σv hq hf => ?_)
      obtain ⟨v, rfl, rfl, rfl⟩ := hq
      replace h := h.2
      refine e_aload_n dX4_pick_36 rfl rfl ?_
      refine e_iload_n dX4_pick_37 rfl rfl ?_
      refine e_callV (M' := M_X5_worthAt) (as := [.int x3]) (rest := [.int (fn_X5_worthAt σ x1 x5)]) dX4_pick_38 ml_X4_44 mk_X5_worthAt (Ob.p hp_x1) rfl rfl rfl (Nat.le_of_ble_eq_true rfl) (show 0 < d by omega) (sp_X5_worthAt hp_x1 h.1) Md_nil (fun v σv hq hf => ?_)
      obtain ⟨v, rfl, rfl, rfl⟩ := hq
      replace h := h.2
      refine e_icmp_ge (tgt := 46) dX4_pick_41 (by decide) (fun c8 => ?_) (fun c8 => ?_)
      · replace h := h.1 c8
        refine e_aload_n dX4_pick_46 rfl rfl ?_
        refine e_aload_n dX4_pick_47 rfl rfl ?_
        refine e_iload dX4_pick_48 rfl ?_
        refine e_callV (M' := M_X5_bundleAt) (as := [.int x5]) (rest := [.ref 6]) dX4_pick_50 ml_X4_48 mk_X5_bundleAt (Ob.p hp_x1) rfl rfl rfl (Nat.le_of_ble_eq_true rfl) (show 0 < d by omega) (sp_X5_bundleAt hp_x1 h.1) Md_nil (fun v σv hq hf => ?_)
        obtain ⟨v, rfl, rfl, rfl⟩ := hq
        replace h := h.2
        refine e_callV (M' := M_X4_costOf) (as := [.int (fn_X5_bundleAt σ x1 x5)]) (rest := []) dX4_pick_53 ml_X4_51 mk_X4_costOf (ob_6 hn) rfl rfl rfl (Nat.le_of_ble_eq_true rfl) (show 0 < d by omega) (sp_X4_costOf hn h.1) Md_nil (fun v σv hq hf => ?_)
        obtain ⟨v, rfl, rfl, rfl⟩ := hq
        replace h := h.2
        refine e_istore dX4_pick_56 rfl (by decide) ?_
        refine e_iload dX4_pick_58 rfl ?_
        refine e_aload_n dX4_pick_60 rfl rfl ?_
        refine e_getI dX4_pick_61 fl_X4_54 (Ob.p hp_x1) rfl ?_
        refine e_icmp_gt (tgt := 97) dX4_pick_64 (by decide) (fun c9 => ?_) (fun c9 => ?_)
        · replace h := h.1 c9
          refine e_iinc dX4_pick_97 rfl (ii_1 _) rfl (by decide) ?_
          refine e_goto (tgt := 16) dX4_pick_100 (by decide) ?_
          refine e_kill [true, true, false, true, true, true, false] ?_
          exact h
        · replace h := h.2 c9
          refine e_iload_n dX4_pick_67 rfl rfl ?_
          refine e_iconst dX4_pick_68 ci_m1 ?_
          refine e_icmp_eq (tgt := 79) dX4_pick_69 (by decide) (fun c10 => ?_) (fun c10 => ?_)
          · replace h := h.1 c10
            refine e_iload_n dX4_pick_79 rfl rfl ?_
            refine e_iconst dX4_pick_80 ci_m1 ?_
            refine e_icmp_ne (tgt := 90) dX4_pick_81 (by decide) (fun c11 => ?_) (fun c11 => ?_)
            · replace h := h.1 c11
              refine e_iload dX4_pick_90 rfl ?_
              refine e_istore_n dX4_pick_92 rfl rfl (by decide) ?_
              refine e_iload dX4_pick_93 rfl ?_
              refine e_istore dX4_pick_95 rfl (by decide) ?_
              refine e_iinc dX4_pick_97 rfl (ii_1 _) rfl (by decide) ?_
              refine e_goto (tgt := 16) dX4_pick_100 (by decide) ?_
              refine e_kill [true, true, false, true, true, true, false] ?_
              exact h
            · replace h := h.2 c11
              refine e_aload_n dX4_pick_84 rfl rfl ?_
              refine e_iload dX4_pick_85 rfl ?_
              refine e_putI dX4_pick_87 fl_X4_41 (ob_6 hn) rfl (fpI_4_5 _) (md_c (m := md_X4_pick) (by decide)) ?_
              refine e_iload dX4_pick_90 rfl ?_
              refine e_istore_n dX4_pick_92 rfl rfl (by decide) ?_
              refine e_iload dX4_pick_93 rfl ?_
              refine e_istore dX4_pick_95 rfl (by decide) ?_
              refine e_iinc dX4_pick_97 rfl (ii_1 _) rfl (by decide) ?_
              refine e_goto (tgt := 16) dX4_pick_100 (by decide) ?_
              refine e_kill [true, true, false, true, true, true, false] ?_
              exact h
          · replace h := h.2 c10
            refine e_iload dX4_pick_72 rfl ?_
            refine e_iload dX4_pick_74 rfl ?_
            refine e_icmp_ge (tgt := 97) dX4_pick_76 (by decide) (fun c12 => ?_) (fun c12 => ?_)
            · replace h := h.1 c12
              refine e_iinc dX4_pick_97 rfl (ii_1 _) rfl (by decide) ?_
              refine e_goto (tgt := 16) dX4_pick_100 (by decide) ?_
              refine e_kill [true, true, false, true, true, true, false] ?_
              exact h
            · replace h := h.2 c12
              refine e_iload_n dX4_pick_79 rfl rfl ?_
              refine e_iconst dX4_pick_80 ci_m1 ?_
              refine e_icmp_ne (tgt := 90) dX4_pick_81 (by decide) (fun c13 => ?_) (fun c13 => ?_)
              · replace h := h.1 c13
                refine e_iload dX4_pick_90 rfl ?_
                refine e_istore_n dX4_pick_92 rfl rfl (by decide) ?_
                refine e_iload dX4_pick_93 rfl ?_
                refine e_istore dX4_pick_95 rfl (by decide) ?_
                refine e_iinc dX4_pick_97 rfl (ii_1 _) rfl (by decide) ?_
                refine e_goto (tgt := 16) dX4_pick_100 (by decide) ?_
                refine e_kill [true, true, false, true, true, true, false] ?_
                exact h
              · replace h := h.2 c13
                refine e_aload_n dX4_pick_84 rfl rfl ?_
                refine e_iload dX4_pick_85 rfl ?_
                refine e_putI dX4_pick_87 fl_X4_41 (ob_6 hn) rfl (fpI_4_5 _) (md_c (m := md_X4_pick) (by decide)) ?_
                refine e_iload dX4_pick_90 rfl ?_
                refine e_istore_n dX4_pick_92 rfl rfl (by decide) ?_
                refine e_iload dX4_pick_93 rfl ?_
                refine e_istore dX4_pick_95 rfl (by decide) ?_
                refine e_iinc dX4_pick_97 rfl (ii_1 _) rfl (by decide) ?_
                refine e_goto (tgt := 16) dX4_pick_100 (by decide) ?_
                refine e_kill [true, true, false, true, true, true, false] ?_
                exact h
      · replace h := h.2 c8
        refine e_iload_n dX4_pick_44 rfl rfl ?_
        exact e_iret dX4_pick_45 rfl ⟨_, rfl, h⟩
theorem S_X4_pick {d n : Nat} {Q : Int32 → St → Prop} {σ : St} {p1 : Nat} {a2 : Int32} (hn : FIX ≤ n) (hd : 1 ≤ d) (hp_p1 : IsP n p1) (h : K_X4_pick_16 d n σ Q (sI σ 6 5 (gI σ p1 8)) p1 (-1) 0 a2) : Cn d n M_X4_pick md_X4_pick [.ref 6, .ref p1, .int a2] σ (liI Q) := by
  refine Cn.of (k0 := 4) (by decide) rfl ?_
  show Ev (d, n, md_X4_pick, σ, liI Q) M_X4_pick 0 [some (.ref 6), some (.ref p1), some (.int a2), none, none, none, none] [] σ
  refine e_iconst dX4_pick_0 ci_m1 ?_
  refine e_istore_n dX4_pick_1 rfl rfl (by decide) ?_
  refine e_iconst dX4_pick_2 ci_0 ?_
  refine e_istore dX4_pick_3 rfl (by decide) ?_
  refine e_aload_n dX4_pick_5 rfl rfl ?_
  refine e_aload_n dX4_pick_6 rfl rfl ?_
  refine e_getI dX4_pick_7 fl_X4_36 (Ob.p hp_p1) rfl ?_
  refine e_putI dX4_pick_10 fl_X4_41 (ob_6 hn) rfl (fpI_4_5 _) (md_c (m := md_X4_pick) (by decide)) ?_
  refine e_iload_n dX4_pick_13 rfl rfl ?_
  refine e_istore dX4_pick_14 rfl (by decide) ?_
  refine e_kill [true, true, false, true, true, true, false] ?_
  exact h
abbrev K_X5_betterThan_2 (d n : Nat) (σ0 : St) (Q : Int32 → St → Prop) (σ : St) (x0 : Nat) (x1 : Int32) (x2 : Int32) : Prop := Ev (d, n, md_X5_betterThan, σ0, liI Q) M_X5_betterThan 2 [some (.ref x0), some (.int x1), some (.int x2)] [] σ
theorem B_X5_betterThan_2 {d n : Nat} {σ0 : St} {Q : Int32 → St → Prop}  {σ : St} {x0 : Nat} {x1 : Int32} {x2 : Int32} (hd : 1 ≤ d) (hp_x0 : IsP n x0) (h : (((gI σ x0 8) ≤ x2 → Q (gI σ x0 8) σ) ∧ (¬ (gI σ x0 8) ≤ x2 → pre_X5_worthAt σ x0 x2 ∧ ((x1 < (fn_X5_worthAt σ x0 x2) → K_X5_betterThan_2 d n σ0 Q σ x0 x1 (x2 + 1)) ∧ (¬ x1 < (fn_X5_worthAt σ x0 x2) → Q x2 σ))))) : K_X5_betterThan_2 d n σ0 Q σ x0 x1 x2 := by
  refine e_iload_n dX5_betterThan_2 rfl rfl ?_
  refine e_aload_n dX5_betterThan_3 rfl rfl ?_
  refine e_getI dX5_betterThan_4 fl_X5_51 (Ob.p hp_x0) rfl ?_
  refine e_icmp_ge (tgt := 27) dX5_betterThan_7 (by decide) (fun c1 => ?_) (fun c1 => ?_)
  · replace h := h.1 c1
    refine e_aload_n dX5_betterThan_27 rfl rfl ?_
    refine e_getI dX5_betterThan_28 fl_X5_51 (Ob.p hp_x0) rfl ?_
    exact e_iret dX5_betterThan_31 rfl ⟨_, rfl, h⟩
  · replace h := h.2 c1
    refine e_aload_n dX5_betterThan_10 rfl rfl ?_
    refine e_iload_n dX5_betterThan_11 rfl rfl ?_
    refine e_callV (M' := M_X5_worthAt) (as := [.int x2]) (rest := []) dX5_betterThan_12 ml_X5_82 mk_X5_worthAt (Ob.p hp_x0) rfl rfl rfl (Nat.le_of_ble_eq_true rfl) (show 0 < d by omega) (sp_X5_worthAt hp_x0 h.1) Md_nil (fun v σv hq hf => ?_)
    obtain ⟨v, rfl, rfl, rfl⟩ := hq
    replace h := h.2
    refine e_iload_n dX5_betterThan_15 rfl rfl ?_
    refine e_icmp_gt (tgt := 21) dX5_betterThan_16 (by decide) (fun c2 => ?_) (fun c2 => ?_)
    · replace h := h.1 c2
      refine e_iinc dX5_betterThan_21 rfl (ii_1 _) rfl (by decide) ?_
      refine e_goto (tgt := 2) dX5_betterThan_24 (by decide) ?_
      exact h
    · replace h := h.2 c2
      refine e_iload_n dX5_betterThan_19 rfl rfl ?_
      exact e_iret dX5_betterThan_20 rfl ⟨_, rfl, h⟩
theorem S_X5_betterThan {d n : Nat} {Q : Int32 → St → Prop} {σ : St} {p : Nat} {a1 : Int32} (hd : 1 ≤ d) (hp_p : IsP n p) (h : K_X5_betterThan_2 d n σ Q σ p a1 0) : Cn d n M_X5_betterThan md_X5_betterThan [.ref p, .int a1] σ (liI Q) := by
  refine Cn.of (k0 := 1) (by decide) rfl ?_
  show Ev (d, n, md_X5_betterThan, σ, liI Q) M_X5_betterThan 0 [some (.ref p), some (.int a1), none] [] σ
  refine e_iconst dX5_betterThan_0 ci_0 ?_
  refine e_istore_n dX5_betterThan_1 rfl rfl (by decide) ?_
  exact h
abbrev K_X4_leastBetter_21 (d n : Nat) (σ0 : St) (Q : Int32 → St → Prop) (σ : St) (x1 : Nat) (x2 : Int32) (x3 : Int32) (x4 : Int32) (x5 : Int32) : Prop := Ev (d, n, md_X4_leastBetter, σ0, liI Q) M_X4_leastBetter 21 [some (.ref 6), some (.ref x1), some (.int x2), some (.int x3), some (.int x4), some (.int x5), none] [] σ
theorem B_X4_leastBetter_21 {d n : Nat} {σ0 : St} {Q : Int32 → St → Prop}  {σ : St} {x1 : Nat} {x2 : Int32} {x3 : Int32} {x4 : Int32} {x5 : Int32} (hn : FIX ≤ n) (hd : 1 ≤ d) (hp_x1 : IsP n x1) (h : ((x3 ≤ x5 → Q x4 σ) ∧ (¬ x3 ≤ x5 → pre_X5_bundleAt σ x1 x5 ∧ ((((fn_X5_bundleAt σ x1 x5) &&& x2) ≠ x2 → K_X4_leastBetter_21 d n σ0 Q σ x1 x2 x3 x4 (x5 + 1)) ∧ (((fn_X5_bundleAt σ x1 x5) &&& x2) = x2 → ((x4 = (-1) → pre_X4_costOf σ (fn_X5_bundleAt σ x1 x5) ∧ K_X4_leastBetter_21 d n σ0 Q σ x1 x2 x3 (fn_X4_costOf σ (fn_X5_bundleAt σ x1 x5)) (x5 + 1)) ∧ (¬ x4 = (-1) → pre_X4_costOf σ (fn_X5_bundleAt σ x1 x5) ∧ ((x4 ≤ (fn_X4_costOf σ (fn_X5_bundleAt σ x1 x5)) → K_X4_leastBetter_21 d n σ0 Q σ x1 x2 x3 x4 (x5 + 1)) ∧ (¬ x4 ≤ (fn_X4_costOf σ (fn_X5_bundleAt σ x1 x5)) → pre_X4_costOf σ (fn_X5_bundleAt σ x1 x5) ∧ K_X4_leastBetter_21 d n σ0 Q σ x1 x2 x3 (fn_X4_costOf σ (fn_X5_bundleAt σ x1 x5)) (x5 + 1)))))))))) : K_X4_leastBetter_21 d n σ0 Q σ x1 x2 x3 x4 x5 := by
  refine e_iload dX4_leastBetter_21 rfl ?_
  refine e_iload_n dX4_leastBetter_23 rfl rfl ?_
  refine e_icmp_ge (tgt := 74) dX4_leastBetter_24 (by decide) (fun c1 => ?_) (fun c1 => ?_)
  · replace h := h.1 c1
    refine e_iload dX4_leastBetter_74 rfl ?_
    exact e_iret dX4_leastBetter_76 rfl ⟨_, rfl, h⟩
  · replace h := h.2 c1
    refine e_aload_n dX4_leastBetter_27 rfl rfl ?_
    refine e_iload dX4_leastBetter_28 rfl ?_
    refine e_callV (M' := M_X5_bundleAt) (as := [.int x5]) (rest := []) dX4_leastBetter_30 ml_X4_48 mk_X5_bundleAt (Ob.p hp_x1) rfl rfl rfl (Nat.le_of_ble_eq_true rfl) (show 0 < d by omega) (sp_X5_bundleAt hp_x1 h.1) Md_nil (fun v σv hq hf => ?_)
    obtain ⟨v, rfl, rfl, rfl⟩ := hq
    replace h := h.2
    refine e_istore dX4_leastBetter_33 rfl (by decide) ?_
    refine e_iload dX4_leastBetter_35 rfl ?_
    refine e_iload_n dX4_leastBetter_37 rfl rfl ?_
    refine e_iand dX4_leastBetter_38 ?_
    refine e_iload_n dX4_leastBetter_39 rfl rfl ?_
    refine e_icmp_ne (tgt := 68) dX4_leastBetter_40 (by decide) (fun c2 => ?_) (fun c2 => ?_)
    · replace h := h.1 c2
      refine e_iinc dX4_leastBetter_68 rfl (ii_1 _) rfl (by decide) ?_
      refine e_goto (tgt := 21) dX4_leastBetter_71 (by decide) ?_
      refine e_kill [true, true, true, true, true, true, false] ?_
      exact h
    · replace h := h.2 c2
      refine e_iload dX4_leastBetter_43 rfl ?_
      refine e_iconst dX4_leastBetter_45 ci_m1 ?_
      refine e_icmp_eq (tgt := 60) dX4_leastBetter_46 (by decide) (fun c3 => ?_) (fun c3 => ?_)
      · replace h := h.1 c3
        refine e_aload_n dX4_leastBetter_60 rfl rfl ?_
        refine e_iload dX4_leastBetter_61 rfl ?_
        refine e_callV (M' := M_X4_costOf) (as := [.int (fn_X5_bundleAt σ x1 x5)]) (rest := []) dX4_leastBetter_63 ml_X4_51 mk_X4_costOf (ob_6 hn) rfl rfl rfl (Nat.le_of_ble_eq_true rfl) (show 0 < d by omega) (sp_X4_costOf hn h.1) Md_nil (fun v σv hq hf => ?_)
        obtain ⟨v, rfl, rfl, rfl⟩ := hq
        replace h := h.2
        refine e_istore dX4_leastBetter_66 rfl (by decide) ?_
        refine e_iinc dX4_leastBetter_68 rfl (ii_1 _) rfl (by decide) ?_
        refine e_goto (tgt := 21) dX4_leastBetter_71 (by decide) ?_
        refine e_kill [true, true, true, true, true, true, false] ?_
        exact h
      · replace h := h.2 c3
        refine e_aload_n dX4_leastBetter_49 rfl rfl ?_
        refine e_iload dX4_leastBetter_50 rfl ?_
        refine e_callV (M' := M_X4_costOf) (as := [.int (fn_X5_bundleAt σ x1 x5)]) (rest := []) dX4_leastBetter_52 ml_X4_51 mk_X4_costOf (ob_6 hn) rfl rfl rfl (Nat.le_of_ble_eq_true rfl) (show 0 < d by omega) (sp_X4_costOf hn h.1) Md_nil (fun v σv hq hf => ?_)
        obtain ⟨v, rfl, rfl, rfl⟩ := hq
        replace h := h.2
        refine e_iload dX4_leastBetter_55 rfl ?_
        refine e_icmp_ge (tgt := 68) dX4_leastBetter_57 (by decide) (fun c4 => ?_) (fun c4 => ?_)
        · replace h := h.1 c4
          refine e_iinc dX4_leastBetter_68 rfl (ii_1 _) rfl (by decide) ?_
          refine e_goto (tgt := 21) dX4_leastBetter_71 (by decide) ?_
          refine e_kill [true, true, true, true, true, true, false] ?_
          exact h
        · replace h := h.2 c4
          refine e_aload_n dX4_leastBetter_60 rfl rfl ?_
          refine e_iload dX4_leastBetter_61 rfl ?_
          refine e_callV (M' := M_X4_costOf) (as := [.int (fn_X5_bundleAt σ x1 x5)]) (rest := []) dX4_leastBetter_63 ml_X4_51 mk_X4_costOf (ob_6 hn) rfl rfl rfl (Nat.le_of_ble_eq_true rfl) (show 0 < d by omega) (sp_X4_costOf hn h.1) Md_nil (fun v σv hq hf => ?_)
          obtain ⟨v, rfl, rfl, rfl⟩ := hq
          replace h := h.2
          refine e_istore dX4_leastBetter_66 rfl (by decide) ?_
          refine e_iinc dX4_leastBetter_68 rfl (ii_1 _) rfl (by decide) ?_
          refine e_goto (tgt := 21) dX4_leastBetter_71 (by decide) ?_
          refine e_kill [true, true, true, true, true, true, false] ?_
          exact h
theorem S_X4_leastBetter {d n : Nat} {Q : Int32 → St → Prop} {σ : St} {p1 : Nat} {a2 : Int32} (hn : FIX ≤ n) (hd : 1 ≤ d) (hp_p1 : IsP n p1) (h : ∃ Q1 : Int32 → St → Prop, Cn (d - 1) n M_X4_pick md_X4_pick [.ref 6, .ref p1, .int 0] σ (liI Q1) ∧ ∀ (v4 : Int32) (σ3 : St), Q1 v4 σ3 → Fr md_X4_pick σ σ3 → pre_X5_worthAt σ3 p1 v4 ∧ ∃ Q7 : Int32 → St → Prop, Cn (d - 1) n M_X5_betterThan md_X5_betterThan [.ref p1, .int (fn_X5_worthAt σ3 p1 v4)] σ3 (liI Q7) ∧ ∀ (v10 : Int32) (σ9 : St), Q7 v10 σ9 → Fr md_X5_betterThan σ3 σ9 → K_X4_leastBetter_21 d n σ Q σ9 p1 a2 v10 (-1) 0) : Cn d n M_X4_leastBetter md_X4_leastBetter [.ref 6, .ref p1, .int a2] σ (liI Q) := by
  refine Cn.of (k0 := 4) (by decide) rfl ?_
  show Ev (d, n, md_X4_leastBetter, σ, liI Q) M_X4_leastBetter 0 [some (.ref 6), some (.ref p1), some (.int a2), none, none, none, none] [] σ
  refine e_aload_n dX4_leastBetter_0 rfl rfl ?_
  refine e_aload_n dX4_leastBetter_1 rfl rfl ?_
  refine e_aload_n dX4_leastBetter_2 rfl rfl ?_
  refine e_aload_n dX4_leastBetter_3 rfl rfl ?_
  refine e_iconst dX4_leastBetter_4 ci_0 ?_
  obtain ⟨Q1, hc2, h⟩ := h
  refine e_callV (M' := M_X4_pick) (as := [.ref p1, .int 0]) (rest := [.ref p1, .ref p1]) dX4_leastBetter_5 ml_X4_57 mk_X4_pick (ob_6 hn) rfl rfl rfl (Nat.le_of_ble_eq_true rfl) (show 0 < d by omega) hc2 (Md_le (b := md_X4_leastBetter) (by decide)) (fun v σ3 hq hf => ?_)
  obtain ⟨v4, rfl, hq⟩ := hq
  replace h := h v4 σ3 hq hf
  refine e_callV (M' := M_X5_worthAt) (as := [.int v4]) (rest := [.ref p1]) dX4_leastBetter_8 ml_X4_44 mk_X5_worthAt (Ob.p hp_p1) rfl rfl rfl (Nat.le_of_ble_eq_true rfl) (show 0 < d by omega) (sp_X5_worthAt hp_p1 h.1) Md_nil (fun v σv hq hf => ?_)
  obtain ⟨v, rfl, rfl, rfl⟩ := hq
  replace h := h.2
  obtain ⟨Q7, hc8, h⟩ := h
  refine e_callV (M' := M_X5_betterThan) (as := [.int (fn_X5_worthAt σ3 p1 v4)]) (rest := []) dX4_leastBetter_11 ml_X4_61 mk_X5_betterThan (Ob.p hp_p1) rfl rfl rfl (Nat.le_of_ble_eq_true rfl) (show 0 < d by omega) hc8 (Md_le (b := md_X4_leastBetter) (by decide)) (fun v σ9 hq hf => ?_)
  obtain ⟨v10, rfl, hq⟩ := hq
  replace h := h v10 σ9 hq hf
  refine e_istore_n dX4_leastBetter_14 rfl rfl (by decide) ?_
  refine e_iconst dX4_leastBetter_15 ci_m1 ?_
  refine e_istore dX4_leastBetter_16 rfl (by decide) ?_
  refine e_iconst dX4_leastBetter_18 ci_0 ?_
  refine e_istore dX4_leastBetter_19 rfl (by decide) ?_
  exact h
abbrev K_X4_alike_19 (d n : Nat) (σ0 : St) (Q : Int32 → St → Prop) (σ : St) (x1 : Nat) (x2 : Int32) (x3 : Int32) (x4 : Int32) : Prop := Ev (d, n, md_X4_alike, σ0, liI Q) M_X4_alike 19 [some (.ref 6), some (.ref x1), some (.int x2), some (.int x3), some (.int x4), none] [] σ
theorem B_X4_alike_19 {d n : Nat} {σ0 : St} {Q : Int32 → St → Prop}  {σ : St} {x1 : Nat} {x2 : Int32} {x3 : Int32} {x4 : Int32} (hn : FIX ≤ n) (hd : 1 ≤ d) (hp_x1 : IsP n x1) (h : (((gI σ x1 8) ≤ x4 → Q x3 σ) ∧ (¬ (gI σ x1 8) ≤ x4 → ((x4 = x2 → (((0 : Int32) = 0 → K_X4_alike_19 d n σ0 Q σ x1 x2 x3 (x4 + 1)) ∧ (¬ (0 : Int32) = 0 → pre_X5_bundleAt σ x1 x4 ∧ pre_X4_costOf σ (fn_X5_bundleAt σ x1 x4) ∧ (((gI σ x1 0) < (fn_X4_costOf σ (fn_X5_bundleAt σ x1 x4)) → K_X4_alike_19 d n σ0 Q σ x1 x2 x3 (x4 + 1)) ∧ (¬ (gI σ x1 0) < (fn_X4_costOf σ (fn_X5_bundleAt σ x1 x4)) → K_X4_alike_19 d n σ0 Q σ x1 x2 (x3 + 1) (x4 + 1)))))) ∧ (¬ x4 = x2 → pre_X5_worthAt σ x1 x4 ∧ pre_X5_worthAt σ x1 x2 ∧ (((fn_X5_worthAt σ x1 x4) ≠ (fn_X5_worthAt σ x1 x2) → (((0 : Int32) = 0 → K_X4_alike_19 d n σ0 Q σ x1 x2 x3 (x4 + 1)) ∧ (¬ (0 : Int32) = 0 → pre_X5_bundleAt σ x1 x4 ∧ pre_X4_costOf σ (fn_X5_bundleAt σ x1 x4) ∧ (((gI σ x1 0) < (fn_X4_costOf σ (fn_X5_bundleAt σ x1 x4)) → K_X4_alike_19 d n σ0 Q σ x1 x2 x3 (x4 + 1)) ∧ (¬ (gI σ x1 0) < (fn_X4_costOf σ (fn_X5_bundleAt σ x1 x4)) → K_X4_alike_19 d n σ0 Q σ x1 x2 (x3 + 1) (x4 + 1)))))) ∧ ((fn_X5_worthAt σ x1 x4) = (fn_X5_worthAt σ x1 x2) → (((1 : Int32) = 0 → K_X4_alike_19 d n σ0 Q σ x1 x2 x3 (x4 + 1)) ∧ (¬ (1 : Int32) = 0 → pre_X5_bundleAt σ x1 x4 ∧ pre_X4_costOf σ (fn_X5_bundleAt σ x1 x4) ∧ (((gI σ x1 0) < (fn_X4_costOf σ (fn_X5_bundleAt σ x1 x4)) → K_X4_alike_19 d n σ0 Q σ x1 x2 x3 (x4 + 1)) ∧ (¬ (gI σ x1 0) < (fn_X4_costOf σ (fn_X5_bundleAt σ x1 x4)) → K_X4_alike_19 d n σ0 Q σ x1 x2 (x3 + 1) (x4 + 1)))))))))))) : K_X4_alike_19 d n σ0 Q σ x1 x2 x3 x4 := by
  refine e_iload dX4_alike_19 rfl ?_
  refine e_aload_n dX4_alike_21 rfl rfl ?_
  refine e_getI dX4_alike_22 fl_X4_36 (Ob.p hp_x1) rfl ?_
  refine e_icmp_ge (tgt := 86) dX4_alike_25 (by decide) (fun c1 => ?_) (fun c1 => ?_)
  · replace h := h.1 c1
    refine e_iload_n dX4_alike_86 rfl rfl ?_
    exact e_iret dX4_alike_87 rfl ⟨_, rfl, h⟩
  · replace h := h.2 c1
    refine e_iload dX4_alike_28 rfl ?_
    refine e_iload_n dX4_alike_30 rfl rfl ?_
    refine e_icmp_eq (tgt := 52) dX4_alike_31 (by decide) (fun c2 => ?_) (fun c2 => ?_)
    · replace h := h.1 c2
      refine e_iconst dX4_alike_52 ci_0 ?_
      refine e_istore dX4_alike_53 rfl (by decide) ?_
      refine e_iload dX4_alike_55 rfl ?_
      refine e_if_eq (tgt := 80) dX4_alike_57 (by decide) (fun c3 => ?_) (fun c3 => ?_)
      · replace h := h.1 c3
        refine e_iinc dX4_alike_80 rfl (ii_1 _) rfl (by decide) ?_
        refine e_goto (tgt := 19) dX4_alike_83 (by decide) ?_
        refine e_kill [true, true, true, true, true, false] ?_
        exact h
      · replace h := h.2 c3
        refine e_aload_n dX4_alike_60 rfl rfl ?_
        refine e_aload_n dX4_alike_61 rfl rfl ?_
        refine e_iload dX4_alike_62 rfl ?_
        refine e_callV (M' := M_X5_bundleAt) (as := [.int x4]) (rest := [.ref 6]) dX4_alike_64 ml_X4_48 mk_X5_bundleAt (Ob.p hp_x1) rfl rfl rfl (Nat.le_of_ble_eq_true rfl) (show 0 < d by omega) (sp_X5_bundleAt hp_x1 h.1) Md_nil (fun v σv hq hf => ?_)
        obtain ⟨v, rfl, rfl, rfl⟩ := hq
        replace h := h.2
        refine e_callV (M' := M_X4_costOf) (as := [.int (fn_X5_bundleAt σ x1 x4)]) (rest := []) dX4_alike_67 ml_X4_51 mk_X4_costOf (ob_6 hn) rfl rfl rfl (Nat.le_of_ble_eq_true rfl) (show 0 < d by omega) (sp_X4_costOf hn h.1) Md_nil (fun v σv hq hf => ?_)
        obtain ⟨v, rfl, rfl, rfl⟩ := hq
        replace h := h.2
        refine e_aload_n dX4_alike_70 rfl rfl ?_
        refine e_getI dX4_alike_71 fl_X4_54 (Ob.p hp_x1) rfl ?_
        refine e_icmp_gt (tgt := 80) dX4_alike_74 (by decide) (fun c4 => ?_) (fun c4 => ?_)
        · replace h := h.1 c4
          refine e_iinc dX4_alike_80 rfl (ii_1 _) rfl (by decide) ?_
          refine e_goto (tgt := 19) dX4_alike_83 (by decide) ?_
          refine e_kill [true, true, true, true, true, false] ?_
          exact h
        · replace h := h.2 c4
          refine e_iinc dX4_alike_77 rfl (ii_1 _) rfl (by decide) ?_
          refine e_iinc dX4_alike_80 rfl (ii_1 _) rfl (by decide) ?_
          refine e_goto (tgt := 19) dX4_alike_83 (by decide) ?_
          refine e_kill [true, true, true, true, true, false] ?_
          exact h
    · replace h := h.2 c2
      refine e_aload_n dX4_alike_34 rfl rfl ?_
      refine e_iload dX4_alike_35 rfl ?_
      refine e_callV (M' := M_X5_worthAt) (as := [.int x4]) (rest := []) dX4_alike_37 ml_X4_44 mk_X5_worthAt (Ob.p hp_x1) rfl rfl rfl (Nat.le_of_ble_eq_true rfl) (show 0 < d by omega) (sp_X5_worthAt hp_x1 h.1) Md_nil (fun v σv hq hf => ?_)
      obtain ⟨v, rfl, rfl, rfl⟩ := hq
      replace h := h.2
      refine e_aload_n dX4_alike_40 rfl rfl ?_
      refine e_iload_n dX4_alike_41 rfl rfl ?_
      refine e_callV (M' := M_X5_worthAt) (as := [.int x2]) (rest := [.int (fn_X5_worthAt σ x1 x4)]) dX4_alike_42 ml_X4_44 mk_X5_worthAt (Ob.p hp_x1) rfl rfl rfl (Nat.le_of_ble_eq_true rfl) (show 0 < d by omega) (sp_X5_worthAt hp_x1 h.1) Md_nil (fun v σv hq hf => ?_)
      obtain ⟨v, rfl, rfl, rfl⟩ := hq
      replace h := h.2
      refine e_icmp_ne (tgt := 52) dX4_alike_45 (by decide) (fun c5 => ?_) (fun c5 => ?_)
      · replace h := h.1 c5
        refine e_iconst dX4_alike_52 ci_0 ?_
        refine e_istore dX4_alike_53 rfl (by decide) ?_
        refine e_iload dX4_alike_55 rfl ?_
        refine e_if_eq (tgt := 80) dX4_alike_57 (by decide) (fun c6 => ?_) (fun c6 => ?_)
        · replace h := h.1 c6
          refine e_iinc dX4_alike_80 rfl (ii_1 _) rfl (by decide) ?_
          refine e_goto (tgt := 19) dX4_alike_83 (by decide) ?_
          refine e_kill [true, true, true, true, true, false] ?_
          exact h
        · replace h := h.2 c6
          refine e_aload_n dX4_alike_60 rfl rfl ?_
          refine e_aload_n dX4_alike_61 rfl rfl ?_
          refine e_iload dX4_alike_62 rfl ?_
          refine e_callV (M' := M_X5_bundleAt) (as := [.int x4]) (rest := [.ref 6]) dX4_alike_64 ml_X4_48 mk_X5_bundleAt (Ob.p hp_x1) rfl rfl rfl (Nat.le_of_ble_eq_true rfl) (show 0 < d by omega) (sp_X5_bundleAt hp_x1 h.1) Md_nil (fun v σv hq hf => ?_)
          obtain ⟨v, rfl, rfl, rfl⟩ := hq
          replace h := h.2
          refine e_callV (M' := M_X4_costOf) (as := [.int (fn_X5_bundleAt σ x1 x4)]) (rest := []) dX4_alike_67 ml_X4_51 mk_X4_costOf (ob_6 hn) rfl rfl rfl (Nat.le_of_ble_eq_true rfl) (show 0 < d by omega) (sp_X4_costOf hn h.1) Md_nil (fun v σv hq hf => ?_)
          obtain ⟨v, rfl, rfl, rfl⟩ := hq
          replace h := h.2
          refine e_aload_n dX4_alike_70 rfl rfl ?_
          refine e_getI dX4_alike_71 fl_X4_54 (Ob.p hp_x1) rfl ?_
          refine e_icmp_gt (tgt := 80) dX4_alike_74 (by decide) (fun c7 => ?_) (fun c7 => ?_)
          · replace h := h.1 c7
            refine e_iinc dX4_alike_80 rfl (ii_1 _) rfl (by decide) ?_
            refine e_goto (tgt := 19) dX4_alike_83 (by decide) ?_
            refine e_kill [true, true, true, true, true, false] ?_
            exact h
          · replace h := h.2 c7
            refine e_iinc dX4_alike_77 rfl (ii_1 _) rfl (by decide) ?_
            refine e_iinc dX4_alike_80 rfl (ii_1 _) rfl (by decide) ?_
            refine e_goto (tgt := 19) dX4_alike_83 (by decide) ?_
            refine e_kill [true, true, true, true, true, false] ?_
            exact h
      · replace h := h.2 c5
        refine e_iconst dX4_alike_48 ci_1 ?_
        refine e_goto (tgt := 53) dX4_alike_49 (by decide) ?_
        refine e_istore dX4_alike_53 rfl (by decide) ?_
        refine e_iload dX4_alike_55 rfl ?_
        refine e_if_eq (tgt := 80) dX4_alike_57 (by decide) (fun c8 => ?_) (fun c8 => ?_)
        · replace h := h.1 c8
          refine e_iinc dX4_alike_80 rfl (ii_1 _) rfl (by decide) ?_
          refine e_goto (tgt := 19) dX4_alike_83 (by decide) ?_
          refine e_kill [true, true, true, true, true, false] ?_
          exact h
        · replace h := h.2 c8
          refine e_aload_n dX4_alike_60 rfl rfl ?_
          refine e_aload_n dX4_alike_61 rfl rfl ?_
          refine e_iload dX4_alike_62 rfl ?_
          refine e_callV (M' := M_X5_bundleAt) (as := [.int x4]) (rest := [.ref 6]) dX4_alike_64 ml_X4_48 mk_X5_bundleAt (Ob.p hp_x1) rfl rfl rfl (Nat.le_of_ble_eq_true rfl) (show 0 < d by omega) (sp_X5_bundleAt hp_x1 h.1) Md_nil (fun v σv hq hf => ?_)
          obtain ⟨v, rfl, rfl, rfl⟩ := hq
          replace h := h.2
          refine e_callV (M' := M_X4_costOf) (as := [.int (fn_X5_bundleAt σ x1 x4)]) (rest := []) dX4_alike_67 ml_X4_51 mk_X4_costOf (ob_6 hn) rfl rfl rfl (Nat.le_of_ble_eq_true rfl) (show 0 < d by omega) (sp_X4_costOf hn h.1) Md_nil (fun v σv hq hf => ?_)
          obtain ⟨v, rfl, rfl, rfl⟩ := hq
          replace h := h.2
          refine e_aload_n dX4_alike_70 rfl rfl ?_
          refine e_getI dX4_alike_71 fl_X4_54 (Ob.p hp_x1) rfl ?_
          refine e_icmp_gt (tgt := 80) dX4_alike_74 (by decide) (fun c9 => ?_) (fun c9 => ?_)
          · replace h := h.1 c9
            refine e_iinc dX4_alike_80 rfl (ii_1 _) rfl (by decide) ?_
            refine e_goto (tgt := 19) dX4_alike_83 (by decide) ?_
            refine e_kill [true, true, true, true, true, false] ?_
            exact h
          · replace h := h.2 c9
            refine e_iinc dX4_alike_77 rfl (ii_1 _) rfl (by decide) ?_
            refine e_iinc dX4_alike_80 rfl (ii_1 _) rfl (by decide) ?_
            refine e_goto (tgt := 19) dX4_alike_83 (by decide) ?_
            refine e_kill [true, true, true, true, true, false] ?_
            exact h
theorem S_X4_alike {d n : Nat} {Q : Int32 → St → Prop} {σ : St} {p1 : Nat} (hn : FIX ≤ n) (hd : 1 ≤ d) (hp_p1 : IsP n p1) (h : ∃ Q1 : Int32 → St → Prop, Cn (d - 1) n M_X4_pick md_X4_pick [.ref 6, .ref p1, .int 0] σ (liI Q1) ∧ ∀ (v4 : Int32) (σ3 : St), Q1 v4 σ3 → Fr md_X4_pick σ σ3 → ((v4 ≠ (-1) → K_X4_alike_19 d n σ Q σ3 p1 v4 0 0) ∧ (v4 = (-1) → Q (-1) σ3))) : Cn d n M_X4_alike md_X4_alike [.ref 6, .ref p1] σ (liI Q) := by
  refine Cn.of (k0 := 4) (by decide) rfl ?_
  show Ev (d, n, md_X4_alike, σ, liI Q) M_X4_alike 0 [some (.ref 6), some (.ref p1), none, none, none, none] [] σ
  refine e_aload_n dX4_alike_0 rfl rfl ?_
  refine e_aload_n dX4_alike_1 rfl rfl ?_
  refine e_iconst dX4_alike_2 ci_0 ?_
  obtain ⟨Q1, hc2, h⟩ := h
  refine e_callV (M' := M_X4_pick) (as := [.ref p1, .int 0]) (rest := []) dX4_alike_3 ml_X4_57 mk_X4_pick (ob_6 hn) rfl rfl rfl (Nat.le_of_ble_eq_true rfl) (show 0 < d by omega) hc2 (Md_le (b := md_X4_alike) (by decide)) (fun v σ3 hq hf => ?_)
  obtain ⟨v4, rfl, hq⟩ := hq
  replace h := h v4 σ3 hq hf
  refine e_istore_n dX4_alike_6 rfl rfl (by decide) ?_
  refine e_iload_n dX4_alike_7 rfl rfl ?_
  refine e_iconst dX4_alike_8 ci_m1 ?_
  refine e_icmp_ne (tgt := 14) dX4_alike_9 (by decide) (fun c7 => ?_) (fun c7 => ?_)
  · replace h := h.1 c7
    refine e_iconst dX4_alike_14 ci_0 ?_
    refine e_istore_n dX4_alike_15 rfl rfl (by decide) ?_
    refine e_iconst dX4_alike_16 ci_0 ?_
    refine e_istore dX4_alike_17 rfl (by decide) ?_
    exact h
  · replace h := h.2 c7
    refine e_iconst dX4_alike_12 ci_m1 ?_
    exact e_iret dX4_alike_13 rfl ⟨_, rfl, h⟩
abbrev K_X4_squareAt_7 (d n : Nat) (σ0 : St) (Q : Int32 → St → Prop) (σ : St) (q1 : Nat) (N1 : Nat) (x2 : Int32) : Prop := Ev (d, n, md_X4_squareAt, σ0, liI Q) M_X4_squareAt 7 [some (.ref 6), some (.ref q1), some (.int x2), none, none, none] [] σ
abbrev K_X4_squareAt_42 (d n : Nat) (σ0 : St) (Q : Int32 → St → Prop) (σ : St) (q1 : Nat) (N1 : Nat) (x2 : Int32) : Prop := Ev (d, n, md_X4_squareAt, σ0, liI Q) M_X4_squareAt 42 [some (.ref 6), some (.ref q1), some (.int x2), none, none, none] [] σ
abbrev K_X4_squareAt_127 (d n : Nat) (σ0 : St) (Q : Int32 → St → Prop) (σ : St) (q1 : Nat) (N1 : Nat) (x2 : Int32) (x3 : Int32) : Prop := Ev (d, n, md_X4_squareAt, σ0, liI Q) M_X4_squareAt 127 [some (.ref 6), some (.ref q1), some (.int x2), some (.int x3), none, none] [] σ
abbrev K_X4_squareAt_78 (d n : Nat) (σ0 : St) (Q : Int32 → St → Prop) (σ : St) (q1 : Nat) (N1 : Nat) (x2 : Int32) (x4 : Int32) (x5 : Int32) : Prop := Ev (d, n, md_X4_squareAt, σ0, liI Q) M_X4_squareAt 78 [some (.ref 6), some (.ref q1), some (.int x2), none, some (.int x4), some (.int x5)] [] σ
theorem B_X4_squareAt_7 {d n : Nat} {σ0 : St} {Q : Int32 → St → Prop}  {σ : St} {q1 : Nat} {N1 : Nat} {x2 : Int32} (hn : FIX ≤ n) (hd : 1 ≤ d) (ha_q1 : Ar n q1 20 N1) (h : (((gI σ 1 0) ≤ x2 → K_X4_squareAt_42 d n σ0 Q σ q1 N1 0) ∧ (¬ (gI σ 1 0) ≤ x2 → vp_in x2 10 ∧ vp_in x2 10 ∧ K_X4_squareAt_7 d n σ0 Q (sI σ 25 x2.toNatClampNeg (-(gI σ 12 x2.toNatClampNeg))) q1 N1 (x2 + 1)))) : K_X4_squareAt_7 d n σ0 Q σ q1 N1 x2 := by
  refine e_iload_n dX4_squareAt_7 rfl rfl ?_
  refine e_aload_n dX4_squareAt_8 rfl rfl ?_
  refine e_getR (y := 1) dX4_squareAt_9 fl_X4_28 (ob_6 hn) rfl rfl ?_
  refine e_getI dX4_squareAt_12 fl_X4_68 (ob_1 hn) rfl ?_
  refine e_icmp_ge (tgt := 40) dX4_squareAt_15 (by decide) (fun c1 => ?_) (fun c1 => ?_)
  · replace h := h.1 c1
    refine e_iconst dX4_squareAt_40 ci_0 ?_
    refine e_istore_n dX4_squareAt_41 rfl rfl (by decide) ?_
    exact h
  · replace h := h.2 c1
    refine e_aload_n dX4_squareAt_18 rfl rfl ?_
    refine e_getR (y := 25) dX4_squareAt_19 fl_X4_19 (ob_6 hn) rfl rfl ?_
    refine e_iload_n dX4_squareAt_22 rfl rfl ?_
    refine e_aload_n dX4_squareAt_23 rfl rfl ?_
    refine e_getR (y := 1) dX4_squareAt_24 fl_X4_28 (ob_6 hn) rfl rfl ?_
    refine e_getR (y := 12) dX4_squareAt_27 fl_X4_73 (ob_1 hn) rfl rfl ?_
    refine e_iload_n dX4_squareAt_30 rfl rfl ?_
    refine e_iald dX4_squareAt_31 (ar_12 hn) h.1 ?_
    replace h := h.2
    refine e_ineg dX4_squareAt_32 ?_
    refine e_iast dX4_squareAt_33 (ar_25 hn) h.1 (md_r (m := md_X4_squareAt) (by decide)) ?_
    replace h := h.2
    refine e_iinc dX4_squareAt_34 rfl (ii_1 _) rfl (by decide) ?_
    refine e_goto (tgt := 7) dX4_squareAt_37 (by decide) ?_
    exact h
theorem B_X4_squareAt_42 {d n : Nat} {σ0 : St} {Q : Int32 → St → Prop}  {σ : St} {q1 : Nat} {N1 : Nat} {x2 : Int32} (hn : FIX ≤ n) (hd : 1 ≤ d) (ha_q1 : Ar n q1 20 N1) (h : (((gI σ 3 2) ≤ x2 → K_X4_squareAt_127 d n σ0 Q σ q1 N1 0 0) ∧ (¬ (gI σ 3 2) ≤ x2 → vp_in x2 8 ∧ ∃ pp2, gR σ x2.toNatClampNeg = some pp2 ∧ IsP n pp2 ∧ ∃ Q3 : Int32 → St → Prop, Cn (d - 1) n M_X4_pick md_X4_pick [.ref 6, .ref pp2, .int 0] σ (liI Q3) ∧ ∀ (v6 : Int32) (σ5 : St), Q3 v6 σ5 → Fr md_X4_pick σ σ5 → pre_X5_bundleAt σ5 pp2 v6 ∧ K_X4_squareAt_78 d n σ0 Q σ5 q1 N1 x2 (fn_X5_bundleAt σ5 pp2 v6) 0))) : K_X4_squareAt_42 d n σ0 Q σ q1 N1 x2 := by
  refine e_iload_n dX4_squareAt_42 rfl rfl ?_
  refine e_aload_n dX4_squareAt_43 rfl rfl ?_
  refine e_getR (y := 3) dX4_squareAt_44 fl_X4_32 (ob_6 hn) rfl rfl ?_
  refine e_getI dX4_squareAt_47 fl_X4_76 (ob_3 hn) rfl ?_
  refine e_icmp_ge (tgt := 123) dX4_squareAt_50 (by decide) (fun c1 => ?_) (fun c1 => ?_)
  · replace h := h.1 c1
    refine e_iconst dX4_squareAt_123 ci_0 ?_
    refine e_istore_n dX4_squareAt_124 rfl rfl (by decide) ?_
    refine e_iconst dX4_squareAt_125 ci_0 ?_
    refine e_istore_n dX4_squareAt_126 rfl rfl (by decide) ?_
    exact h
  · replace h := h.2 c1
    refine e_aload_n dX4_squareAt_53 rfl rfl ?_
    refine e_getR (y := 3) dX4_squareAt_54 fl_X4_32 (ob_6 hn) rfl rfl ?_
    refine e_getR (y := 18) dX4_squareAt_57 fl_X4_79 (ob_3 hn) rfl rfl ?_
    refine e_iload_n dX4_squareAt_60 rfl rfl ?_
    obtain ⟨hi, pp2, hg, hp_pp2, h⟩ := h
    refine e_aldP dX4_squareAt_61 hn hi hg ?_
    refine e_astore_n dX4_squareAt_62 rfl rfl (by decide) ?_
    refine e_aload_n dX4_squareAt_63 rfl rfl ?_
    refine e_aload_n dX4_squareAt_64 rfl rfl ?_
    refine e_aload_n dX4_squareAt_65 rfl rfl ?_
    refine e_iconst dX4_squareAt_66 ci_0 ?_
    obtain ⟨Q3, hc4, h⟩ := h
    refine e_callV (M' := M_X4_pick) (as := [.ref pp2, .int 0]) (rest := [.ref pp2]) dX4_squareAt_67 ml_X4_57 mk_X4_pick (ob_6 hn) rfl rfl rfl (Nat.le_of_ble_eq_true rfl) (show 0 < d by omega) hc4 (Md_le (b := md_X4_squareAt) (by decide)) (fun v σ5 hq hf => ?_)
    obtain ⟨v6, rfl, hq⟩ := hq
    replace h := h v6 σ5 hq hf
    refine e_callV (M' := M_X5_bundleAt) (as := [.int v6]) (rest := []) dX4_squareAt_70 ml_X4_48 mk_X5_bundleAt (Ob.p hp_pp2) rfl rfl rfl (Nat.le_of_ble_eq_true rfl) (show 0 < d by omega) (sp_X5_bundleAt hp_pp2 h.1) Md_nil (fun v σv hq hf => ?_)
    obtain ⟨v, rfl, rfl, rfl⟩ := hq
    replace h := h.2
    refine e_istore dX4_squareAt_73 rfl (by decide) ?_
    refine e_iconst dX4_squareAt_75 ci_0 ?_
    refine e_istore dX4_squareAt_76 rfl (by decide) ?_
    refine e_kill [true, true, true, false, true, true] ?_
    exact h
theorem B_X4_squareAt_127 {d n : Nat} {σ0 : St} {Q : Int32 → St → Prop}  {σ : St} {q1 : Nat} {N1 : Nat} {x2 : Int32} {x3 : Int32} (hn : FIX ≤ n) (hd : 1 ≤ d) (ha_q1 : Ar n q1 20 N1) (h : (((gI σ 1 0) ≤ x3 → Q x2 σ) ∧ (¬ (gI σ 1 0) ≤ x3 → vp_in x3 10 ∧ (((0 : Int32) ≤ (gI σ 25 x3.toNatClampNeg) → vp_in x3 10 ∧ vp_in x3 10 ∧ K_X4_squareAt_127 d n σ0 Q σ q1 N1 (x2 + ((gI σ 25 x3.toNatClampNeg) * (gI σ 25 x3.toNatClampNeg))) (x3 + 1)) ∧ (¬ (0 : Int32) ≤ (gI σ 25 x3.toNatClampNeg) → vp_in x3 N1 ∧ (((gI σ q1 x3.toNatClampNeg) ≠ 0 → vp_in x3 10 ∧ vp_in x3 10 ∧ K_X4_squareAt_127 d n σ0 Q σ q1 N1 (x2 + ((gI σ 25 x3.toNatClampNeg) * (gI σ 25 x3.toNatClampNeg))) (x3 + 1)) ∧ ((gI σ q1 x3.toNatClampNeg) = 0 → vp_in x3 10 ∧ vp_in x3 10 ∧ vp_in x3 10 ∧ K_X4_squareAt_127 d n σ0 Q (sI σ 25 x3.toNatClampNeg 0) q1 N1 (x2 + ((gI (sI σ 25 x3.toNatClampNeg 0) 25 x3.toNatClampNeg) * (gI (sI σ 25 x3.toNatClampNeg 0) 25 x3.toNatClampNeg))) (x3 + 1)))))))) : K_X4_squareAt_127 d n σ0 Q σ q1 N1 x2 x3 := by
  refine e_iload_n dX4_squareAt_127 rfl rfl ?_
  refine e_aload_n dX4_squareAt_128 rfl rfl ?_
  refine e_getR (y := 1) dX4_squareAt_129 fl_X4_28 (ob_6 hn) rfl rfl ?_
  refine e_getI dX4_squareAt_132 fl_X4_68 (ob_1 hn) rfl ?_
  refine e_icmp_ge (tgt := 182) dX4_squareAt_135 (by decide) (fun c1 => ?_) (fun c1 => ?_)
  · replace h := h.1 c1
    refine e_iload_n dX4_squareAt_182 rfl rfl ?_
    exact e_iret dX4_squareAt_183 rfl ⟨_, rfl, h⟩
  · replace h := h.2 c1
    refine e_aload_n dX4_squareAt_138 rfl rfl ?_
    refine e_getR (y := 25) dX4_squareAt_139 fl_X4_19 (ob_6 hn) rfl rfl ?_
    refine e_iload_n dX4_squareAt_142 rfl rfl ?_
    refine e_iald dX4_squareAt_143 (ar_25 hn) h.1 ?_
    replace h := h.2
    refine e_if_ge (tgt := 160) dX4_squareAt_144 (by decide) (fun c2 => ?_) (fun c2 => ?_)
    · replace h := h.1 c2
      refine e_iload_n dX4_squareAt_160 rfl rfl ?_
      refine e_aload_n dX4_squareAt_161 rfl rfl ?_
      refine e_getR (y := 25) dX4_squareAt_162 fl_X4_19 (ob_6 hn) rfl rfl ?_
      refine e_iload_n dX4_squareAt_165 rfl rfl ?_
      refine e_iald dX4_squareAt_166 (ar_25 hn) h.1 ?_
      replace h := h.2
      refine e_aload_n dX4_squareAt_167 rfl rfl ?_
      refine e_getR (y := 25) dX4_squareAt_168 fl_X4_19 (ob_6 hn) rfl rfl ?_
      refine e_iload_n dX4_squareAt_171 rfl rfl ?_
      refine e_iald dX4_squareAt_172 (ar_25 hn) h.1 ?_
      replace h := h.2
      refine e_imul dX4_squareAt_173 ?_
      refine e_iadd dX4_squareAt_174 ?_
      refine e_istore_n dX4_squareAt_175 rfl rfl (by decide) ?_
      refine e_iinc dX4_squareAt_176 rfl (ii_1 _) rfl (by decide) ?_
      refine e_goto (tgt := 127) dX4_squareAt_179 (by decide) ?_
      exact h
    · replace h := h.2 c2
      refine e_aload_n dX4_squareAt_147 rfl rfl ?_
      refine e_iload_n dX4_squareAt_148 rfl rfl ?_
      refine e_iald dX4_squareAt_149 ha_q1 h.1 ?_
      replace h := h.2
      refine e_if_ne (tgt := 160) dX4_squareAt_150 (by decide) (fun c3 => ?_) (fun c3 => ?_)
      · replace h := h.1 c3
        refine e_iload_n dX4_squareAt_160 rfl rfl ?_
        refine e_aload_n dX4_squareAt_161 rfl rfl ?_
        refine e_getR (y := 25) dX4_squareAt_162 fl_X4_19 (ob_6 hn) rfl rfl ?_
        refine e_iload_n dX4_squareAt_165 rfl rfl ?_
        refine e_iald dX4_squareAt_166 (ar_25 hn) h.1 ?_
        replace h := h.2
        refine e_aload_n dX4_squareAt_167 rfl rfl ?_
        refine e_getR (y := 25) dX4_squareAt_168 fl_X4_19 (ob_6 hn) rfl rfl ?_
        refine e_iload_n dX4_squareAt_171 rfl rfl ?_
        refine e_iald dX4_squareAt_172 (ar_25 hn) h.1 ?_
        replace h := h.2
        refine e_imul dX4_squareAt_173 ?_
        refine e_iadd dX4_squareAt_174 ?_
        refine e_istore_n dX4_squareAt_175 rfl rfl (by decide) ?_
        refine e_iinc dX4_squareAt_176 rfl (ii_1 _) rfl (by decide) ?_
        refine e_goto (tgt := 127) dX4_squareAt_179 (by decide) ?_
        exact h
      · replace h := h.2 c3
        refine e_aload_n dX4_squareAt_153 rfl rfl ?_
        refine e_getR (y := 25) dX4_squareAt_154 fl_X4_19 (ob_6 hn) rfl rfl ?_
        refine e_iload_n dX4_squareAt_157 rfl rfl ?_
        refine e_iconst dX4_squareAt_158 ci_0 ?_
        refine e_iast dX4_squareAt_159 (ar_25 hn) h.1 (md_r (m := md_X4_squareAt) (by decide)) ?_
        replace h := h.2
        refine e_iload_n dX4_squareAt_160 rfl rfl ?_
        refine e_aload_n dX4_squareAt_161 rfl rfl ?_
        refine e_getR (y := 25) dX4_squareAt_162 fl_X4_19 (ob_6 hn) rfl rfl ?_
        refine e_iload_n dX4_squareAt_165 rfl rfl ?_
        refine e_iald dX4_squareAt_166 (ar_25 hn) h.1 ?_
        replace h := h.2
        refine e_aload_n dX4_squareAt_167 rfl rfl ?_
        refine e_getR (y := 25) dX4_squareAt_168 fl_X4_19 (ob_6 hn) rfl rfl ?_
        refine e_iload_n dX4_squareAt_171 rfl rfl ?_
        refine e_iald dX4_squareAt_172 (ar_25 hn) h.1 ?_
        replace h := h.2
        refine e_imul dX4_squareAt_173 ?_
        refine e_iadd dX4_squareAt_174 ?_
        refine e_istore_n dX4_squareAt_175 rfl rfl (by decide) ?_
        refine e_iinc dX4_squareAt_176 rfl (ii_1 _) rfl (by decide) ?_
        refine e_goto (tgt := 127) dX4_squareAt_179 (by decide) ?_
        exact h
theorem B_X4_squareAt_78 {d n : Nat} {σ0 : St} {Q : Int32 → St → Prop}  {σ : St} {q1 : Nat} {N1 : Nat} {x2 : Int32} {x4 : Int32} {x5 : Int32} (hn : FIX ≤ n) (hd : 1 ≤ d) (ha_q1 : Ar n q1 20 N1) (h : (((gI σ 1 0) ≤ x5 → K_X4_squareAt_42 d n σ0 Q σ q1 N1 (x2 + 1)) ∧ (¬ (gI σ 1 0) ≤ x5 → (((fn_X11_contains x4 x5) = 0 → K_X4_squareAt_78 d n σ0 Q σ q1 N1 x2 x4 (x5 + 1)) ∧ (¬ (fn_X11_contains x4 x5) = 0 → vp_in x5 10 ∧ vp_in x5 10 ∧ K_X4_squareAt_78 d n σ0 Q (sI σ 25 x5.toNatClampNeg ((gI σ 25 x5.toNatClampNeg) + 1)) q1 N1 x2 x4 (x5 + 1)))))) : K_X4_squareAt_78 d n σ0 Q σ q1 N1 x2 x4 x5 := by
  refine e_iload dX4_squareAt_78 rfl ?_
  refine e_aload_n dX4_squareAt_80 rfl rfl ?_
  refine e_getR (y := 1) dX4_squareAt_81 fl_X4_28 (ob_6 hn) rfl rfl ?_
  refine e_getI dX4_squareAt_84 fl_X4_68 (ob_1 hn) rfl ?_
  refine e_icmp_ge (tgt := 117) dX4_squareAt_87 (by decide) (fun c1 => ?_) (fun c1 => ?_)
  · replace h := h.1 c1
    refine e_iinc dX4_squareAt_117 rfl (ii_1 _) rfl (by decide) ?_
    refine e_goto (tgt := 42) dX4_squareAt_120 (by decide) ?_
    refine e_kill [true, true, true, false, false, false] ?_
    exact h
  · replace h := h.2 c1
    refine e_iload dX4_squareAt_90 rfl ?_
    refine e_iload dX4_squareAt_92 rfl ?_
    refine e_callN (M' := M_X11_contains) (as := [.int x4, .int x5]) (rest := []) dX4_squareAt_94 nl_X4_83 mk_X11_contains rfl (Nat.le_of_ble_eq_true rfl) (show 0 < d by omega) (sp_X11_contains) Md_nil (fun v σv hq hf => ?_)
    obtain ⟨v, rfl, rfl, rfl⟩ := hq
    refine e_if_eq (tgt := 111) dX4_squareAt_97 (by decide) (fun c2 => ?_) (fun c2 => ?_)
    · replace h := h.1 c2
      refine e_iinc dX4_squareAt_111 rfl (ii_1 _) rfl (by decide) ?_
      refine e_goto (tgt := 78) dX4_squareAt_114 (by decide) ?_
      exact h
    · replace h := h.2 c2
      refine e_aload_n dX4_squareAt_100 rfl rfl ?_
      refine e_getR (y := 25) dX4_squareAt_101 fl_X4_19 (ob_6 hn) rfl rfl ?_
      refine e_iload dX4_squareAt_104 rfl ?_
      refine e_dup2 dX4_squareAt_106 rfl rfl ?_
      refine e_iald dX4_squareAt_107 (ar_25 hn) h.1 ?_
      replace h := h.2
      refine e_iconst dX4_squareAt_108 ci_1 ?_
      refine e_iadd dX4_squareAt_109 ?_
      refine e_iast dX4_squareAt_110 (ar_25 hn) h.1 (md_r (m := md_X4_squareAt) (by decide)) ?_
      replace h := h.2
      refine e_iinc dX4_squareAt_111 rfl (ii_1 _) rfl (by decide) ?_
      refine e_goto (tgt := 78) dX4_squareAt_114 (by decide) ?_
      exact h
theorem S_X4_squareAt {d n : Nat} {Q : Int32 → St → Prop} {σ : St} {q1 : Nat} {N1 : Nat} (hn : FIX ≤ n) (hd : 1 ≤ d) (ha_q1 : Ar n q1 20 N1) (h : ∃ Q1 : St → Prop, Cn (d - 1) n M_X4_mark md_X4_mark [.ref 6, .ref q1] σ (liV Q1) ∧ ∀ (σ3 : St), Q1 σ3 → Fr md_X4_mark σ σ3 → K_X4_squareAt_7 d n σ Q σ3 q1 N1 0) : Cn d n M_X4_squareAt md_X4_squareAt [.ref 6, .ref q1] σ (liI Q) := by
  refine Cn.of (k0 := 4) (by decide) rfl ?_
  show Ev (d, n, md_X4_squareAt, σ, liI Q) M_X4_squareAt 0 [some (.ref 6), some (.ref q1), none, none, none, none] [] σ
  refine e_aload_n dX4_squareAt_0 rfl rfl ?_
  refine e_aload_n dX4_squareAt_1 rfl rfl ?_
  obtain ⟨Q1, hc2, h⟩ := h
  refine e_callV (M' := M_X4_mark) (as := [.ref q1]) (rest := []) dX4_squareAt_2 ml_X4_64 mk_X4_mark (ob_6 hn) rfl rfl rfl (Nat.le_of_ble_eq_true rfl) (show 0 < d by omega) hc2 (Md_le (b := md_X4_squareAt) (by decide)) (fun v σ3 hq hf => ?_)
  obtain ⟨rfl, hq⟩ := hq
  replace h := h σ3 hq hf
  refine e_iconst dX4_squareAt_5 ci_0 ?_
  refine e_istore_n dX4_squareAt_6 rfl rfl (by decide) ?_
  exact h
theorem S_X5_wishFor {d n : Nat} {Q : St → Prop} {σ : St} {p : Nat} {q1 : Nat} {N1 : Nat} {a2 : Int32} (hd : 1 ≤ d) (hp_p : IsP n p) (ha_q1 : Ar n q1 20 N1) (h : ((¬ (gI (sI σ p 4 (mnI a2 400)) p 4) < 0) ∧ (gI (sI σ p 4 (mnI a2 400)) p 4).toNatClampNeg ≤ N1 ∧ (gI (sI σ p 4 (mnI a2 400)) p 4).toNatClampNeg ≤ 400) ∧ Q (sI (sA (sI σ p 4 (mnI a2 400)) (p + 1) (va_cpy (gI (sI σ p 4 (mnI a2 400)) q1) (gI (sI σ p 4 (mnI a2 400)) (p + 1)) 0 0 (gI (sI σ p 4 (mnI a2 400)) p 4).toNatClampNeg)) p 5 0)) : Cn d n M_X5_wishFor (md_X5_wishFor p) [.ref p, .ref q1, .int a2] σ (liV Q) := by
  refine Cn.of (k0 := 0) (by decide) rfl ?_
  show Ev (d, n, (md_X5_wishFor p), σ, liV Q) M_X5_wishFor 0 [some (.ref p), some (.ref q1), some (.int a2)] [] σ
  refine e_aload_n dX5_wishFor_0 rfl rfl ?_
  refine e_iload_n dX5_wishFor_1 rfl rfl ?_
  refine e_sipush dX5_wishFor_2 cs_400 ?_
  refine e_mmin (st := [.ref p]) dX5_wishFor_5 ml_X5_32 (Nat.le_of_ble_eq_true rfl) (show 0 < d by omega) ?_
  refine e_putI dX5_wishFor_8 fl_X5_38 (Ob.p hp_p) rfl (fpI_5_4 _) (show inMd (md_X5_wishFor p) _ _ from Or.inr (Or.inl (by simp [md_X5_wishFor, mdP]))) ?_
  refine e_aload_n dX5_wishFor_11 rfl rfl ?_
  refine e_iconst dX5_wishFor_12 ci_0 ?_
  refine e_aload_n dX5_wishFor_13 rfl rfl ?_
  refine e_getR (y := p + 1) dX5_wishFor_14 fl_X5_9 (Ob.p hp_p) rfl (rf_p hp_p (by decide)) ?_
  refine e_iconst dX5_wishFor_17 ci_0 ?_
  refine e_aload_n dX5_wishFor_18 rfl rfl ?_
  refine e_getI dX5_wishFor_19 fl_X5_38 (Ob.p hp_p) rfl ?_
  refine e_copy dX5_wishFor_22 ml_X5_41 ha_q1 (Ar.p1 hp_p) h.1.1 h.1.2.1 h.1.2.2 (Nat.le_of_ble_eq_true rfl) (show 0 < d by omega) (fun _ => (show inMd (md_X5_wishFor p) _ _ from Or.inl (by simp [md_X5_wishFor, mdP]))) ?_
  replace h := h.2
  refine e_aload_n dX5_wishFor_25 rfl rfl ?_
  refine e_iconst dX5_wishFor_26 ci_0 ?_
  refine e_putI dX5_wishFor_27 fl_X5_47 (Ob.p hp_p) rfl (fpZ_5_5 (Or.inl rfl)) (show inMd (md_X5_wishFor p) _ _ from Or.inr (Or.inl (by simp [md_X5_wishFor, mdP]))) ?_
  exact e_vret dX5_wishFor_30 rfl ⟨rfl, h⟩
theorem S_X5_standFor {d n : Nat} {Q : St → Prop} {σ : St} {p : Nat} {p1 : Nat} (hp_p : IsP n p) (hp_p1 : IsP n p1) (h : Q (sI (sI (sI σ p 0 (gI σ p1 0)) p 1 (gI (sI σ p 0 (gI σ p1 0)) p1 1)) p 5 0)) : Cn d n M_X5_standFor (md_X5_standFor p) [.ref p, .ref p1] σ (liV Q) := by
  refine Cn.of (k0 := 0) (by decide) rfl ?_
  show Ev (d, n, (md_X5_standFor p), σ, liV Q) M_X5_standFor 0 [some (.ref p), some (.ref p1)] [] σ
  refine e_aload_n dX5_standFor_0 rfl rfl ?_
  refine e_aload_n dX5_standFor_1 rfl rfl ?_
  refine e_getI dX5_standFor_2 fl_X5_25 (Ob.p hp_p1) rfl ?_
  refine e_putI dX5_standFor_5 fl_X5_25 (Ob.p hp_p) rfl (fpI_5_0 _) (show inMd (md_X5_standFor p) _ _ from Or.inr (Or.inl (by simp [md_X5_standFor, mdP]))) ?_
  refine e_aload_n dX5_standFor_8 rfl rfl ?_
  refine e_aload_n dX5_standFor_9 rfl rfl ?_
  refine e_getI dX5_standFor_10 fl_X5_29 (Ob.p hp_p1) rfl ?_
  refine e_putI dX5_standFor_13 fl_X5_29 (Ob.p hp_p) rfl (fpI_5_1 _) (show inMd (md_X5_standFor p) _ _ from Or.inr (Or.inl (by simp [md_X5_standFor, mdP]))) ?_
  refine e_aload_n dX5_standFor_16 rfl rfl ?_
  refine e_iconst dX5_standFor_17 ci_0 ?_
  refine e_putI dX5_standFor_18 fl_X5_47 (Ob.p hp_p) rfl (fpZ_5_5 (Or.inl rfl)) (show inMd (md_X5_standFor p) _ _ from Or.inr (Or.inl (by simp [md_X5_standFor, mdP]))) ?_
  exact e_vret dX5_standFor_21 rfl ⟨rfl, h⟩
abbrev K_X5_hasLawfulWith_2 (d n : Nat) (σ0 : St) (Q : Int32 → St → Prop) (σ : St) (x0 : Nat) (x1 : Int32) (x2 : Int32) : Prop := Ev (d, n, md_X5_hasLawfulWith, σ0, liI Q) M_X5_hasLawfulWith 2 [some (.ref x0), some (.int x1), some (.int x2)] [] σ
theorem B_X5_hasLawfulWith_2 {d n : Nat} {σ0 : St} {Q : Int32 → St → Prop}  {σ : St} {x0 : Nat} {x1 : Int32} {x2 : Int32} (hp_x0 : IsP n x0) (h : (((gI σ x0 8) ≤ x2 → Q 0 σ) ∧ (¬ (gI σ x0 8) ≤ x2 → vp_in x2 1024 ∧ ((((gI σ (x0 + 4) x2.toNatClampNeg) &&& x1) ≠ x1 → K_X5_hasLawfulWith_2 d n σ0 Q σ x0 x1 (x2 + 1)) ∧ (((gI σ (x0 + 4) x2.toNatClampNeg) &&& x1) = x1 → Q 1 σ))))) : K_X5_hasLawfulWith_2 d n σ0 Q σ x0 x1 x2 := by
  refine e_iload_n dX5_hasLawfulWith_2 rfl rfl ?_
  refine e_aload_n dX5_hasLawfulWith_3 rfl rfl ?_
  refine e_getI dX5_hasLawfulWith_4 fl_X5_51 (Ob.p hp_x0) rfl ?_
  refine e_icmp_ge (tgt := 30) dX5_hasLawfulWith_7 (by decide) (fun c1 => ?_) (fun c1 => ?_)
  · replace h := h.1 c1
    refine e_iconst dX5_hasLawfulWith_30 ci_0 ?_
    exact e_zret dX5_hasLawfulWith_31 rfl (nar_z (Or.inl rfl)) ⟨_, rfl, h⟩
  · replace h := h.2 c1
    refine e_aload_n dX5_hasLawfulWith_10 rfl rfl ?_
    refine e_getR (y := x0 + 4) dX5_hasLawfulWith_11 fl_X5_22 (Ob.p hp_x0) rfl (rf_p hp_x0 (by decide)) ?_
    refine e_iload_n dX5_hasLawfulWith_14 rfl rfl ?_
    refine e_iald dX5_hasLawfulWith_15 (Ar.p4 hp_x0) h.1 ?_
    replace h := h.2
    refine e_iload_n dX5_hasLawfulWith_16 rfl rfl ?_
    refine e_iand dX5_hasLawfulWith_17 ?_
    refine e_iload_n dX5_hasLawfulWith_18 rfl rfl ?_
    refine e_icmp_ne (tgt := 24) dX5_hasLawfulWith_19 (by decide) (fun c2 => ?_) (fun c2 => ?_)
    · replace h := h.1 c2
      refine e_iinc dX5_hasLawfulWith_24 rfl (ii_1 _) rfl (by decide) ?_
      refine e_goto (tgt := 2) dX5_hasLawfulWith_27 (by decide) ?_
      exact h
    · replace h := h.2 c2
      refine e_iconst dX5_hasLawfulWith_22 ci_1 ?_
      exact e_zret dX5_hasLawfulWith_23 rfl (nar_z (Or.inr rfl)) ⟨_, rfl, h⟩
theorem S_X5_hasLawfulWith {d n : Nat} {Q : Int32 → St → Prop} {σ : St} {p : Nat} {a1 : Int32} (hp_p : IsP n p) (h : K_X5_hasLawfulWith_2 d n σ Q σ p a1 0) : Cn d n M_X5_hasLawfulWith md_X5_hasLawfulWith [.ref p, .int a1] σ (liI Q) := by
  refine Cn.of (k0 := 1) (by decide) rfl ?_
  show Ev (d, n, md_X5_hasLawfulWith, σ, liI Q) M_X5_hasLawfulWith 0 [some (.ref p), some (.int a1), none] [] σ
  refine e_iconst dX5_hasLawfulWith_0 ci_0 ?_
  refine e_istore_n dX5_hasLawfulWith_1 rfl rfl (by decide) ?_
  exact h
abbrev K_X6_addLesson_47 (d n : Nat) (σ0 : St) (Q : Int32 → St → Prop) (σ : St) (x1 : Int32) (x2 : Int32) (x3 : Int32) (x4 : Int32) : Prop := Ev (d, n, md_X6_addLesson, σ0, liI Q) M_X6_addLesson 47 [some (.ref 1), some (.int x1), some (.int x2), some (.int x3), some (.int x4)] [] σ
theorem B_X6_addLesson_47 {d n : Nat} {σ0 : St} {Q : Int32 → St → Prop}  {σ : St} {x1 : Int32} {x2 : Int32} {x3 : Int32} {x4 : Int32} (hn : FIX ≤ n) (h : (((gI σ 1 0) ≤ x4 → vp_in (gI σ 1 0) 10 ∧ vp_in (gI (sI σ 12 (gI σ 1 0).toNatClampNeg x1) 1 0) 10 ∧ vp_in (gI (sI (sI σ 12 (gI σ 1 0).toNatClampNeg x1) 13 (gI (sI σ 12 (gI σ 1 0).toNatClampNeg x1) 1 0).toNatClampNeg x2) 1 0) 10 ∧ Q ((gI (sI (sI (sI (sI σ 12 (gI σ 1 0).toNatClampNeg x1) 13 (gI (sI σ 12 (gI σ 1 0).toNatClampNeg x1) 1 0).toNatClampNeg x2) 14 (gI (sI (sI σ 12 (gI σ 1 0).toNatClampNeg x1) 13 (gI (sI σ 12 (gI σ 1 0).toNatClampNeg x1) 1 0).toNatClampNeg x2) 1 0).toNatClampNeg x3) 1 0 ((gI (sI (sI (sI σ 12 (gI σ 1 0).toNatClampNeg x1) 13 (gI (sI σ 12 (gI σ 1 0).toNatClampNeg x1) 1 0).toNatClampNeg x2) 14 (gI (sI (sI σ 12 (gI σ 1 0).toNatClampNeg x1) 13 (gI (sI σ 12 (gI σ 1 0).toNatClampNeg x1) 1 0).toNatClampNeg x2) 1 0).toNatClampNeg x3) 1 0) + 1)) 1 0) - 1) (sI (sI (sI (sI σ 12 (gI σ 1 0).toNatClampNeg x1) 13 (gI (sI σ 12 (gI σ 1 0).toNatClampNeg x1) 1 0).toNatClampNeg x2) 14 (gI (sI (sI σ 12 (gI σ 1 0).toNatClampNeg x1) 13 (gI (sI σ 12 (gI σ 1 0).toNatClampNeg x1) 1 0).toNatClampNeg x2) 1 0).toNatClampNeg x3) 1 0 ((gI (sI (sI (sI σ 12 (gI σ 1 0).toNatClampNeg x1) 13 (gI (sI σ 12 (gI σ 1 0).toNatClampNeg x1) 1 0).toNatClampNeg x2) 14 (gI (sI (sI σ 12 (gI σ 1 0).toNatClampNeg x1) 13 (gI (sI σ 12 (gI σ 1 0).toNatClampNeg x1) 1 0).toNatClampNeg x2) 1 0).toNatClampNeg x3) 1 0) + 1))) ∧ (¬ (gI σ 1 0) ≤ x4 → vp_in x4 10 ∧ (((gI σ 14 x4.toNatClampNeg) ≤ x2 → K_X6_addLesson_47 d n σ0 Q σ x1 x2 x3 (x4 + 1)) ∧ (¬ (gI σ 14 x4.toNatClampNeg) ≤ x2 → vp_in x4 10 ∧ ((x3 ≤ (gI σ 13 x4.toNatClampNeg) → K_X6_addLesson_47 d n σ0 Q σ x1 x2 x3 (x4 + 1)) ∧ (¬ x3 ≤ (gI σ 13 x4.toNatClampNeg) → vp_in x4 10 ∧ vp_in x4 10 ∧ vp_in (gI (sI σ 15 x4.toNatClampNeg ((gI σ 15 x4.toNatClampNeg) ||| ((1 : Int32) <<< ((gI σ 1 0) &&& 31)))) 1 0) 10 ∧ vp_in (gI (sI σ 15 x4.toNatClampNeg ((gI σ 15 x4.toNatClampNeg) ||| ((1 : Int32) <<< ((gI σ 1 0) &&& 31)))) 1 0) 10 ∧ K_X6_addLesson_47 d n σ0 Q (sI (sI σ 15 x4.toNatClampNeg ((gI σ 15 x4.toNatClampNeg) ||| ((1 : Int32) <<< ((gI σ 1 0) &&& 31)))) 15 (gI (sI σ 15 x4.toNatClampNeg ((gI σ 15 x4.toNatClampNeg) ||| ((1 : Int32) <<< ((gI σ 1 0) &&& 31)))) 1 0).toNatClampNeg ((gI (sI σ 15 x4.toNatClampNeg ((gI σ 15 x4.toNatClampNeg) ||| ((1 : Int32) <<< ((gI σ 1 0) &&& 31)))) 15 (gI (sI σ 15 x4.toNatClampNeg ((gI σ 15 x4.toNatClampNeg) ||| ((1 : Int32) <<< ((gI σ 1 0) &&& 31)))) 1 0).toNatClampNeg) ||| ((1 : Int32) <<< (x4 &&& 31)))) x1 x2 x3 (x4 + 1)))))))) : K_X6_addLesson_47 d n σ0 Q σ x1 x2 x3 x4 := by
  refine e_iload dX6_addLesson_47 rfl ?_
  refine e_aload_n dX6_addLesson_49 rfl rfl ?_
  refine e_getI dX6_addLesson_50 fl_X6_31 (ob_1 hn) rfl ?_
  refine e_icmp_ge (tgt := 116) dX6_addLesson_53 (by decide) (fun c1 => ?_) (fun c1 => ?_)
  · replace h := h.1 c1
    refine e_aload_n dX6_addLesson_116 rfl rfl ?_
    refine e_getR (y := 12) dX6_addLesson_117 fl_X6_15 (ob_1 hn) rfl rfl ?_
    refine e_aload_n dX6_addLesson_120 rfl rfl ?_
    refine e_getI dX6_addLesson_121 fl_X6_31 (ob_1 hn) rfl ?_
    refine e_iload_n dX6_addLesson_124 rfl rfl ?_
    refine e_iast dX6_addLesson_125 (ar_12 hn) h.1 (md_r (m := md_X6_addLesson) (by decide)) ?_
    replace h := h.2
    refine e_aload_n dX6_addLesson_126 rfl rfl ?_
    refine e_getR (y := 13) dX6_addLesson_127 fl_X6_19 (ob_1 hn) rfl rfl ?_
    refine e_aload_n dX6_addLesson_130 rfl rfl ?_
    refine e_getI dX6_addLesson_131 fl_X6_31 (ob_1 hn) rfl ?_
    refine e_iload_n dX6_addLesson_134 rfl rfl ?_
    refine e_iast dX6_addLesson_135 (ar_13 hn) h.1 (md_r (m := md_X6_addLesson) (by decide)) ?_
    replace h := h.2
    refine e_aload_n dX6_addLesson_136 rfl rfl ?_
    refine e_getR (y := 14) dX6_addLesson_137 fl_X6_22 (ob_1 hn) rfl rfl ?_
    refine e_aload_n dX6_addLesson_140 rfl rfl ?_
    refine e_getI dX6_addLesson_141 fl_X6_31 (ob_1 hn) rfl ?_
    refine e_iload_n dX6_addLesson_144 rfl rfl ?_
    refine e_iast dX6_addLesson_145 (ar_14 hn) h.1 (md_r (m := md_X6_addLesson) (by decide)) ?_
    replace h := h.2
    refine e_aload_n dX6_addLesson_146 rfl rfl ?_
    refine e_dup dX6_addLesson_147 rfl ?_
    refine e_getI dX6_addLesson_148 fl_X6_31 (ob_1 hn) rfl ?_
    refine e_iconst dX6_addLesson_151 ci_1 ?_
    refine e_iadd dX6_addLesson_152 ?_
    refine e_putI dX6_addLesson_153 fl_X6_31 (ob_1 hn) rfl (fpI_6_0 _) (md_c (m := md_X6_addLesson) (by decide)) ?_
    refine e_aload_n dX6_addLesson_156 rfl rfl ?_
    refine e_getI dX6_addLesson_157 fl_X6_31 (ob_1 hn) rfl ?_
    refine e_iconst dX6_addLesson_160 ci_1 ?_
    refine e_isub dX6_addLesson_161 ?_
    exact e_iret dX6_addLesson_162 rfl ⟨_, rfl, h⟩
  · replace h := h.2 c1
    refine e_iload_n dX6_addLesson_56 rfl rfl ?_
    refine e_aload_n dX6_addLesson_57 rfl rfl ?_
    refine e_getR (y := 14) dX6_addLesson_58 fl_X6_22 (ob_1 hn) rfl rfl ?_
    refine e_iload dX6_addLesson_61 rfl ?_
    refine e_iald dX6_addLesson_63 (ar_14 hn) h.1 ?_
    replace h := h.2
    refine e_icmp_ge (tgt := 110) dX6_addLesson_64 (by decide) (fun c2 => ?_) (fun c2 => ?_)
    · replace h := h.1 c2
      refine e_iinc dX6_addLesson_110 rfl (ii_1 _) rfl (by decide) ?_
      refine e_goto (tgt := 47) dX6_addLesson_113 (by decide) ?_
      exact h
    · replace h := h.2 c2
      refine e_aload_n dX6_addLesson_67 rfl rfl ?_
      refine e_getR (y := 13) dX6_addLesson_68 fl_X6_19 (ob_1 hn) rfl rfl ?_
      refine e_iload dX6_addLesson_71 rfl ?_
      refine e_iald dX6_addLesson_73 (ar_13 hn) h.1 ?_
      replace h := h.2
      refine e_iload_n dX6_addLesson_74 rfl rfl ?_
      refine e_icmp_ge (tgt := 110) dX6_addLesson_75 (by decide) (fun c3 => ?_) (fun c3 => ?_)
      · replace h := h.1 c3
        refine e_iinc dX6_addLesson_110 rfl (ii_1 _) rfl (by decide) ?_
        refine e_goto (tgt := 47) dX6_addLesson_113 (by decide) ?_
        exact h
      · replace h := h.2 c3
        refine e_aload_n dX6_addLesson_78 rfl rfl ?_
        refine e_getR (y := 15) dX6_addLesson_79 fl_X6_25 (ob_1 hn) rfl rfl ?_
        refine e_iload dX6_addLesson_82 rfl ?_
        refine e_dup2 dX6_addLesson_84 rfl rfl ?_
        refine e_iald dX6_addLesson_85 (ar_15 hn) h.1 ?_
        replace h := h.2
        refine e_iconst dX6_addLesson_86 ci_1 ?_
        refine e_aload_n dX6_addLesson_87 rfl rfl ?_
        refine e_getI dX6_addLesson_88 fl_X6_31 (ob_1 hn) rfl ?_
        refine e_ishl dX6_addLesson_91 ?_
        refine e_ior dX6_addLesson_92 ?_
        refine e_iast dX6_addLesson_93 (ar_15 hn) h.1 (md_r (m := md_X6_addLesson) (by decide)) ?_
        replace h := h.2
        refine e_aload_n dX6_addLesson_94 rfl rfl ?_
        refine e_getR (y := 15) dX6_addLesson_95 fl_X6_25 (ob_1 hn) rfl rfl ?_
        refine e_aload_n dX6_addLesson_98 rfl rfl ?_
        refine e_getI dX6_addLesson_99 fl_X6_31 (ob_1 hn) rfl ?_
        refine e_dup2 dX6_addLesson_102 rfl rfl ?_
        refine e_iald dX6_addLesson_103 (ar_15 hn) h.1 ?_
        replace h := h.2
        refine e_iconst dX6_addLesson_104 ci_1 ?_
        refine e_iload dX6_addLesson_105 rfl ?_
        refine e_ishl dX6_addLesson_107 ?_
        refine e_ior dX6_addLesson_108 ?_
        refine e_iast dX6_addLesson_109 (ar_15 hn) h.1 (md_r (m := md_X6_addLesson) (by decide)) ?_
        replace h := h.2
        refine e_iinc dX6_addLesson_110 rfl (ii_1 _) rfl (by decide) ?_
        refine e_goto (tgt := 47) dX6_addLesson_113 (by decide) ?_
        exact h
theorem S_X6_addLesson {d n : Nat} {Q : Int32 → St → Prop} {σ : St} {a1 : Int32} {a2 : Int32} {a3 : Int32} (hn : FIX ≤ n) (h : (((10 : Int32) ≤ (gI σ 1 0) → Q (-1) σ) ∧ (¬ (10 : Int32) ≤ (gI σ 1 0) → ((a1 < 0 → Q (-1) σ) ∧ (¬ a1 < 0 → ((a1 ≤ 9 → ((a2 < 0 → Q (-1) σ) ∧ (¬ a2 < 0 → (((39 : Int32) < a2 → Q (-1) σ) ∧ (¬ (39 : Int32) < a2 → ((a3 ≤ a2 → Q (-1) σ) ∧ (¬ a3 ≤ a2 → ((a3 ≤ 40 → K_X6_addLesson_47 d n σ Q σ a1 a2 a3 0) ∧ (¬ a3 ≤ 40 → Q (-1) σ))))))))) ∧ (¬ a1 ≤ 9 → Q (-1) σ))))))) : Cn d n M_X6_addLesson md_X6_addLesson [.ref 1, .int a1, .int a2, .int a3] σ (liI Q) := by
  refine Cn.of (k0 := 1) (by decide) rfl ?_
  show Ev (d, n, md_X6_addLesson, σ, liI Q) M_X6_addLesson 0 [some (.ref 1), some (.int a1), some (.int a2), some (.int a3), none] [] σ
  refine e_aload_n dX6_addLesson_0 rfl rfl ?_
  refine e_getI dX6_addLesson_1 fl_X6_31 (ob_1 hn) rfl ?_
  refine e_bipush dX6_addLesson_4 cb_10 ?_
  refine e_icmp_ge (tgt := 19) dX6_addLesson_6 (by decide) (fun c1 => ?_) (fun c1 => ?_)
  · replace h := h.1 c1
    refine e_iconst dX6_addLesson_19 ci_m1 ?_
    exact e_iret dX6_addLesson_20 rfl ⟨_, rfl, h⟩
  · replace h := h.2 c1
    refine e_iload_n dX6_addLesson_9 rfl rfl ?_
    refine e_if_lt (tgt := 19) dX6_addLesson_10 (by decide) (fun c2 => ?_) (fun c2 => ?_)
    · replace h := h.1 c2
      refine e_iconst dX6_addLesson_19 ci_m1 ?_
      exact e_iret dX6_addLesson_20 rfl ⟨_, rfl, h⟩
    · replace h := h.2 c2
      refine e_iload_n dX6_addLesson_13 rfl rfl ?_
      refine e_bipush dX6_addLesson_14 cb_9 ?_
      refine e_icmp_le (tgt := 21) dX6_addLesson_16 (by decide) (fun c3 => ?_) (fun c3 => ?_)
      · replace h := h.1 c3
        refine e_iload_n dX6_addLesson_21 rfl rfl ?_
        refine e_if_lt (tgt := 42) dX6_addLesson_22 (by decide) (fun c4 => ?_) (fun c4 => ?_)
        · replace h := h.1 c4
          refine e_iconst dX6_addLesson_42 ci_m1 ?_
          exact e_iret dX6_addLesson_43 rfl ⟨_, rfl, h⟩
        · replace h := h.2 c4
          refine e_iload_n dX6_addLesson_25 rfl rfl ?_
          refine e_bipush dX6_addLesson_26 cb_39 ?_
          refine e_icmp_gt (tgt := 42) dX6_addLesson_28 (by decide) (fun c5 => ?_) (fun c5 => ?_)
          · replace h := h.1 c5
            refine e_iconst dX6_addLesson_42 ci_m1 ?_
            exact e_iret dX6_addLesson_43 rfl ⟨_, rfl, h⟩
          · replace h := h.2 c5
            refine e_iload_n dX6_addLesson_31 rfl rfl ?_
            refine e_iload_n dX6_addLesson_32 rfl rfl ?_
            refine e_icmp_le (tgt := 42) dX6_addLesson_33 (by decide) (fun c6 => ?_) (fun c6 => ?_)
            · replace h := h.1 c6
              refine e_iconst dX6_addLesson_42 ci_m1 ?_
              exact e_iret dX6_addLesson_43 rfl ⟨_, rfl, h⟩
            · replace h := h.2 c6
              refine e_iload_n dX6_addLesson_36 rfl rfl ?_
              refine e_bipush dX6_addLesson_37 cb_40 ?_
              refine e_icmp_le (tgt := 44) dX6_addLesson_39 (by decide) (fun c7 => ?_) (fun c7 => ?_)
              · replace h := h.1 c7
                refine e_iconst dX6_addLesson_44 ci_0 ?_
                refine e_istore dX6_addLesson_45 rfl (by decide) ?_
                exact h
              · replace h := h.2 c7
                refine e_iconst dX6_addLesson_42 ci_m1 ?_
                exact e_iret dX6_addLesson_43 rfl ⟨_, rfl, h⟩
      · replace h := h.2 c3
        refine e_iconst dX6_addLesson_19 ci_m1 ?_
        exact e_iret dX6_addLesson_20 rfl ⟨_, rfl, h⟩
theorem S_X6_addCouple {d n : Nat} {Q : Int32 → St → Prop} {σ : St} {a1 : Int32} {a2 : Int32} (hn : FIX ≤ n) (hd : 1 ≤ d) (h : (((fn_X6_isLesson σ a1) = 0 → Q (-1) σ) ∧ (¬ (fn_X6_isLesson σ a1) = 0 → (((fn_X6_isLesson σ a2) = 0 → Q (-1) σ) ∧ (¬ (fn_X6_isLesson σ a2) = 0 → ((a1 ≠ a2 → (((20 : Int32) ≤ (gI σ 1 2) → Q (-1) σ) ∧ (¬ (20 : Int32) ≤ (gI σ 1 2) → vp_in a1 10 ∧ (((fn_X11_contains (gI σ 16 a1.toNatClampNeg) a2) = 0 → vp_in a1 10 ∧ vp_in a1 10 ∧ Q (gI (sI (sI σ 16 a1.toNatClampNeg ((gI σ 16 a1.toNatClampNeg) ||| ((1 : Int32) <<< (a2 &&& 31)))) 1 2 ((gI (sI σ 16 a1.toNatClampNeg ((gI σ 16 a1.toNatClampNeg) ||| ((1 : Int32) <<< (a2 &&& 31)))) 1 2) + 1)) 1 2) (sI (sI σ 16 a1.toNatClampNeg ((gI σ 16 a1.toNatClampNeg) ||| ((1 : Int32) <<< (a2 &&& 31)))) 1 2 ((gI (sI σ 16 a1.toNatClampNeg ((gI σ 16 a1.toNatClampNeg) ||| ((1 : Int32) <<< (a2 &&& 31)))) 1 2) + 1))) ∧ (¬ (fn_X11_contains (gI σ 16 a1.toNatClampNeg) a2) = 0 → Q (-1) σ))))) ∧ (a1 = a2 → Q (-1) σ))))))) : Cn d n M_X6_addCouple md_X6_addCouple [.ref 1, .int a1, .int a2] σ (liI Q) := by
  refine Cn.of (k0 := 0) (by decide) rfl ?_
  show Ev (d, n, md_X6_addCouple, σ, liI Q) M_X6_addCouple 0 [some (.ref 1), some (.int a1), some (.int a2)] [] σ
  refine e_aload_n dX6_addCouple_0 rfl rfl ?_
  refine e_iload_n dX6_addCouple_1 rfl rfl ?_
  refine e_callV (M' := M_X6_isLesson) (as := [.int a1]) (rest := []) dX6_addCouple_2 ml_X6_34 mk_X6_isLesson (ob_1 hn) rfl rfl rfl (Nat.le_of_ble_eq_true rfl) (show 0 < d by omega) (sp_X6_isLesson hn) Md_nil (fun v σv hq hf => ?_)
  obtain ⟨v, rfl, rfl, rfl⟩ := hq
  refine e_if_eq (tgt := 21) dX6_addCouple_5 (by decide) (fun c1 => ?_) (fun c1 => ?_)
  · replace h := h.1 c1
    refine e_iconst dX6_addCouple_21 ci_m1 ?_
    exact e_iret dX6_addCouple_22 rfl ⟨_, rfl, h⟩
  · replace h := h.2 c1
    refine e_aload_n dX6_addCouple_8 rfl rfl ?_
    refine e_iload_n dX6_addCouple_9 rfl rfl ?_
    refine e_callV (M' := M_X6_isLesson) (as := [.int a2]) (rest := []) dX6_addCouple_10 ml_X6_34 mk_X6_isLesson (ob_1 hn) rfl rfl rfl (Nat.le_of_ble_eq_true rfl) (show 0 < d by omega) (sp_X6_isLesson hn) Md_nil (fun v σv hq hf => ?_)
    obtain ⟨v, rfl, rfl, rfl⟩ := hq
    refine e_if_eq (tgt := 21) dX6_addCouple_13 (by decide) (fun c2 => ?_) (fun c2 => ?_)
    · replace h := h.1 c2
      refine e_iconst dX6_addCouple_21 ci_m1 ?_
      exact e_iret dX6_addCouple_22 rfl ⟨_, rfl, h⟩
    · replace h := h.2 c2
      refine e_iload_n dX6_addCouple_16 rfl rfl ?_
      refine e_iload_n dX6_addCouple_17 rfl rfl ?_
      refine e_icmp_ne (tgt := 23) dX6_addCouple_18 (by decide) (fun c3 => ?_) (fun c3 => ?_)
      · replace h := h.1 c3
        refine e_aload_n dX6_addCouple_23 rfl rfl ?_
        refine e_getI dX6_addCouple_24 fl_X6_38 (ob_1 hn) rfl ?_
        refine e_bipush dX6_addCouple_27 cb_20 ?_
        refine e_icmp_ge (tgt := 45) dX6_addCouple_29 (by decide) (fun c4 => ?_) (fun c4 => ?_)
        · replace h := h.1 c4
          refine e_iconst dX6_addCouple_45 ci_m1 ?_
          exact e_iret dX6_addCouple_46 rfl ⟨_, rfl, h⟩
        · replace h := h.2 c4
          refine e_aload_n dX6_addCouple_32 rfl rfl ?_
          refine e_getR (y := 16) dX6_addCouple_33 fl_X6_28 (ob_1 hn) rfl rfl ?_
          refine e_iload_n dX6_addCouple_36 rfl rfl ?_
          refine e_iald dX6_addCouple_37 (ar_16 hn) h.1 ?_
          replace h := h.2
          refine e_iload_n dX6_addCouple_38 rfl rfl ?_
          refine e_callN (M' := M_X11_contains) (as := [.int (gI σ 16 a1.toNatClampNeg), .int a2]) (rest := []) dX6_addCouple_39 nl_X6_41 mk_X11_contains rfl (Nat.le_of_ble_eq_true rfl) (show 0 < d by omega) (sp_X11_contains) Md_nil (fun v σv hq hf => ?_)
          obtain ⟨v, rfl, rfl, rfl⟩ := hq
          refine e_if_eq (tgt := 47) dX6_addCouple_42 (by decide) (fun c5 => ?_) (fun c5 => ?_)
          · replace h := h.1 c5
            refine e_aload_n dX6_addCouple_47 rfl rfl ?_
            refine e_getR (y := 16) dX6_addCouple_48 fl_X6_28 (ob_1 hn) rfl rfl ?_
            refine e_iload_n dX6_addCouple_51 rfl rfl ?_
            refine e_dup2 dX6_addCouple_52 rfl rfl ?_
            refine e_iald dX6_addCouple_53 (ar_16 hn) h.1 ?_
            replace h := h.2
            refine e_iconst dX6_addCouple_54 ci_1 ?_
            refine e_iload_n dX6_addCouple_55 rfl rfl ?_
            refine e_ishl dX6_addCouple_56 ?_
            refine e_ior dX6_addCouple_57 ?_
            refine e_iast dX6_addCouple_58 (ar_16 hn) h.1 (md_r (m := md_X6_addCouple) (by decide)) ?_
            replace h := h.2
            refine e_aload_n dX6_addCouple_59 rfl rfl ?_
            refine e_dup dX6_addCouple_60 rfl ?_
            refine e_getI dX6_addCouple_61 fl_X6_38 (ob_1 hn) rfl ?_
            refine e_iconst dX6_addCouple_64 ci_1 ?_
            refine e_iadd dX6_addCouple_65 ?_
            refine e_putI dX6_addCouple_66 fl_X6_38 (ob_1 hn) rfl (fpI_6_2 _) (md_c (m := md_X6_addCouple) (by decide)) ?_
            refine e_aload_n dX6_addCouple_69 rfl rfl ?_
            refine e_getI dX6_addCouple_70 fl_X6_38 (ob_1 hn) rfl ?_
            exact e_iret dX6_addCouple_73 rfl ⟨_, rfl, h⟩
          · replace h := h.2 c5
            refine e_iconst dX6_addCouple_45 ci_m1 ?_
            exact e_iret dX6_addCouple_46 rfl ⟨_, rfl, h⟩
      · replace h := h.2 c3
        refine e_iconst dX6_addCouple_21 ci_m1 ?_
        exact e_iret dX6_addCouple_22 rfl ⟨_, rfl, h⟩
theorem S_X7_failed {d n : Nat} {Q : Int32 → St → Prop} {σ : St}  (hn : FIX ≤ n) (h : vp_in (gI σ 5 1) 401 ∧ Q (-1) (sI σ 5 4 (gI σ 21 (gI σ 5 1).toNatClampNeg))) : Cn d n M_X7_failed md_X7_failed [.ref 5] σ (liI Q) := by
  refine Cn.of (k0 := 0) (by decide) rfl ?_
  show Ev (d, n, md_X7_failed, σ, liI Q) M_X7_failed 0 [some (.ref 5)] [] σ
  refine e_aload_n dX7_failed_0 rfl rfl ?_
  refine e_aload_n dX7_failed_1 rfl rfl ?_
  refine e_getR (y := 4) dX7_failed_2 fl_X7_19 (ob_5 hn) rfl rfl ?_
  refine e_getR (y := 21) dX7_failed_5 fl_X7_46 (ob_4 hn) rfl rfl ?_
  refine e_aload_n dX7_failed_8 rfl rfl ?_
  refine e_getI dX7_failed_9 fl_X7_29 (ob_5 hn) rfl ?_
  refine e_iald dX7_failed_12 (ar_21 hn) h.1 ?_
  replace h := h.2
  refine e_putI dX7_failed_13 fl_X7_15 (ob_5 hn) rfl (fpI_7_4 _) (md_c (m := md_X7_failed) (by decide)) ?_
  refine e_iconst dX7_failed_16 ci_m1 ?_
  exact e_iret dX7_failed_17 rfl ⟨_, rfl, h⟩
theorem S_X7_emit {d n : Nat} {Q : St → Prop} {σ : St} {a1 : Int32} (hn : FIX ≤ n) (h : (((gI σ 5 3) < 400 → vp_in (gI σ 5 3) 400 ∧ Q (sI (sI σ 23 (gI σ 5 3).toNatClampNeg a1) 5 3 ((gI (sI σ 23 (gI σ 5 3).toNatClampNeg a1) 5 3) + 1))) ∧ (¬ (gI σ 5 3) < 400 → Q σ))) : Cn d n M_X7_emit md_X7_emit [.ref 5, .int a1] σ (liV Q) := by
  refine Cn.of (k0 := 0) (by decide) rfl ?_
  show Ev (d, n, md_X7_emit, σ, liV Q) M_X7_emit 0 [some (.ref 5), some (.int a1)] [] σ
  refine e_aload_n dX7_emit_0 rfl rfl ?_
  refine e_getI dX7_emit_1 fl_X7_32 (ob_5 hn) rfl ?_
  refine e_sipush dX7_emit_4 cs_400 ?_
  refine e_icmp_lt (tgt := 11) dX7_emit_7 (by decide) (fun c1 => ?_) (fun c1 => ?_)
  · replace h := h.1 c1
    refine e_aload_n dX7_emit_11 rfl rfl ?_
    refine e_getR (y := 23) dX7_emit_12 fl_X7_9 (ob_5 hn) rfl rfl ?_
    refine e_aload_n dX7_emit_15 rfl rfl ?_
    refine e_getI dX7_emit_16 fl_X7_32 (ob_5 hn) rfl ?_
    refine e_iload_n dX7_emit_19 rfl rfl ?_
    refine e_iast dX7_emit_20 (ar_23 hn) h.1 (md_r (m := md_X7_emit) (by decide)) ?_
    replace h := h.2
    refine e_aload_n dX7_emit_21 rfl rfl ?_
    refine e_dup dX7_emit_22 rfl ?_
    refine e_getI dX7_emit_23 fl_X7_32 (ob_5 hn) rfl ?_
    refine e_iconst dX7_emit_26 ci_1 ?_
    refine e_iadd dX7_emit_27 ?_
    refine e_putI dX7_emit_28 fl_X7_32 (ob_5 hn) rfl (fpI_7_3 _) (md_c (m := md_X7_emit) (by decide)) ?_
    exact e_vret dX7_emit_31 rfl ⟨rfl, h⟩
  · replace h := h.2 c1
    exact e_vret dX7_emit_10 rfl ⟨rfl, h⟩
theorem S_X7_take {d n : Nat} {Q : Int32 → St → Prop} {σ : St} {a1 : Int32} (hn : FIX ≤ n) (h : vp_in (gI σ 5 1) 401 ∧ (((gI σ 20 (gI σ 5 1).toNatClampNeg) ≠ a1 → Q 0 σ) ∧ ((gI σ 20 (gI σ 5 1).toNatClampNeg) = a1 → (((gI σ 5 1) < 400 → Q 1 (sI σ 5 1 ((gI σ 5 1) + 1))) ∧ (¬ (gI σ 5 1) < 400 → Q 0 σ))))) : Cn d n M_X7_take md_X7_take [.ref 5, .int a1] σ (liI Q) := by
  refine Cn.of (k0 := 0) (by decide) rfl ?_
  show Ev (d, n, md_X7_take, σ, liI Q) M_X7_take 0 [some (.ref 5), some (.int a1)] [] σ
  refine e_aload_n dX7_take_0 rfl rfl ?_
  refine e_getR (y := 4) dX7_take_1 fl_X7_19 (ob_5 hn) rfl rfl ?_
  refine e_getR (y := 20) dX7_take_4 fl_X7_49 (ob_4 hn) rfl rfl ?_
  refine e_aload_n dX7_take_7 rfl rfl ?_
  refine e_getI dX7_take_8 fl_X7_29 (ob_5 hn) rfl ?_
  refine e_iald dX7_take_11 (ar_20 hn) h.1 ?_
  replace h := h.2
  refine e_iload_n dX7_take_12 rfl rfl ?_
  refine e_icmp_ne (tgt := 26) dX7_take_13 (by decide) (fun c1 => ?_) (fun c1 => ?_)
  · replace h := h.1 c1
    refine e_iconst dX7_take_26 ci_0 ?_
    exact e_zret dX7_take_27 rfl (nar_z (Or.inl rfl)) ⟨_, rfl, h⟩
  · replace h := h.2 c1
    refine e_aload_n dX7_take_16 rfl rfl ?_
    refine e_getI dX7_take_17 fl_X7_29 (ob_5 hn) rfl ?_
    refine e_sipush dX7_take_20 cs_400 ?_
    refine e_icmp_lt (tgt := 28) dX7_take_23 (by decide) (fun c2 => ?_) (fun c2 => ?_)
    · replace h := h.1 c2
      refine e_aload_n dX7_take_28 rfl rfl ?_
      refine e_dup dX7_take_29 rfl ?_
      refine e_getI dX7_take_30 fl_X7_29 (ob_5 hn) rfl ?_
      refine e_iconst dX7_take_33 ci_1 ?_
      refine e_iadd dX7_take_34 ?_
      refine e_putI dX7_take_35 fl_X7_29 (ob_5 hn) rfl (fpI_7_1 _) (md_c (m := md_X7_take) (by decide)) ?_
      refine e_iconst dX7_take_38 ci_1 ?_
      exact e_zret dX7_take_39 rfl (nar_z (Or.inr rfl)) ⟨_, rfl, h⟩
    · replace h := h.2 c2
      refine e_iconst dX7_take_26 ci_0 ?_
      exact e_zret dX7_take_27 rfl (nar_z (Or.inl rfl)) ⟨_, rfl, h⟩
