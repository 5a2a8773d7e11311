/-! ===== the law: a case of its switch ===== -/
abbrev M_L : MI := (yL_law, code, 4, ret)
abbrev arOk (pc j : Nat) : Prop := decode code pc = .ok (.aload_n 0, 1) ∧ decode code (pc + 1) = .ok (.iload_n 3, 1) ∧ decode code (pc + 2) = .ok (.iconst (j : Int), 1) ∧ decode code (pc + 3) = .ok (.iadd, 1) ∧ decode code (pc + 4) = .ok (.iaload, 1)
abbrev Cas (pc0 a iX iM : Nat) : Prop := decode code pc0 = .ok (.aload_n 1, 1) ∧ (∀ t, t < a → arOk (pc0 + 1 + 5 * t) (t + 1)) ∧ decode code (pc0 + 1 + 5 * a) = .ok (.invokevirtual iX, 3) ∧ decode code (pc0 + 1 + 5 * a + 3) = .ok (.aload_n 2, 1) ∧ (∀ t, t < a → arOk (pc0 + 1 + 5 * a + 3 + 1 + 5 * t) (t + 1)) ∧ decode code (pc0 + 1 + 5 * a + 3 + 1 + 5 * a) = .ok (.invokevirtual iM, 3) ∧ decode code (pc0 + 1 + 5 * a + 3 + 1 + 5 * a + 3) = .ok (.if_icmp .eq (1317 - ((pc0 + 1 + 5 * a + 3 + 1 + 5 * a + 3 : Nat) : Int)), 3)
set_option maxRecDepth 100000 in
theorem cs_lesson : Cas 196 3 13 17 := ⟨by decide +kernel, by decide +kernel, by decide +kernel, by decide +kernel, by decide +kernel, by decide +kernel, by decide +kernel⟩
set_option maxRecDepth 100000 in
theorem cs_places : Cas 239 2 18 22 := ⟨by decide +kernel, by decide +kernel, by decide +kernel, by decide +kernel, by decide +kernel, by decide +kernel, by decide +kernel⟩
set_option maxRecDepth 100000 in
theorem cs_after : Cas 272 2 23 27 := ⟨by decide +kernel, by decide +kernel, by decide +kernel, by decide +kernel, by decide +kernel, by decide +kernel, by decide +kernel⟩
set_option maxRecDepth 100000 in
theorem cs_most : Cas 305 1 28 32 := ⟨by decide +kernel, by decide +kernel, by decide +kernel, by decide +kernel, by decide +kernel, by decide +kernel, by decide +kernel⟩
set_option maxRecDepth 100000 in
theorem cs_person : Cas 328 2 33 36 := ⟨by decide +kernel, by decide +kernel, by decide +kernel, by decide +kernel, by decide +kernel, by decide +kernel, by decide +kernel⟩
set_option maxRecDepth 100000 in
theorem cs_purse : Cas 361 2 37 40 := ⟨by decide +kernel, by decide +kernel, by decide +kernel, by decide +kernel, by decide +kernel, by decide +kernel, by decide +kernel⟩
set_option maxRecDepth 100000 in
theorem cs_feed : Cas 394 5 41 45 := ⟨by decide +kernel, by decide +kernel, by decide +kernel, by decide +kernel, by decide +kernel, by decide +kernel, by decide +kernel⟩
set_option maxRecDepth 100000 in
theorem cs_wish : Cas 457 2 46 49 := ⟨by decide +kernel, by decide +kernel, by decide +kernel, by decide +kernel, by decide +kernel, by decide +kernel, by decide +kernel⟩
set_option maxRecDepth 100000 in
theorem cs_falsely : Cas 490 1 50 54 := ⟨by decide +kernel, by decide +kernel, by decide +kernel, by decide +kernel, by decide +kernel, by decide +kernel, by decide +kernel⟩
set_option maxRecDepth 100000 in
theorem cs_fault : Cas 513 0 55 59 := ⟨by decide +kernel, by decide +kernel, by decide +kernel, by decide +kernel, by decide +kernel, by decide +kernel, by decide +kernel⟩
set_option maxRecDepth 100000 in
theorem cs_bars : Cas 526 2 60 63 := ⟨by decide +kernel, by decide +kernel, by decide +kernel, by decide +kernel, by decide +kernel, by decide +kernel, by decide +kernel⟩
set_option maxRecDepth 100000 in
theorem cs_worth : Cas 559 2 64 67 := ⟨by decide +kernel, by decide +kernel, by decide +kernel, by decide +kernel, by decide +kernel, by decide +kernel, by decide +kernel⟩
set_option maxRecDepth 100000 in
theorem cs_price : Cas 592 2 68 71 := ⟨by decide +kernel, by decide +kernel, by decide +kernel, by decide +kernel, by decide +kernel, by decide +kernel, by decide +kernel⟩
set_option maxRecDepth 100000 in
theorem cs_step : Cas 625 1 72 75 := ⟨by decide +kernel, by decide +kernel, by decide +kernel, by decide +kernel, by decide +kernel, by decide +kernel, by decide +kernel⟩
set_option maxRecDepth 100000 in
theorem cs_buys : Cas 648 2 76 79 := ⟨by decide +kernel, by decide +kernel, by decide +kernel, by decide +kernel, by decide +kernel, by decide +kernel, by decide +kernel⟩
set_option maxRecDepth 100000 in
theorem cs_dear : Cas 681 1 80 83 := ⟨by decide +kernel, by decide +kernel, by decide +kernel, by decide +kernel, by decide +kernel, by decide +kernel, by decide +kernel⟩
set_option maxRecDepth 100000 in
theorem cs_over : Cas 704 1 84 87 := ⟨by decide +kernel, by decide +kernel, by decide +kernel, by decide +kernel, by decide +kernel, by decide +kernel, by decide +kernel⟩
set_option maxRecDepth 100000 in
theorem cs_square : Cas 727 0 88 91 := ⟨by decide +kernel, by decide +kernel, by decide +kernel, by decide +kernel, by decide +kernel, by decide +kernel, by decide +kernel⟩
set_option maxRecDepth 100000 in
theorem cs_fit : Cas 740 2 92 95 := ⟨by decide +kernel, by decide +kernel, by decide +kernel, by decide +kernel, by decide +kernel, by decide +kernel, by decide +kernel⟩
set_option maxRecDepth 100000 in
theorem cs_settle : Cas 773 1 96 99 := ⟨by decide +kernel, by decide +kernel, by decide +kernel, by decide +kernel, by decide +kernel, by decide +kernel, by decide +kernel⟩
set_option maxRecDepth 100000 in
theorem cs_must : Cas 796 1 100 103 := ⟨by decide +kernel, by decide +kernel, by decide +kernel, by decide +kernel, by decide +kernel, by decide +kernel, by decide +kernel⟩
set_option maxRecDepth 100000 in
theorem cs_why : Cas 819 3 104 107 := ⟨by decide +kernel, by decide +kernel, by decide +kernel, by decide +kernel, by decide +kernel, by decide +kernel, by decide +kernel⟩
set_option maxRecDepth 100000 in
theorem cs_give : Cas 862 2 108 111 := ⟨by decide +kernel, by decide +kernel, by decide +kernel, by decide +kernel, by decide +kernel, by decide +kernel, by decide +kernel⟩
set_option maxRecDepth 100000 in
theorem cs_has : Cas 895 2 112 115 := ⟨by decide +kernel, by decide +kernel, by decide +kernel, by decide +kernel, by decide +kernel, by decide +kernel, by decide +kernel⟩
set_option maxRecDepth 100000 in
theorem cs_left : Cas 928 2 116 119 := ⟨by decide +kernel, by decide +kernel, by decide +kernel, by decide +kernel, by decide +kernel, by decide +kernel, by decide +kernel⟩
set_option maxRecDepth 100000 in
theorem cs_sum : Cas 961 1 120 123 := ⟨by decide +kernel, by decide +kernel, by decide +kernel, by decide +kernel, by decide +kernel, by decide +kernel, by decide +kernel⟩
set_option maxRecDepth 100000 in
theorem cs_envy : Cas 984 3 124 127 := ⟨by decide +kernel, by decide +kernel, by decide +kernel, by decide +kernel, by decide +kernel, by decide +kernel, by decide +kernel⟩
set_option maxRecDepth 100000 in
theorem cs_envies : Cas 1027 2 128 131 := ⟨by decide +kernel, by decide +kernel, by decide +kernel, by decide +kernel, by decide +kernel, by decide +kernel, by decide +kernel⟩
set_option maxRecDepth 100000 in
theorem cs_waste : Cas 1060 2 132 135 := ⟨by decide +kernel, by decide +kernel, by decide +kernel, by decide +kernel, by decide +kernel, by decide +kernel, by decide +kernel⟩
set_option maxRecDepth 100000 in
theorem cs_share : Cas 1093 1 136 139 := ⟨by decide +kernel, by decide +kernel, by decide +kernel, by decide +kernel, by decide +kernel, by decide +kernel, by decide +kernel⟩
set_option maxRecDepth 100000 in
theorem cs_gain : Cas 1116 2 140 143 := ⟨by decide +kernel, by decide +kernel, by decide +kernel, by decide +kernel, by decide +kernel, by decide +kernel, by decide +kernel⟩
set_option maxRecDepth 100000 in
theorem cs_rank : Cas 1149 2 144 147 := ⟨by decide +kernel, by decide +kernel, by decide +kernel, by decide +kernel, by decide +kernel, by decide +kernel, by decide +kernel⟩
set_option maxRecDepth 100000 in
theorem cs_ties : Cas 1182 1 148 151 := ⟨by decide +kernel, by decide +kernel, by decide +kernel, by decide +kernel, by decide +kernel, by decide +kernel, by decide +kernel⟩
set_option maxRecDepth 100000 in
theorem cs_edge : Cas 1205 2 152 155 := ⟨by decide +kernel, by decide +kernel, by decide +kernel, by decide +kernel, by decide +kernel, by decide +kernel, by decide +kernel⟩
set_option maxRecDepth 100000 in
theorem cs_few : Cas 1238 3 156 159 := ⟨by decide +kernel, by decide +kernel, by decide +kernel, by decide +kernel, by decide +kernel, by decide +kernel, by decide +kernel⟩
set_option maxRecDepth 100000 in
theorem cs_judge : Cas 1281 0 160 163 := ⟨by decide +kernel, by decide +kernel, by decide +kernel, by decide +kernel, by decide +kernel, by decide +kernel, by decide +kernel⟩
set_option maxRecDepth 100000 in
theorem cs_count : Cas 1294 1 164 167 := ⟨by decide +kernel, by decide +kernel, by decide +kernel, by decide +kernel, by decide +kernel, by decide +kernel, by decide +kernel⟩
theorem lx_lesson : (.methodLink RL 13 yX11_lesson : Cond) ∈ TT := TT_mem 568 (by decide +kernel)
theorem lm_lesson : (.methodLink RL 17 yX12_lesson : Cond) ∈ TT := TT_mem 1443 (by decide +kernel)
theorem lx_places : (.methodLink RL 18 yX11_places : Cond) ∈ TT := TT_mem 580 (by decide +kernel)
theorem lm_places : (.methodLink RL 22 yX12_places : Cond) ∈ TT := TT_mem 1450 (by decide +kernel)
theorem lx_after : (.methodLink RL 23 yX11_after : Cond) ∈ TT := TT_mem 588 (by decide +kernel)
theorem lm_after : (.methodLink RL 27 yX12_after : Cond) ∈ TT := TT_mem 1458 (by decide +kernel)
theorem lx_most : (.methodLink RL 28 yX11_most : Cond) ∈ TT := TT_mem 600 (by decide +kernel)
theorem lm_most : (.methodLink RL 32 yX12_most : Cond) ∈ TT := TT_mem 1462 (by decide +kernel)
theorem lx_person : (.methodLink RL 33 yX11_person : Cond) ∈ TT := TT_mem 604 (by decide +kernel)
theorem lm_person : (.methodLink RL 36 yX12_person : Cond) ∈ TT := TT_mem 1466 (by decide +kernel)
theorem lx_purse : (.methodLink RL 37 yX11_purse : Cond) ∈ TT := TT_mem 619 (by decide +kernel)
theorem lm_purse : (.methodLink RL 40 yX12_purse : Cond) ∈ TT := TT_mem 1473 (by decide +kernel)
theorem lx_feed : (.methodLink RL 41 yX11_feed : Cond) ∈ TT := TT_mem 627 (by decide +kernel)
theorem lm_feed : (.methodLink RL 45 yX12_feed : Cond) ∈ TT := TT_mem 1489 (by decide +kernel)
theorem lx_wish : (.methodLink RL 46 yX11_wish : Cond) ∈ TT := TT_mem 635 (by decide +kernel)
theorem lm_wish : (.methodLink RL 49 yX12_wish : Cond) ∈ TT := TT_mem 1497 (by decide +kernel)
theorem lx_falsely : (.methodLink RL 50 yX11_falsely : Cond) ∈ TT := TT_mem 827 (by decide +kernel)
theorem lm_falsely : (.methodLink RL 54 yX12_falsely : Cond) ∈ TT := TT_mem 1582 (by decide +kernel)
theorem lx_fault : (.methodLink RL 55 yX11_fault : Cond) ∈ TT := TT_mem 831 (by decide +kernel)
theorem lm_fault : (.methodLink RL 59 yX12_fault : Cond) ∈ TT := TT_mem 1586 (by decide +kernel)
theorem lx_bars : (.methodLink RL 60 yX11_bars : Cond) ∈ TT := TT_mem 835 (by decide +kernel)
theorem lm_bars : (.methodLink RL 63 yX12_bars : Cond) ∈ TT := TT_mem 1590 (by decide +kernel)
theorem lx_worth : (.methodLink RL 64 yX11_worth : Cond) ∈ TT := TT_mem 891 (by decide +kernel)
theorem lm_worth : (.methodLink RL 67 yX12_worth : Cond) ∈ TT := TT_mem 1635 (by decide +kernel)
theorem lx_price : (.methodLink RL 68 yX11_price : Cond) ∈ TT := TT_mem 896 (by decide +kernel)
theorem lm_price : (.methodLink RL 71 yX12_price : Cond) ∈ TT := TT_mem 1481 (by decide +kernel)
theorem lx_step : (.methodLink RL 72 yX11_step : Cond) ∈ TT := TT_mem 900 (by decide +kernel)
theorem lm_step : (.methodLink RL 75 yX12_step : Cond) ∈ TT := TT_mem 1485 (by decide +kernel)
theorem lx_buys : (.methodLink RL 76 yX11_buys : Cond) ∈ TT := TT_mem 904 (by decide +kernel)
theorem lm_buys : (.methodLink RL 79 yX12_buys : Cond) ∈ TT := TT_mem 1646 (by decide +kernel)
theorem lx_dear : (.methodLink RL 80 yX11_dear : Cond) ∈ TT := TT_mem 947 (by decide +kernel)
theorem lm_dear : (.methodLink RL 83 yX12_dear : Cond) ∈ TT := TT_mem 1682 (by decide +kernel)
theorem lx_over : (.methodLink RL 84 yX11_over : Cond) ∈ TT := TT_mem 961 (by decide +kernel)
theorem lm_over : (.methodLink RL 87 yX12_over : Cond) ∈ TT := TT_mem 1686 (by decide +kernel)
theorem lx_square : (.methodLink RL 88 yX11_square : Cond) ∈ TT := TT_mem 975 (by decide +kernel)
theorem lm_square : (.methodLink RL 91 yX12_square : Cond) ∈ TT := TT_mem 1694 (by decide +kernel)
theorem lx_fit : (.methodLink RL 92 yX11_fit : Cond) ∈ TT := TT_mem 979 (by decide +kernel)
theorem lm_fit : (.methodLink RL 95 yX12_fit : Cond) ∈ TT := TT_mem 1698 (by decide +kernel)
theorem lx_settle : (.methodLink RL 96 yX11_settle : Cond) ∈ TT := TT_mem 1018 (by decide +kernel)
theorem lm_settle : (.methodLink RL 99 yX12_settle : Cond) ∈ TT := TT_mem 1721 (by decide +kernel)
theorem lx_must : (.methodLink RL 100 yX11_must : Cond) ∈ TT := TT_mem 1023 (by decide +kernel)
theorem lm_must : (.methodLink RL 103 yX12_must : Cond) ∈ TT := TT_mem 1725 (by decide +kernel)
theorem lx_why : (.methodLink RL 104 yX11_why : Cond) ∈ TT := TT_mem 1031 (by decide +kernel)
theorem lm_why : (.methodLink RL 107 yX12_why : Cond) ∈ TT := TT_mem 1729 (by decide +kernel)
theorem lx_give : (.methodLink RL 108 yX11_give : Cond) ∈ TT := TT_mem 1040 (by decide +kernel)
theorem lm_give : (.methodLink RL 111 yX12_give : Cond) ∈ TT := TT_mem 1733 (by decide +kernel)
theorem lx_has : (.methodLink RL 112 yX11_has : Cond) ∈ TT := TT_mem 1044 (by decide +kernel)
theorem lm_has : (.methodLink RL 115 yX12_has : Cond) ∈ TT := TT_mem 1737 (by decide +kernel)
theorem lx_left : (.methodLink RL 116 yX11_left : Cond) ∈ TT := TT_mem 1132 (by decide +kernel)
theorem lm_left : (.methodLink RL 119 yX12_left : Cond) ∈ TT := TT_mem 1788 (by decide +kernel)
theorem lx_sum : (.methodLink RL 120 yX11_sum : Cond) ∈ TT := TT_mem 1136 (by decide +kernel)
theorem lm_sum : (.methodLink RL 123 yX12_sum : Cond) ∈ TT := TT_mem 1792 (by decide +kernel)
theorem lx_envy : (.methodLink RL 124 yX11_envy : Cond) ∈ TT := TT_mem 1141 (by decide +kernel)
theorem lm_envy : (.methodLink RL 127 yX12_envy : Cond) ∈ TT := TT_mem 1797 (by decide +kernel)
theorem lx_envies : (.methodLink RL 128 yX11_envies : Cond) ∈ TT := TT_mem 1153 (by decide +kernel)
theorem lm_envies : (.methodLink RL 131 yX12_envies : Cond) ∈ TT := TT_mem 1809 (by decide +kernel)
theorem lx_waste : (.methodLink RL 132 yX11_waste : Cond) ∈ TT := TT_mem 1157 (by decide +kernel)
theorem lm_waste : (.methodLink RL 135 yX12_waste : Cond) ∈ TT := TT_mem 1813 (by decide +kernel)
theorem lx_share : (.methodLink RL 136 yX11_share : Cond) ∈ TT := TT_mem 1179 (by decide +kernel)
theorem lm_share : (.methodLink RL 139 yX12_share : Cond) ∈ TT := TT_mem 1825 (by decide +kernel)
theorem lx_gain : (.methodLink RL 140 yX11_gain : Cond) ∈ TT := TT_mem 1197 (by decide +kernel)
theorem lm_gain : (.methodLink RL 143 yX12_gain : Cond) ∈ TT := TT_mem 1835 (by decide +kernel)
theorem lx_rank : (.methodLink RL 144 yX11_rank : Cond) ∈ TT := TT_mem 1206 (by decide +kernel)
theorem lm_rank : (.methodLink RL 147 yX12_rank : Cond) ∈ TT := TT_mem 1840 (by decide +kernel)
theorem lx_ties : (.methodLink RL 148 yX11_ties : Cond) ∈ TT := TT_mem 1211 (by decide +kernel)
theorem lm_ties : (.methodLink RL 151 yX12_ties : Cond) ∈ TT := TT_mem 1844 (by decide +kernel)
theorem lx_edge : (.methodLink RL 152 yX11_edge : Cond) ∈ TT := TT_mem 1219 (by decide +kernel)
theorem lm_edge : (.methodLink RL 155 yX12_edge : Cond) ∈ TT := TT_mem 1848 (by decide +kernel)
theorem lx_few : (.methodLink RL 156 yX11_few : Cond) ∈ TT := TT_mem 1231 (by decide +kernel)
theorem lm_few : (.methodLink RL 159 yX12_few : Cond) ∈ TT := TT_mem 1852 (by decide +kernel)
theorem lx_judge : (.methodLink RL 160 yX11_judge : Cond) ∈ TT := TT_mem 1255 (by decide +kernel)
theorem lm_judge : (.methodLink RL 163 yX12_judge : Cond) ∈ TT := TT_mem 1860 (by decide +kernel)
theorem lx_count : (.methodLink RL 164 yX11_count : Cond) ∈ TT := TT_mem 1259 (by decide +kernel)
theorem lm_count : (.methodLink RL 167 yX12_count : Cond) ∈ TT := TT_mem 1864 (by decide +kernel)
def argV (xs : Nat → Int32) (i a : Nat) : List Value := (List.range a).map (fun t => .int (xs (i + (t + 1))))
theorem argV_conc (G : Gx) (xs : Nat → Int32) (i a : Nat) : (argV xs i a).map (conc G) = argV xs i a := by
  unfold argV; rw [List.map_map]; rfl
theorem argV_len (xs : Nat → Int32) (i a : Nat) : (argV xs i a).length = a := by simp [argV]
theorem nI_add2 (i j : Nat) : nI i + nI j = nI (i + j) := by
  unfold nI; rw [Int32.ofNat_add]
section LawCase
variable {p : Program} {l : Launch} {e : Env} {s : State} {m : MethodId} {args : Array Value} {below : List Frame} {meth : Method} {c : Code} {H : Heap} {locs : List Loc} {cells slots : Nat} {Q : State → Prop}
variable {G : Gx} {n : Nat} {σ : St} {A : Nat → Prop} {lsA : Array Slot}
theorem l_arg {R : Room} {b L i j pc q1 q2 : Nat} {xs : Nat → Int32} {rest : List Value} (F : Fx p M_L s m args meth c) (hX : va_X b L xs s s.heap) (hbl : b < s.heap.size) (hbA : ¬ A b) (hS : va_S A s.heap H locs) (hl : lv_has lsA 4 [(0, .ref b), (1, .ref q1), (2, .ref q2), (3, .int (nI i))]) (hi : i + j < L) (hL : L ≤ 3072) (h : arOk pc j) (kk : W p l e R s m args below meth c H locs cells slots Q (F0 m (pc + 5) lsA (.int (xs (i + j)) :: rest))) : W p l e R s m args below meth c H locs cells slots Q (F0 m pc lsA rest) := by
  obtain ⟨h1, h2, h3, h4, h5⟩ := h
  refine lv_aload_n F.1 F.2.1 h1 rfl (lv_at hl 0 rfl) ?_
  refine lv_iload_n F.1 F.2.1 h2 rfl (lv_at hl 3 rfl) ?_
  refine lv_iconst (v := nI j) F.1 F.2.1 h3 (by unfold nI; rfl) ?_
  refine lv_iadd F.1 F.2.1 h4 ?_
  rw [nI_add2]
  refine va_sld F.1 F.2.1 hX hbl hbA hS (vp_in_nI hi (by omega)) h5 ?_
  rw [nI_clamp (by omega)]
  exact kk
theorem l_args {R : Room} {b L i q1 q2 pc : Nat} {xs : Nat → Int32} {rest : List Value} (F : Fx p M_L s m args meth c) (hX : va_X b L xs s s.heap) (hbl : b < s.heap.size) (hbA : ¬ A b) (hS : va_S A s.heap H locs) (hl : lv_has lsA 4 [(0, .ref b), (1, .ref q1), (2, .ref q2), (3, .int (nI i))]) (hi : i + 6 ≤ L) (hL : L ≤ 3072) : ∀ a, a ≤ 5 → (∀ t, t < a → arOk (pc + 5 * t) (t + 1)) → W p l e R s m args below meth c H locs cells slots Q (F0 m (pc + 5 * a) lsA ((argV xs i a).reverse ++ rest)) → W p l e R s m args below meth c H locs cells slots Q (F0 m pc lsA rest)
  | 0, _, _, kk => kk
  | a + 1, ha, h, kk => by
    refine l_args F hX hbl hbA hS hl hi hL a (by omega) (fun t ht => h t (by omega)) ?_
    refine l_arg F hX hbl hbA hS hl (j := a + 1) (by omega) hL (h a (by omega)) ?_
    have e1 : (argV xs i (a + 1)).reverse ++ rest = .int (xs (i + (a + 1))) :: ((argV xs i a).reverse ++ rest) := by
      unfold argV; rw [List.range_succ, List.map_append, List.reverse_append]; rfl
    rw [e1] at kk
    exact kk
/-- what holds between two calls -/
def LI (G : Gx) (A : Nat → Prop) (s : State) (w : Wd) (σ : St) (n cells slots : Nat) (H : Heap) (locs : List Loc) : Prop := WW w ∧ HZ w ∧ RC σ n w ∧ MG σ w ∧ n = 88 + 5 * w.P ∧ cells = n ∧ slots = 36988 + 3482 * w.P ∧ Cw G n σ A s H locs
theorem rm_case : 60 + 1 ≤ room_1.frames ∧ 48 + 48 * 60 ≤ room_1.locals := by decide
theorem l_case {a iX iM pc0 b L i : Nat} {xs : Nat → Int32} {MX MM : MI} {mdX mdM : Md} {w : Wd} (w' : Wd) (V : Int32 → Prop) (F : Fx p M_L s m args meth c) (hX : va_X b L xs s s.heap) (hbl : b < s.heap.size) (hbA : ¬ A b) (hl : lv_has lsA 4 [(0, .ref b), (1, .ref (G.2.1 0)), (2, .ref (G.2.1 11)), (3, .int (nI i))]) (hi : i + 6 ≤ L) (hL : L ≤ 3072) (hcs : cells ≤ room_1.cells ∧ slots ≤ room_1.slots) (hI : LI G A s w σ n cells slots H locs) (ha : a ≤ 5) (hc : Cas pc0 a iX iM) (hlX : (.methodLink RL iX MX.1 : Cond) ∈ TT) (hMX : Mv MX a) (hX1 : MX.1.cls = RX11) (hlM : (.methodLink RL iM MM.1 : Cond) ∈ TT) (hMM : Mv MM a) (hM1 : MM.1.cls = RX12) (okx : okXM mdX = true) (okm : okM mdM = true)
    (hCX : ∀ (σ : St), FIX ≤ n → RC σ n w → Cn 60 n MX mdX (.ref 0 :: argV xs i a) σ (liI (fun v σ' => V v ∧ RC σ' n w')))
    (hCM : ∀ (σ : St), FIX ≤ n → MG σ w → Cn 60 n MM mdM (.ref 11 :: argV xs i a) σ (liI (fun v σ' => V v ∧ MG σ' w')))
    (uq : ∀ v v', V v → V v' → v = v') (hnx : Nx w w')
    (kk : ∀ (σ' : St) (H' : Heap) (locs' : List Loc), LI G A s w' σ' n cells slots H' locs' → W p l e room_1 s m args below meth c H' locs' cells slots Q (F0 m 1317 lsA [])) : W p l e room_1 s m args below meth c H locs cells slots Q (F0 m pc0 lsA []) := by
  obtain ⟨hw, hz, hR, hM, hn, hcl, hsl, hC⟩ := hI
  obtain ⟨n1, n2, n3, n4⟩ := hnx
  have hF : FIX ≤ n := by simp only [FIX]; omega
  obtain ⟨c1, c2, c3, c4, c5, c6, c7⟩ := hc
  refine lv_aload_n F.1 F.2.1 c1 rfl (lv_at hl 1 rfl) ?_
  refine l_args F hX hbl hbA hC.2.2.2.1 hl hi hL a ha c2 ?_
  have hr := w_callV (R := room_1) (d := 60) (M' := MX) (as := argV xs i a) (rest := []) (q := 0) (ci := 11) (r := (RX11, TX11, 13)) (l := l) (e := e) (below := below) (cells := cells) (slots := slots) (Q := Q) F hC hl.1 c3 hlX hMX (ob_0 hF) rfl hX1 (argV_len _ _ _) (Nat.le_of_ble_eq_true rfl) rm_case hcs (hCX σ hF hR) (fun v σ1 H1 locs1 hq hf hC1 => ?_)
  · rw [argV_conc] at hr; exact hr
  obtain ⟨x, rfl, hv, hR1⟩ := hq
  have hM1' := hM.X hf okx
  show W p l e room_1 s m args below meth c H1 locs1 cells slots Q (F0 m (pc0 + 1 + 5 * a + 3) lsA [.int x])
  refine lv_aload_n F.1 F.2.1 c4 rfl (lv_at hl 2 rfl) ?_
  refine l_args F hX hbl hbA hC1.2.2.2.1 hl hi hL a ha c5 ?_
  have hr := w_callV (R := room_1) (d := 60) (M' := MM) (as := argV xs i a) (rest := [.int x]) (q := 11) (ci := 12) (r := (RX12, TX12, 55)) (l := l) (e := e) (below := below) (cells := cells) (slots := slots) (Q := Q) F hC1 hl.1 c6 hlM hMM (ob_11 hF) rfl hM1 (argV_len _ _ _) (Nat.le_of_ble_eq_true rfl) rm_case hcs (hCM σ1 hF hM1') (fun v σ2 H2 locs2 hq hf hC2 => ?_)
  · rw [argV_conc] at hr; exact hr
  obtain ⟨y, rfl, hv', hM2⟩ := hq
  have hR2 := hR1.M hf okm
  show W p l e room_1 s m args below meth c H2 locs2 cells slots Q (F0 m (pc0 + 1 + 5 * a + 3 + 1 + 5 * a + 3) lsA [.int y, .int x])
  refine lv_icmp_eq (tgt := 1317) F.1 F.2.1 c7 (by omega) (fun _ => ?_) (fun z => absurd (uq x y hv hv') z)
  exact kk σ2 H2 locs2 ⟨n1, n3, hR2, hM2, by rw [n4]; exact hn, hcl, by rw [n4]; exact hsl, hC2⟩
end LawCase
