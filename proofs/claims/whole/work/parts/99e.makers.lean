/-! ===== the makers, but the greatest ===== -/
abbrev aI (G : Gx) (n : Nat) : va_E := .inl (G.2.2 20, n, .inl (fun _ => 0))
abbrev aB (G : Gx) (n : Nat) : va_E := .inl (G.2.2 21, n, .inl (fun _ => 0))
abbrev aY (G : Gx) (n : Nat) : va_E := .inl (G.2.2 22, n, .inl (fun _ => 0))
abbrev aL (G : Gx) (n : Nat) : va_E := .inl (G.2.2 23, n, .inr (.inl (fun _ => 0)))
abbrev aP (G : Gx) (n : Nat) : va_E := .inl (G.2.2 24, n, .inr (.inr (.inr (.inr (fun _ => none)))))
abbrev aG (G : Gx) (b : Nat) : va_E := .inl (G.2.2 25, 8, .inr (.inr (.inr (.inr (fun j => some (b + j))))))
theorem wa_int : (.arrayClass (newarray.typeOf .int) : Cond) ∈ TT := TT_mem 181 (by decide +kernel)
theorem wa_boolean : (.arrayClass (newarray.typeOf .boolean) : Cond) ∈ TT := TT_mem 527 (by decide +kernel)
theorem wa_byte : (.arrayClass (newarray.typeOf .byte) : Cond) ∈ TT := TT_mem 826 (by decide +kernel)
theorem wa_long : (.arrayClass (newarray.typeOf .long) : Cond) ∈ TT := TT_mem 1442 (by decide +kernel)
theorem wo_i : (.instanceMethod Lib.objectInit : Cond) ∈ TT := TT_mem 132 (by decide +kernel)
theorem wo_c : (.code Lib.objectInit ⟨#[0xb1]⟩ 1 none : Cond) ∈ TT := TT_mem 133 (by decide +kernel)
abbrev I_X6 : MI := (yX6_init, cX6_init, 1, none)
theorem di_X6_0 : decode cX6_init 0 = .ok (.aload_n 0, 1) := by decide +kernel
theorem di_X6_1 : decode cX6_init 1 = .ok (.invokespecial 3, 3) := by decide +kernel
theorem di_X6_4 : decode cX6_init 4 = .ok (.aload_n 0, 1) := by decide +kernel
theorem di_X6_5 : decode cX6_init 5 = .ok (.iconst 4, 1) := by decide +kernel
theorem di_X6_6 : decode cX6_init 6 = .ok (.putfield 9, 3) := by decide +kernel
theorem di_X6_9 : decode cX6_init 9 = .ok (.aload_n 0, 1) := by decide +kernel
theorem di_X6_10 : decode cX6_init 10 = .ok (.bipush 10, 2) := by decide +kernel
theorem di_X6_12 : decode cX6_init 12 = .ok (.newarray .int, 2) := by decide +kernel
theorem di_X6_14 : decode cX6_init 14 = .ok (.putfield 15, 3) := by decide +kernel
theorem di_X6_17 : decode cX6_init 17 = .ok (.aload_n 0, 1) := by decide +kernel
theorem di_X6_18 : decode cX6_init 18 = .ok (.bipush 10, 2) := by decide +kernel
theorem di_X6_20 : decode cX6_init 20 = .ok (.newarray .int, 2) := by decide +kernel
theorem di_X6_22 : decode cX6_init 22 = .ok (.putfield 19, 3) := by decide +kernel
theorem di_X6_25 : decode cX6_init 25 = .ok (.aload_n 0, 1) := by decide +kernel
theorem di_X6_26 : decode cX6_init 26 = .ok (.bipush 10, 2) := by decide +kernel
theorem di_X6_28 : decode cX6_init 28 = .ok (.newarray .int, 2) := by decide +kernel
theorem di_X6_30 : decode cX6_init 30 = .ok (.putfield 22, 3) := by decide +kernel
theorem di_X6_33 : decode cX6_init 33 = .ok (.aload_n 0, 1) := by decide +kernel
theorem di_X6_34 : decode cX6_init 34 = .ok (.bipush 10, 2) := by decide +kernel
theorem di_X6_36 : decode cX6_init 36 = .ok (.newarray .int, 2) := by decide +kernel
theorem di_X6_38 : decode cX6_init 38 = .ok (.putfield 25, 3) := by decide +kernel
theorem di_X6_41 : decode cX6_init 41 = .ok (.aload_n 0, 1) := by decide +kernel
theorem di_X6_42 : decode cX6_init 42 = .ok (.bipush 10, 2) := by decide +kernel
theorem di_X6_44 : decode cX6_init 44 = .ok (.newarray .int, 2) := by decide +kernel
theorem di_X6_46 : decode cX6_init 46 = .ok (.putfield 28, 3) := by decide +kernel
theorem di_X6_49 : decode cX6_init 49 = .ok (.return_, 1) := by decide +kernel
theorem wl_X6 : (.methodLink RX6 3 Lib.objectInit : Cond) ∈ TT := TT_mem 139 (by decide +kernel)
theorem fi_X6_1 : Fl RX6 9 6 1 := Fl.mk (RX6, TX6, 8) rfl rfl 149 (by decide +kernel) rfl
theorem fi_X6_3 : Fl RX6 15 6 3 := Fl.mk (RX6, TX6, 8) rfl rfl 153 (by decide +kernel) rfl
theorem fi_X6_4 : Fl RX6 19 6 4 := Fl.mk (RX6, TX6, 8) rfl rfl 158 (by decide +kernel) rfl
theorem fi_X6_5 : Fl RX6 22 6 5 := Fl.mk (RX6, TX6, 8) rfl rfl 160 (by decide +kernel) rfl
theorem fi_X6_6 : Fl RX6 25 6 6 := Fl.mk (RX6, TX6, 8) rfl rfl 162 (by decide +kernel) rfl
theorem fi_X6_7 : Fl RX6 28 6 7 := Fl.mk (RX6, TX6, 8) rfl rfl 163 (by decide +kernel) rfl
abbrev rI_X6 : Room := { frames := 1, cells := 5, slots := 50, locals := 24 }
set_option maxRecDepth 100000 in
theorem ic_X6 (l : Launch) (G : Gx) (h0 sz : Nat) : Ic l G.1 (tyA G) I_X6 rI_X6 [] h0 6 sz [.int 0, .int 0, .int 0, .null, .null, .null, .null, .null] [.int 0, .int 4, .int 0, .ref (sz + 0), .ref (sz + 1), .ref (sz + 2), .ref (sz + 3), .ref (sz + 4)] [aI G 10, aI G 10, aI G 10, aI G 10, aI G 10] := by
  refine Ic.of (by decide) rfl (Nat.le_of_ble_eq_true rfl) (fun p e s m args below meth c lsA F ex hi w hl => ?_)
  have hl : lv_has lsA 1 [(0, .ref h0)] := hl
  refine lv_aload_n F.1 F.2.1 di_X6_0 rfl (lv_at hl 0 rfl) ?_
  refine W.objInit F.1 F.2.1 F.2.2.2.2.2.1 (F.2.2.2.2.2.2 _ wl_X6) (F.2.2.2.2.2.2 _ wo_i) (F.2.2.2.2.2.2 _ wo_c) rfl (by rw [F.2.2.1]; exact hl.1) rfl di_X6_1 (Nat.le_of_ble_eq_true rfl) (Nat.le_of_ble_eq_true rfl) ?_
  refine W.eq (g2 := F0 m 4 lsA []) rfl ?_
  refine lv_aload_n F.1 F.2.1 di_X6_4 rfl (lv_at hl 0 rfl) ?_
  refine lv_iconst (v := 4) F.1 F.2.1 di_X6_5 (by decide) ?_
  refine i_put F inT_6 tyX6 tyX6_ok nmX6 rfl fi_X6_1 hi rfl w (ty := tyX6 1) (v := .int 4) (tyX6_ok 1 (by decide)) rfl rfl (Nat.blt_eq.mp rfl) di_X6_6 (fun H locs w => ?_)
  have w : Wi G.1 (tyA G) [(h0, .inr (6, [.int 0, .int 4, .int 0, .null, .null, .null, .null, .null]))] sz [] (frI h0 sz) s H locs := w
  refine lv_aload_n F.1 F.2.1 di_X6_9 rfl (lv_at hl 0 rfl) ?_
  refine lv_bipush (v := 10) F.1 F.2.1 di_X6_10 (by decide) ?_
  refine i_newa F wa_int rfl 0 rfl (fun h => h) w (N := 10) (a0 := (10, .inl (fun _ => 0))) rfl (by decide) (by decide) (by decide) rfl (Nat.le_of_ble_eq_true rfl) (Nat.le_of_ble_eq_true rfl) di_X6_12 (fun H w => ?_)
  have w : Wi G.1 (tyA G) [(h0, .inr (6, [.int 0, .int 4, .int 0, .null, .null, .null, .null, .null]))] sz [aI G 10] (frI h0 sz) s H locs := w
  refine i_put F inT_6 tyX6 tyX6_ok nmX6 rfl fi_X6_3 hi rfl w (ty := tyX6 3) (v := .ref (sz + 0)) (tyX6_ok 3 (by decide)) rfl rfl (Nat.blt_eq.mp rfl) di_X6_14 (fun H locs w => ?_)
  have w : Wi G.1 (tyA G) [(h0, .inr (6, [.int 0, .int 4, .int 0, .ref (sz + 0), .null, .null, .null, .null]))] sz [aI G 10] (frI h0 sz) s H locs := w
  refine lv_aload_n F.1 F.2.1 di_X6_17 rfl (lv_at hl 0 rfl) ?_
  refine lv_bipush (v := 10) F.1 F.2.1 di_X6_18 (by decide) ?_
  refine i_newa F wa_int rfl 0 rfl (fun h => h) w (N := 10) (a0 := (10, .inl (fun _ => 0))) rfl (by decide) (by decide) (by decide) rfl (Nat.le_of_ble_eq_true rfl) (Nat.le_of_ble_eq_true rfl) di_X6_20 (fun H w => ?_)
  have w : Wi G.1 (tyA G) [(h0, .inr (6, [.int 0, .int 4, .int 0, .ref (sz + 0), .null, .null, .null, .null]))] sz [aI G 10, aI G 10] (frI h0 sz) s H locs := w
  refine i_put F inT_6 tyX6 tyX6_ok nmX6 rfl fi_X6_4 hi rfl w (ty := tyX6 4) (v := .ref (sz + 1)) (tyX6_ok 4 (by decide)) rfl rfl (Nat.blt_eq.mp rfl) di_X6_22 (fun H locs w => ?_)
  have w : Wi G.1 (tyA G) [(h0, .inr (6, [.int 0, .int 4, .int 0, .ref (sz + 0), .ref (sz + 1), .null, .null, .null]))] sz [aI G 10, aI G 10] (frI h0 sz) s H locs := w
  refine lv_aload_n F.1 F.2.1 di_X6_25 rfl (lv_at hl 0 rfl) ?_
  refine lv_bipush (v := 10) F.1 F.2.1 di_X6_26 (by decide) ?_
  refine i_newa F wa_int rfl 0 rfl (fun h => h) w (N := 10) (a0 := (10, .inl (fun _ => 0))) rfl (by decide) (by decide) (by decide) rfl (Nat.le_of_ble_eq_true rfl) (Nat.le_of_ble_eq_true rfl) di_X6_28 (fun H w => ?_)
  have w : Wi G.1 (tyA G) [(h0, .inr (6, [.int 0, .int 4, .int 0, .ref (sz + 0), .ref (sz + 1), .null, .null, .null]))] sz [aI G 10, aI G 10, aI G 10] (frI h0 sz) s H locs := w
  refine i_put F inT_6 tyX6 tyX6_ok nmX6 rfl fi_X6_5 hi rfl w (ty := tyX6 5) (v := .ref (sz + 2)) (tyX6_ok 5 (by decide)) rfl rfl (Nat.blt_eq.mp rfl) di_X6_30 (fun H locs w => ?_)
  have w : Wi G.1 (tyA G) [(h0, .inr (6, [.int 0, .int 4, .int 0, .ref (sz + 0), .ref (sz + 1), .ref (sz + 2), .null, .null]))] sz [aI G 10, aI G 10, aI G 10] (frI h0 sz) s H locs := w
  refine lv_aload_n F.1 F.2.1 di_X6_33 rfl (lv_at hl 0 rfl) ?_
  refine lv_bipush (v := 10) F.1 F.2.1 di_X6_34 (by decide) ?_
  refine i_newa F wa_int rfl 0 rfl (fun h => h) w (N := 10) (a0 := (10, .inl (fun _ => 0))) rfl (by decide) (by decide) (by decide) rfl (Nat.le_of_ble_eq_true rfl) (Nat.le_of_ble_eq_true rfl) di_X6_36 (fun H w => ?_)
  have w : Wi G.1 (tyA G) [(h0, .inr (6, [.int 0, .int 4, .int 0, .ref (sz + 0), .ref (sz + 1), .ref (sz + 2), .null, .null]))] sz [aI G 10, aI G 10, aI G 10, aI G 10] (frI h0 sz) s H locs := w
  refine i_put F inT_6 tyX6 tyX6_ok nmX6 rfl fi_X6_6 hi rfl w (ty := tyX6 6) (v := .ref (sz + 3)) (tyX6_ok 6 (by decide)) rfl rfl (Nat.blt_eq.mp rfl) di_X6_38 (fun H locs w => ?_)
  have w : Wi G.1 (tyA G) [(h0, .inr (6, [.int 0, .int 4, .int 0, .ref (sz + 0), .ref (sz + 1), .ref (sz + 2), .ref (sz + 3), .null]))] sz [aI G 10, aI G 10, aI G 10, aI G 10] (frI h0 sz) s H locs := w
  refine lv_aload_n F.1 F.2.1 di_X6_41 rfl (lv_at hl 0 rfl) ?_
  refine lv_bipush (v := 10) F.1 F.2.1 di_X6_42 (by decide) ?_
  refine i_newa F wa_int rfl 0 rfl (fun h => h) w (N := 10) (a0 := (10, .inl (fun _ => 0))) rfl (by decide) (by decide) (by decide) rfl (Nat.le_of_ble_eq_true rfl) (Nat.le_of_ble_eq_true rfl) di_X6_44 (fun H w => ?_)
  have w : Wi G.1 (tyA G) [(h0, .inr (6, [.int 0, .int 4, .int 0, .ref (sz + 0), .ref (sz + 1), .ref (sz + 2), .ref (sz + 3), .null]))] sz [aI G 10, aI G 10, aI G 10, aI G 10, aI G 10] (frI h0 sz) s H locs := w
  refine i_put F inT_6 tyX6 tyX6_ok nmX6 rfl fi_X6_7 hi rfl w (ty := tyX6 7) (v := .ref (sz + 4)) (tyX6_ok 7 (by decide)) rfl rfl (Nat.blt_eq.mp rfl) di_X6_46 (fun H locs w => ?_)
  have w : Wi G.1 (tyA G) [(h0, .inr (6, [.int 0, .int 4, .int 0, .ref (sz + 0), .ref (sz + 1), .ref (sz + 2), .ref (sz + 3), .ref (sz + 4)]))] sz [aI G 10, aI G 10, aI G 10, aI G 10, aI G 10] (frI h0 sz) s H locs := w
  exact i_ret F rfl w di_X6_49
abbrev I_X0 : MI := (yX0_init, cX0_init, 2, none)
theorem di_X0_0 : decode cX0_init 0 = .ok (.aload_n 0, 1) := by decide +kernel
theorem di_X0_1 : decode cX0_init 1 = .ok (.invokespecial 3, 3) := by decide +kernel
theorem di_X0_4 : decode cX0_init 4 = .ok (.aload_n 0, 1) := by decide +kernel
theorem di_X0_5 : decode cX0_init 5 = .ok (.bipush 64, 2) := by decide +kernel
theorem di_X0_7 : decode cX0_init 7 = .ok (.newarray .int, 2) := by decide +kernel
theorem di_X0_9 : decode cX0_init 9 = .ok (.putfield 11, 3) := by decide +kernel
theorem di_X0_12 : decode cX0_init 12 = .ok (.aload_n 0, 1) := by decide +kernel
theorem di_X0_13 : decode cX0_init 13 = .ok (.aload_n 1, 1) := by decide +kernel
theorem di_X0_14 : decode cX0_init 14 = .ok (.putfield 15, 3) := by decide +kernel
theorem di_X0_17 : decode cX0_init 17 = .ok (.return_, 1) := by decide +kernel
theorem wl_X0 : (.methodLink RX0 3 Lib.objectInit : Cond) ∈ TT := TT_mem 187 (by decide +kernel)
theorem fi_X0_3 : Fl RX0 11 0 3 := Fl.mk (RX0, TX0, 11) rfl rfl 196 (by decide +kernel) rfl
theorem fi_X0_0 : Fl RX0 15 0 0 := Fl.mk (RX0, TX0, 11) rfl rfl 188 (by decide +kernel) rfl
abbrev rI_X0 : Room := { frames := 1, cells := 1, slots := 64, locals := 24 }
set_option maxRecDepth 100000 in
theorem ic_X0 (l : Launch) (G : Gx) (h0 sz : Nat) (a1 : Nat) : Ic l G.1 (tyA G) I_X0 rI_X0 [.ref a1] h0 0 sz [.null, .int 0, .int 0, .null, .int 0, .int 0, .int 0, .int 0, .int 0, .int 0, .int 0] [.ref a1, .int 0, .int 0, .ref (sz + 0), .int 0, .int 0, .int 0, .int 0, .int 0, .int 0, .int 0] [aI G 64] := by
  refine Ic.of (by decide) rfl (Nat.le_of_ble_eq_true rfl) (fun p e s m args below meth c lsA F ex hi w hl => ?_)
  have hl : lv_has lsA 2 [(0, .ref h0), (1, .ref a1)] := hl
  refine lv_aload_n F.1 F.2.1 di_X0_0 rfl (lv_at hl 0 rfl) ?_
  refine W.objInit F.1 F.2.1 F.2.2.2.2.2.1 (F.2.2.2.2.2.2 _ wl_X0) (F.2.2.2.2.2.2 _ wo_i) (F.2.2.2.2.2.2 _ wo_c) rfl (by rw [F.2.2.1]; exact hl.1) rfl di_X0_1 (Nat.le_of_ble_eq_true rfl) (Nat.le_of_ble_eq_true rfl) ?_
  refine W.eq (g2 := F0 m 4 lsA []) rfl ?_
  refine lv_aload_n F.1 F.2.1 di_X0_4 rfl (lv_at hl 0 rfl) ?_
  refine lv_bipush (v := 64) F.1 F.2.1 di_X0_5 (by decide) ?_
  refine i_newa F wa_int rfl 0 rfl (fun h => h) w (N := 64) (a0 := (64, .inl (fun _ => 0))) rfl (by decide) (by decide) (by decide) rfl (Nat.le_of_ble_eq_true rfl) (Nat.le_of_ble_eq_true rfl) di_X0_7 (fun H w => ?_)
  have w : Wi G.1 (tyA G) [(h0, .inr (0, [.null, .int 0, .int 0, .null, .int 0, .int 0, .int 0, .int 0, .int 0, .int 0, .int 0]))] sz [aI G 64] (frI h0 sz) s H [] := w
  refine i_put F inT_0 tyX0 tyX0_ok nmX0 rfl fi_X0_3 hi rfl w (ty := tyX0 3) (v := .ref (sz + 0)) (tyX0_ok 3 (by decide)) rfl rfl (Nat.blt_eq.mp rfl) di_X0_9 (fun H locs w => ?_)
  have w : Wi G.1 (tyA G) [(h0, .inr (0, [.null, .int 0, .int 0, .ref (sz + 0), .int 0, .int 0, .int 0, .int 0, .int 0, .int 0, .int 0]))] sz [aI G 64] (frI h0 sz) s H locs := w
  refine lv_aload_n F.1 F.2.1 di_X0_12 rfl (lv_at hl 0 rfl) ?_
  refine lv_aload_n F.1 F.2.1 di_X0_13 rfl (lv_at hl 1 rfl) ?_
  refine i_put F inT_0 tyX0 tyX0_ok nmX0 rfl fi_X0_0 hi rfl w (ty := tyX0 0) (v := .ref a1) (tyX0_ok 0 (by decide)) rfl rfl (Nat.blt_eq.mp rfl) di_X0_14 (fun H locs w => ?_)
  have w : Wi G.1 (tyA G) [(h0, .inr (0, [.ref a1, .int 0, .int 0, .ref (sz + 0), .int 0, .int 0, .int 0, .int 0, .int 0, .int 0, .int 0]))] sz [aI G 64] (frI h0 sz) s H locs := w
  exact i_ret F rfl w di_X0_17
abbrev I_X1 : MI := (yX1_init, cX1_init, 2, none)
theorem di_X1_0 : decode cX1_init 0 = .ok (.aload_n 0, 1) := by decide +kernel
theorem di_X1_1 : decode cX1_init 1 = .ok (.invokespecial 3, 3) := by decide +kernel
theorem di_X1_4 : decode cX1_init 4 = .ok (.aload_n 0, 1) := by decide +kernel
theorem di_X1_5 : decode cX1_init 5 = .ok (.bipush 8, 2) := by decide +kernel
theorem di_X1_7 : decode cX1_init 7 = .ok (.anewarray 9, 3) := by decide +kernel
theorem di_X1_10 : decode cX1_init 10 = .ok (.putfield 11, 3) := by decide +kernel
theorem di_X1_13 : decode cX1_init 13 = .ok (.aload_n 0, 1) := by decide +kernel
theorem di_X1_14 : decode cX1_init 14 = .ok (.aload_n 1, 1) := by decide +kernel
theorem di_X1_15 : decode cX1_init 15 = .ok (.putfield 17, 3) := by decide +kernel
theorem di_X1_18 : decode cX1_init 18 = .ok (.return_, 1) := by decide +kernel
theorem wl_X1 : (.methodLink RX1 3 Lib.objectInit : Cond) ∈ TT := TT_mem 232 (by decide +kernel)
theorem wk_X1 : (.classLink RX1 9 RX5 : Cond) ∈ TT := TT_mem 233 (by decide +kernel)
theorem fi_X1_1 : Fl RX1 11 1 1 := Fl.mk (RX1, TX1, 3) rfl rfl 236 (by decide +kernel) rfl
theorem fi_X1_0 : Fl RX1 17 1 0 := Fl.mk (RX1, TX1, 3) rfl rfl 235 (by decide +kernel) rfl
abbrev rI_X1 : Room := { frames := 1, cells := 1, slots := 8, locals := 24 }
set_option maxRecDepth 100000 in
theorem ic_X1 (l : Launch) (G : Gx) (h0 sz : Nat) (a1 : Nat) : Ic l G.1 (tyA G) I_X1 rI_X1 [.ref a1] h0 1 sz [.null, .null, .int 0] [.ref a1, .ref (sz + 0), .int 0] [aP G 8] := by
  refine Ic.of (by decide) rfl (Nat.le_of_ble_eq_true rfl) (fun p e s m args below meth c lsA F ex hi w hl => ?_)
  have hl : lv_has lsA 2 [(0, .ref h0), (1, .ref a1)] := hl
  refine lv_aload_n F.1 F.2.1 di_X1_0 rfl (lv_at hl 0 rfl) ?_
  refine W.objInit F.1 F.2.1 F.2.2.2.2.2.1 (F.2.2.2.2.2.2 _ wl_X1) (F.2.2.2.2.2.2 _ wo_i) (F.2.2.2.2.2.2 _ wo_c) rfl (by rw [F.2.2.1]; exact hl.1) rfl di_X1_1 (Nat.le_of_ble_eq_true rfl) (Nat.le_of_ble_eq_true rfl) ?_
  refine W.eq (g2 := F0 m 4 lsA []) rfl ?_
  refine lv_aload_n F.1 F.2.1 di_X1_4 rfl (lv_at hl 0 rfl) ?_
  refine lv_bipush (v := 8) F.1 F.2.1 di_X1_5 (by decide) ?_
  refine i_newq F wk_X1 ex.1 4 rfl w (N := 8) (by decide) (by decide) (by decide) rfl (Nat.le_of_ble_eq_true rfl) (Nat.le_of_ble_eq_true rfl) di_X1_7 (fun H w => ?_)
  have w : Wi G.1 (tyA G) [(h0, .inr (1, [.null, .null, .int 0]))] sz [aP G 8] (frI h0 sz) s H [] := w
  refine i_put F inT_1 tyX1 tyX1_ok nmX1 rfl fi_X1_1 hi rfl w (ty := tyX1 1) (v := .ref (sz + 0)) (tyX1_ok 1 (by decide)) rfl rfl (Nat.blt_eq.mp rfl) di_X1_10 (fun H locs w => ?_)
  have w : Wi G.1 (tyA G) [(h0, .inr (1, [.null, .ref (sz + 0), .int 0]))] sz [aP G 8] (frI h0 sz) s H locs := w
  refine lv_aload_n F.1 F.2.1 di_X1_13 rfl (lv_at hl 0 rfl) ?_
  refine lv_aload_n F.1 F.2.1 di_X1_14 rfl (lv_at hl 1 rfl) ?_
  refine i_put F inT_1 tyX1 tyX1_ok nmX1 rfl fi_X1_0 hi rfl w (ty := tyX1 0) (v := .ref a1) (tyX1_ok 0 (by decide)) rfl rfl (Nat.blt_eq.mp rfl) di_X1_15 (fun H locs w => ?_)
  have w : Wi G.1 (tyA G) [(h0, .inr (1, [.ref a1, .ref (sz + 0), .int 0]))] sz [aP G 8] (frI h0 sz) s H locs := w
  exact i_ret F rfl w di_X1_18
abbrev I_X9 : MI := (yX9_init, cX9_init, 1, none)
theorem di_X9_0 : decode cX9_init 0 = .ok (.aload_n 0, 1) := by decide +kernel
theorem di_X9_1 : decode cX9_init 1 = .ok (.invokespecial 3, 3) := by decide +kernel
theorem di_X9_4 : decode cX9_init 4 = .ok (.aload_n 0, 1) := by decide +kernel
theorem di_X9_5 : decode cX9_init 5 = .ok (.sipush 400, 3) := by decide +kernel
theorem di_X9_8 : decode cX9_init 8 = .ok (.newarray .int, 2) := by decide +kernel
theorem di_X9_10 : decode cX9_init 10 = .ok (.putfield 9, 3) := by decide +kernel
theorem di_X9_13 : decode cX9_init 13 = .ok (.aload_n 0, 1) := by decide +kernel
theorem di_X9_14 : decode cX9_init 14 = .ok (.sipush 401, 3) := by decide +kernel
theorem di_X9_17 : decode cX9_init 17 = .ok (.newarray .int, 2) := by decide +kernel
theorem di_X9_19 : decode cX9_init 19 = .ok (.putfield 15, 3) := by decide +kernel
theorem di_X9_22 : decode cX9_init 22 = .ok (.aload_n 0, 1) := by decide +kernel
theorem di_X9_23 : decode cX9_init 23 = .ok (.sipush 401, 3) := by decide +kernel
theorem di_X9_26 : decode cX9_init 26 = .ok (.newarray .int, 2) := by decide +kernel
theorem di_X9_28 : decode cX9_init 28 = .ok (.putfield 18, 3) := by decide +kernel
theorem di_X9_31 : decode cX9_init 31 = .ok (.aload_n 0, 1) := by decide +kernel
theorem di_X9_32 : decode cX9_init 32 = .ok (.sipush 401, 3) := by decide +kernel
theorem di_X9_35 : decode cX9_init 35 = .ok (.newarray .int, 2) := by decide +kernel
theorem di_X9_37 : decode cX9_init 37 = .ok (.putfield 21, 3) := by decide +kernel
theorem di_X9_40 : decode cX9_init 40 = .ok (.return_, 1) := by decide +kernel
theorem wl_X9 : (.methodLink RX9 3 Lib.objectInit : Cond) ∈ TT := TT_mem 260 (by decide +kernel)
theorem fi_X9_1 : Fl RX9 9 9 1 := Fl.mk (RX9, TX9, 6) rfl rfl 263 (by decide +kernel) rfl
theorem fi_X9_3 : Fl RX9 15 9 3 := Fl.mk (RX9, TX9, 6) rfl rfl 265 (by decide +kernel) rfl
theorem fi_X9_4 : Fl RX9 18 9 4 := Fl.mk (RX9, TX9, 6) rfl rfl 267 (by decide +kernel) rfl
theorem fi_X9_5 : Fl RX9 21 9 5 := Fl.mk (RX9, TX9, 6) rfl rfl 269 (by decide +kernel) rfl
abbrev rI_X9 : Room := { frames := 1, cells := 4, slots := 1603, locals := 24 }
set_option maxRecDepth 100000 in
theorem ic_X9 (l : Launch) (G : Gx) (h0 sz : Nat) : Ic l G.1 (tyA G) I_X9 rI_X9 [] h0 9 sz [.int 0, .null, .int 0, .null, .null, .null] [.int 0, .ref (sz + 0), .int 0, .ref (sz + 1), .ref (sz + 2), .ref (sz + 3)] [aI G 400, aI G 401, aI G 401, aI G 401] := by
  refine Ic.of (by decide) rfl (Nat.le_of_ble_eq_true rfl) (fun p e s m args below meth c lsA F ex hi w hl => ?_)
  have hl : lv_has lsA 1 [(0, .ref h0)] := hl
  refine lv_aload_n F.1 F.2.1 di_X9_0 rfl (lv_at hl 0 rfl) ?_
  refine W.objInit F.1 F.2.1 F.2.2.2.2.2.1 (F.2.2.2.2.2.2 _ wl_X9) (F.2.2.2.2.2.2 _ wo_i) (F.2.2.2.2.2.2 _ wo_c) rfl (by rw [F.2.2.1]; exact hl.1) rfl di_X9_1 (Nat.le_of_ble_eq_true rfl) (Nat.le_of_ble_eq_true rfl) ?_
  refine W.eq (g2 := F0 m 4 lsA []) rfl ?_
  refine lv_aload_n F.1 F.2.1 di_X9_4 rfl (lv_at hl 0 rfl) ?_
  refine lv_sipush (v := 400) F.1 F.2.1 di_X9_5 (by decide) ?_
  refine i_newa F wa_int rfl 0 rfl (fun h => h) w (N := 400) (a0 := (400, .inl (fun _ => 0))) rfl (by decide) (by decide) (by decide) rfl (Nat.le_of_ble_eq_true rfl) (Nat.le_of_ble_eq_true rfl) di_X9_8 (fun H w => ?_)
  have w : Wi G.1 (tyA G) [(h0, .inr (9, [.int 0, .null, .int 0, .null, .null, .null]))] sz [aI G 400] (frI h0 sz) s H [] := w
  refine i_put F inT_9 tyX9 tyX9_ok nmX9 rfl fi_X9_1 hi rfl w (ty := tyX9 1) (v := .ref (sz + 0)) (tyX9_ok 1 (by decide)) rfl rfl (Nat.blt_eq.mp rfl) di_X9_10 (fun H locs w => ?_)
  have w : Wi G.1 (tyA G) [(h0, .inr (9, [.int 0, .ref (sz + 0), .int 0, .null, .null, .null]))] sz [aI G 400] (frI h0 sz) s H locs := w
  refine lv_aload_n F.1 F.2.1 di_X9_13 rfl (lv_at hl 0 rfl) ?_
  refine lv_sipush (v := 401) F.1 F.2.1 di_X9_14 (by decide) ?_
  refine i_newa F wa_int rfl 0 rfl (fun h => h) w (N := 401) (a0 := (401, .inl (fun _ => 0))) rfl (by decide) (by decide) (by decide) rfl (Nat.le_of_ble_eq_true rfl) (Nat.le_of_ble_eq_true rfl) di_X9_17 (fun H w => ?_)
  have w : Wi G.1 (tyA G) [(h0, .inr (9, [.int 0, .ref (sz + 0), .int 0, .null, .null, .null]))] sz [aI G 400, aI G 401] (frI h0 sz) s H locs := w
  refine i_put F inT_9 tyX9 tyX9_ok nmX9 rfl fi_X9_3 hi rfl w (ty := tyX9 3) (v := .ref (sz + 1)) (tyX9_ok 3 (by decide)) rfl rfl (Nat.blt_eq.mp rfl) di_X9_19 (fun H locs w => ?_)
  have w : Wi G.1 (tyA G) [(h0, .inr (9, [.int 0, .ref (sz + 0), .int 0, .ref (sz + 1), .null, .null]))] sz [aI G 400, aI G 401] (frI h0 sz) s H locs := w
  refine lv_aload_n F.1 F.2.1 di_X9_22 rfl (lv_at hl 0 rfl) ?_
  refine lv_sipush (v := 401) F.1 F.2.1 di_X9_23 (by decide) ?_
  refine i_newa F wa_int rfl 0 rfl (fun h => h) w (N := 401) (a0 := (401, .inl (fun _ => 0))) rfl (by decide) (by decide) (by decide) rfl (Nat.le_of_ble_eq_true rfl) (Nat.le_of_ble_eq_true rfl) di_X9_26 (fun H w => ?_)
  have w : Wi G.1 (tyA G) [(h0, .inr (9, [.int 0, .ref (sz + 0), .int 0, .ref (sz + 1), .null, .null]))] sz [aI G 400, aI G 401, aI G 401] (frI h0 sz) s H locs := w
  refine i_put F inT_9 tyX9 tyX9_ok nmX9 rfl fi_X9_4 hi rfl w (ty := tyX9 4) (v := .ref (sz + 2)) (tyX9_ok 4 (by decide)) rfl rfl (Nat.blt_eq.mp rfl) di_X9_28 (fun H locs w => ?_)
  have w : Wi G.1 (tyA G) [(h0, .inr (9, [.int 0, .ref (sz + 0), .int 0, .ref (sz + 1), .ref (sz + 2), .null]))] sz [aI G 400, aI G 401, aI G 401] (frI h0 sz) s H locs := w
  refine lv_aload_n F.1 F.2.1 di_X9_31 rfl (lv_at hl 0 rfl) ?_
  refine lv_sipush (v := 401) F.1 F.2.1 di_X9_32 (by decide) ?_
  refine i_newa F wa_int rfl 0 rfl (fun h => h) w (N := 401) (a0 := (401, .inl (fun _ => 0))) rfl (by decide) (by decide) (by decide) rfl (Nat.le_of_ble_eq_true rfl) (Nat.le_of_ble_eq_true rfl) di_X9_35 (fun H w => ?_)
  have w : Wi G.1 (tyA G) [(h0, .inr (9, [.int 0, .ref (sz + 0), .int 0, .ref (sz + 1), .ref (sz + 2), .null]))] sz [aI G 400, aI G 401, aI G 401, aI G 401] (frI h0 sz) s H locs := w
  refine i_put F inT_9 tyX9 tyX9_ok nmX9 rfl fi_X9_5 hi rfl w (ty := tyX9 5) (v := .ref (sz + 3)) (tyX9_ok 5 (by decide)) rfl rfl (Nat.blt_eq.mp rfl) di_X9_37 (fun H locs w => ?_)
  have w : Wi G.1 (tyA G) [(h0, .inr (9, [.int 0, .ref (sz + 0), .int 0, .ref (sz + 1), .ref (sz + 2), .ref (sz + 3)]))] sz [aI G 400, aI G 401, aI G 401, aI G 401] (frI h0 sz) s H locs := w
  exact i_ret F rfl w di_X9_40
abbrev I_X7 : MI := (yX7_init, cX7_init, 2, none)
theorem di_X7_0 : decode cX7_init 0 = .ok (.aload_n 0, 1) := by decide +kernel
theorem di_X7_1 : decode cX7_init 1 = .ok (.invokespecial 3, 3) := by decide +kernel
theorem di_X7_4 : decode cX7_init 4 = .ok (.aload_n 0, 1) := by decide +kernel
theorem di_X7_5 : decode cX7_init 5 = .ok (.sipush 400, 3) := by decide +kernel
theorem di_X7_8 : decode cX7_init 8 = .ok (.newarray .int, 2) := by decide +kernel
theorem di_X7_10 : decode cX7_init 10 = .ok (.putfield 9, 3) := by decide +kernel
theorem di_X7_13 : decode cX7_init 13 = .ok (.aload_n 0, 1) := by decide +kernel
theorem di_X7_14 : decode cX7_init 14 = .ok (.iconst (-1), 1) := by decide +kernel
theorem di_X7_15 : decode cX7_init 15 = .ok (.putfield 15, 3) := by decide +kernel
theorem di_X7_18 : decode cX7_init 18 = .ok (.aload_n 0, 1) := by decide +kernel
theorem di_X7_19 : decode cX7_init 19 = .ok (.aload_n 1, 1) := by decide +kernel
theorem di_X7_20 : decode cX7_init 20 = .ok (.putfield 19, 3) := by decide +kernel
theorem di_X7_23 : decode cX7_init 23 = .ok (.return_, 1) := by decide +kernel
theorem wl_X7 : (.methodLink RX7 3 Lib.objectInit : Cond) ∈ TT := TT_mem 289 (by decide +kernel)
theorem fi_X7_2 : Fl RX7 9 7 2 := Fl.mk (RX7, TX7, 5) rfl rfl 292 (by decide +kernel) rfl
theorem fi_X7_4 : Fl RX7 15 7 4 := Fl.mk (RX7, TX7, 5) rfl rfl 296 (by decide +kernel) rfl
theorem fi_X7_0 : Fl RX7 19 7 0 := Fl.mk (RX7, TX7, 5) rfl rfl 290 (by decide +kernel) rfl
abbrev rI_X7 : Room := { frames := 1, cells := 1, slots := 400, locals := 24 }
set_option maxRecDepth 100000 in
theorem ic_X7 (l : Launch) (G : Gx) (h0 sz : Nat) (a1 : Nat) : Ic l G.1 (tyA G) I_X7 rI_X7 [.ref a1] h0 7 sz [.null, .int 0, .null, .int 0, .int 0] [.ref a1, .int 0, .ref (sz + 0), .int 0, .int (-1)] [aI G 400] := by
  refine Ic.of (by decide) rfl (Nat.le_of_ble_eq_true rfl) (fun p e s m args below meth c lsA F ex hi w hl => ?_)
  have hl : lv_has lsA 2 [(0, .ref h0), (1, .ref a1)] := hl
  refine lv_aload_n F.1 F.2.1 di_X7_0 rfl (lv_at hl 0 rfl) ?_
  refine W.objInit F.1 F.2.1 F.2.2.2.2.2.1 (F.2.2.2.2.2.2 _ wl_X7) (F.2.2.2.2.2.2 _ wo_i) (F.2.2.2.2.2.2 _ wo_c) rfl (by rw [F.2.2.1]; exact hl.1) rfl di_X7_1 (Nat.le_of_ble_eq_true rfl) (Nat.le_of_ble_eq_true rfl) ?_
  refine W.eq (g2 := F0 m 4 lsA []) rfl ?_
  refine lv_aload_n F.1 F.2.1 di_X7_4 rfl (lv_at hl 0 rfl) ?_
  refine lv_sipush (v := 400) F.1 F.2.1 di_X7_5 (by decide) ?_
  refine i_newa F wa_int rfl 0 rfl (fun h => h) w (N := 400) (a0 := (400, .inl (fun _ => 0))) rfl (by decide) (by decide) (by decide) rfl (Nat.le_of_ble_eq_true rfl) (Nat.le_of_ble_eq_true rfl) di_X7_8 (fun H w => ?_)
  have w : Wi G.1 (tyA G) [(h0, .inr (7, [.null, .int 0, .null, .int 0, .int 0]))] sz [aI G 400] (frI h0 sz) s H [] := w
  refine i_put F inT_7 tyX7 tyX7_ok nmX7 rfl fi_X7_2 hi rfl w (ty := tyX7 2) (v := .ref (sz + 0)) (tyX7_ok 2 (by decide)) rfl rfl (Nat.blt_eq.mp rfl) di_X7_10 (fun H locs w => ?_)
  have w : Wi G.1 (tyA G) [(h0, .inr (7, [.null, .int 0, .ref (sz + 0), .int 0, .int 0]))] sz [aI G 400] (frI h0 sz) s H locs := w
  refine lv_aload_n F.1 F.2.1 di_X7_13 rfl (lv_at hl 0 rfl) ?_
  refine lv_iconst (v := (-1)) F.1 F.2.1 di_X7_14 (by decide) ?_
  refine i_put F inT_7 tyX7 tyX7_ok nmX7 rfl fi_X7_4 hi rfl w (ty := tyX7 4) (v := .int (-1)) (tyX7_ok 4 (by decide)) rfl rfl (Nat.blt_eq.mp rfl) di_X7_15 (fun H locs w => ?_)
  have w : Wi G.1 (tyA G) [(h0, .inr (7, [.null, .int 0, .ref (sz + 0), .int 0, .int (-1)]))] sz [aI G 400] (frI h0 sz) s H locs := w
  refine lv_aload_n F.1 F.2.1 di_X7_18 rfl (lv_at hl 0 rfl) ?_
  refine lv_aload_n F.1 F.2.1 di_X7_19 rfl (lv_at hl 1 rfl) ?_
  refine i_put F inT_7 tyX7 tyX7_ok nmX7 rfl fi_X7_0 hi rfl w (ty := tyX7 0) (v := .ref a1) (tyX7_ok 0 (by decide)) rfl rfl (Nat.blt_eq.mp rfl) di_X7_20 (fun H locs w => ?_)
  have w : Wi G.1 (tyA G) [(h0, .inr (7, [.ref a1, .int 0, .ref (sz + 0), .int 0, .int (-1)]))] sz [aI G 400] (frI h0 sz) s H locs := w
  exact i_ret F rfl w di_X7_23
abbrev I_X4 : MI := (yX4_init, cX4_init, 3, none)
theorem di_X4_0 : decode cX4_init 0 = .ok (.aload_n 0, 1) := by decide +kernel
theorem di_X4_1 : decode cX4_init 1 = .ok (.invokespecial 3, 3) := by decide +kernel
theorem di_X4_4 : decode cX4_init 4 = .ok (.aload_n 0, 1) := by decide +kernel
theorem di_X4_5 : decode cX4_init 5 = .ok (.bipush 10, 2) := by decide +kernel
theorem di_X4_7 : decode cX4_init 7 = .ok (.newarray .int, 2) := by decide +kernel
theorem di_X4_9 : decode cX4_init 9 = .ok (.putfield 9, 3) := by decide +kernel
theorem di_X4_12 : decode cX4_init 12 = .ok (.aload_n 0, 1) := by decide +kernel
theorem di_X4_13 : decode cX4_init 13 = .ok (.iconst 5, 1) := by decide +kernel
theorem di_X4_14 : decode cX4_init 14 = .ok (.putfield 15, 3) := by decide +kernel
theorem di_X4_17 : decode cX4_init 17 = .ok (.aload_n 0, 1) := by decide +kernel
theorem di_X4_18 : decode cX4_init 18 = .ok (.bipush 10, 2) := by decide +kernel
theorem di_X4_20 : decode cX4_init 20 = .ok (.newarray .int, 2) := by decide +kernel
theorem di_X4_22 : decode cX4_init 22 = .ok (.putfield 19, 3) := by decide +kernel
theorem di_X4_25 : decode cX4_init 25 = .ok (.aload_n 0, 1) := by decide +kernel
theorem di_X4_26 : decode cX4_init 26 = .ok (.bipush 32, 2) := by decide +kernel
theorem di_X4_28 : decode cX4_init 28 = .ok (.newarray .int, 2) := by decide +kernel
theorem di_X4_30 : decode cX4_init 30 = .ok (.putfield 22, 3) := by decide +kernel
theorem di_X4_33 : decode cX4_init 33 = .ok (.aload_n 0, 1) := by decide +kernel
theorem di_X4_34 : decode cX4_init 34 = .ok (.bipush 32, 2) := by decide +kernel
theorem di_X4_36 : decode cX4_init 36 = .ok (.newarray .int, 2) := by decide +kernel
theorem di_X4_38 : decode cX4_init 38 = .ok (.putfield 25, 3) := by decide +kernel
theorem di_X4_41 : decode cX4_init 41 = .ok (.aload_n 0, 1) := by decide +kernel
theorem di_X4_42 : decode cX4_init 42 = .ok (.aload_n 1, 1) := by decide +kernel
theorem di_X4_43 : decode cX4_init 43 = .ok (.putfield 28, 3) := by decide +kernel
theorem di_X4_46 : decode cX4_init 46 = .ok (.aload_n 0, 1) := by decide +kernel
theorem di_X4_47 : decode cX4_init 47 = .ok (.aload_n 2, 1) := by decide +kernel
theorem di_X4_48 : decode cX4_init 48 = .ok (.putfield 32, 3) := by decide +kernel
theorem di_X4_51 : decode cX4_init 51 = .ok (.return_, 1) := by decide +kernel
theorem wl_X4 : (.methodLink RX4 3 Lib.objectInit : Cond) ∈ TT := TT_mem 314 (by decide +kernel)
theorem fi_X4_2 : Fl RX4 9 4 2 := Fl.mk (RX4, TX4, 8) rfl rfl 317 (by decide +kernel) rfl
theorem fi_X4_3 : Fl RX4 15 4 3 := Fl.mk (RX4, TX4, 8) rfl rfl 321 (by decide +kernel) rfl
theorem fi_X4_4 : Fl RX4 19 4 4 := Fl.mk (RX4, TX4, 8) rfl rfl 325 (by decide +kernel) rfl
theorem fi_X4_6 : Fl RX4 22 4 6 := Fl.mk (RX4, TX4, 8) rfl rfl 330 (by decide +kernel) rfl
theorem fi_X4_7 : Fl RX4 25 4 7 := Fl.mk (RX4, TX4, 8) rfl rfl 331 (by decide +kernel) rfl
theorem fi_X4_0 : Fl RX4 28 4 0 := Fl.mk (RX4, TX4, 8) rfl rfl 315 (by decide +kernel) rfl
theorem fi_X4_1 : Fl RX4 32 4 1 := Fl.mk (RX4, TX4, 8) rfl rfl 316 (by decide +kernel) rfl
abbrev rI_X4 : Room := { frames := 1, cells := 4, slots := 84, locals := 24 }
set_option maxRecDepth 100000 in
theorem ic_X4 (l : Launch) (G : Gx) (h0 sz : Nat) (a1 : Nat) (a2 : Nat) : Ic l G.1 (tyA G) I_X4 rI_X4 [.ref a1, .ref a2] h0 4 sz [.null, .null, .null, .int 0, .null, .int 0, .null, .null] [.ref a1, .ref a2, .ref (sz + 0), .int 5, .ref (sz + 1), .int 0, .ref (sz + 2), .ref (sz + 3)] [aI G 10, aI G 10, aI G 32, aI G 32] := by
  refine Ic.of (by decide) rfl (Nat.le_of_ble_eq_true rfl) (fun p e s m args below meth c lsA F ex hi w hl => ?_)
  have hl : lv_has lsA 3 [(0, .ref h0), (1, .ref a1), (2, .ref a2)] := hl
  refine lv_aload_n F.1 F.2.1 di_X4_0 rfl (lv_at hl 0 rfl) ?_
  refine W.objInit F.1 F.2.1 F.2.2.2.2.2.1 (F.2.2.2.2.2.2 _ wl_X4) (F.2.2.2.2.2.2 _ wo_i) (F.2.2.2.2.2.2 _ wo_c) rfl (by rw [F.2.2.1]; exact hl.1) rfl di_X4_1 (Nat.le_of_ble_eq_true rfl) (Nat.le_of_ble_eq_true rfl) ?_
  refine W.eq (g2 := F0 m 4 lsA []) rfl ?_
  refine lv_aload_n F.1 F.2.1 di_X4_4 rfl (lv_at hl 0 rfl) ?_
  refine lv_bipush (v := 10) F.1 F.2.1 di_X4_5 (by decide) ?_
  refine i_newa F wa_int rfl 0 rfl (fun h => h) w (N := 10) (a0 := (10, .inl (fun _ => 0))) rfl (by decide) (by decide) (by decide) rfl (Nat.le_of_ble_eq_true rfl) (Nat.le_of_ble_eq_true rfl) di_X4_7 (fun H w => ?_)
  have w : Wi G.1 (tyA G) [(h0, .inr (4, [.null, .null, .null, .int 0, .null, .int 0, .null, .null]))] sz [aI G 10] (frI h0 sz) s H [] := w
  refine i_put F inT_4 tyX4 tyX4_ok nmX4 rfl fi_X4_2 hi rfl w (ty := tyX4 2) (v := .ref (sz + 0)) (tyX4_ok 2 (by decide)) rfl rfl (Nat.blt_eq.mp rfl) di_X4_9 (fun H locs w => ?_)
  have w : Wi G.1 (tyA G) [(h0, .inr (4, [.null, .null, .ref (sz + 0), .int 0, .null, .int 0, .null, .null]))] sz [aI G 10] (frI h0 sz) s H locs := w
  refine lv_aload_n F.1 F.2.1 di_X4_12 rfl (lv_at hl 0 rfl) ?_
  refine lv_iconst (v := 5) F.1 F.2.1 di_X4_13 (by decide) ?_
  refine i_put F inT_4 tyX4 tyX4_ok nmX4 rfl fi_X4_3 hi rfl w (ty := tyX4 3) (v := .int 5) (tyX4_ok 3 (by decide)) rfl rfl (Nat.blt_eq.mp rfl) di_X4_14 (fun H locs w => ?_)
  have w : Wi G.1 (tyA G) [(h0, .inr (4, [.null, .null, .ref (sz + 0), .int 5, .null, .int 0, .null, .null]))] sz [aI G 10] (frI h0 sz) s H locs := w
  refine lv_aload_n F.1 F.2.1 di_X4_17 rfl (lv_at hl 0 rfl) ?_
  refine lv_bipush (v := 10) F.1 F.2.1 di_X4_18 (by decide) ?_
  refine i_newa F wa_int rfl 0 rfl (fun h => h) w (N := 10) (a0 := (10, .inl (fun _ => 0))) rfl (by decide) (by decide) (by decide) rfl (Nat.le_of_ble_eq_true rfl) (Nat.le_of_ble_eq_true rfl) di_X4_20 (fun H w => ?_)
  have w : Wi G.1 (tyA G) [(h0, .inr (4, [.null, .null, .ref (sz + 0), .int 5, .null, .int 0, .null, .null]))] sz [aI G 10, aI G 10] (frI h0 sz) s H locs := w
  refine i_put F inT_4 tyX4 tyX4_ok nmX4 rfl fi_X4_4 hi rfl w (ty := tyX4 4) (v := .ref (sz + 1)) (tyX4_ok 4 (by decide)) rfl rfl (Nat.blt_eq.mp rfl) di_X4_22 (fun H locs w => ?_)
  have w : Wi G.1 (tyA G) [(h0, .inr (4, [.null, .null, .ref (sz + 0), .int 5, .ref (sz + 1), .int 0, .null, .null]))] sz [aI G 10, aI G 10] (frI h0 sz) s H locs := w
  refine lv_aload_n F.1 F.2.1 di_X4_25 rfl (lv_at hl 0 rfl) ?_
  refine lv_bipush (v := 32) F.1 F.2.1 di_X4_26 (by decide) ?_
  refine i_newa F wa_int rfl 0 rfl (fun h => h) w (N := 32) (a0 := (32, .inl (fun _ => 0))) rfl (by decide) (by decide) (by decide) rfl (Nat.le_of_ble_eq_true rfl) (Nat.le_of_ble_eq_true rfl) di_X4_28 (fun H w => ?_)
  have w : Wi G.1 (tyA G) [(h0, .inr (4, [.null, .null, .ref (sz + 0), .int 5, .ref (sz + 1), .int 0, .null, .null]))] sz [aI G 10, aI G 10, aI G 32] (frI h0 sz) s H locs := w
  refine i_put F inT_4 tyX4 tyX4_ok nmX4 rfl fi_X4_6 hi rfl w (ty := tyX4 6) (v := .ref (sz + 2)) (tyX4_ok 6 (by decide)) rfl rfl (Nat.blt_eq.mp rfl) di_X4_30 (fun H locs w => ?_)
  have w : Wi G.1 (tyA G) [(h0, .inr (4, [.null, .null, .ref (sz + 0), .int 5, .ref (sz + 1), .int 0, .ref (sz + 2), .null]))] sz [aI G 10, aI G 10, aI G 32] (frI h0 sz) s H locs := w
  refine lv_aload_n F.1 F.2.1 di_X4_33 rfl (lv_at hl 0 rfl) ?_
  refine lv_bipush (v := 32) F.1 F.2.1 di_X4_34 (by decide) ?_
  refine i_newa F wa_int rfl 0 rfl (fun h => h) w (N := 32) (a0 := (32, .inl (fun _ => 0))) rfl (by decide) (by decide) (by decide) rfl (Nat.le_of_ble_eq_true rfl) (Nat.le_of_ble_eq_true rfl) di_X4_36 (fun H w => ?_)
  have w : Wi G.1 (tyA G) [(h0, .inr (4, [.null, .null, .ref (sz + 0), .int 5, .ref (sz + 1), .int 0, .ref (sz + 2), .null]))] sz [aI G 10, aI G 10, aI G 32, aI G 32] (frI h0 sz) s H locs := w
  refine i_put F inT_4 tyX4 tyX4_ok nmX4 rfl fi_X4_7 hi rfl w (ty := tyX4 7) (v := .ref (sz + 3)) (tyX4_ok 7 (by decide)) rfl rfl (Nat.blt_eq.mp rfl) di_X4_38 (fun H locs w => ?_)
  have w : Wi G.1 (tyA G) [(h0, .inr (4, [.null, .null, .ref (sz + 0), .int 5, .ref (sz + 1), .int 0, .ref (sz + 2), .ref (sz + 3)]))] sz [aI G 10, aI G 10, aI G 32, aI G 32] (frI h0 sz) s H locs := w
  refine lv_aload_n F.1 F.2.1 di_X4_41 rfl (lv_at hl 0 rfl) ?_
  refine lv_aload_n F.1 F.2.1 di_X4_42 rfl (lv_at hl 1 rfl) ?_
  refine i_put F inT_4 tyX4 tyX4_ok nmX4 rfl fi_X4_0 hi rfl w (ty := tyX4 0) (v := .ref a1) (tyX4_ok 0 (by decide)) rfl rfl (Nat.blt_eq.mp rfl) di_X4_43 (fun H locs w => ?_)
  have w : Wi G.1 (tyA G) [(h0, .inr (4, [.ref a1, .null, .ref (sz + 0), .int 5, .ref (sz + 1), .int 0, .ref (sz + 2), .ref (sz + 3)]))] sz [aI G 10, aI G 10, aI G 32, aI G 32] (frI h0 sz) s H locs := w
  refine lv_aload_n F.1 F.2.1 di_X4_46 rfl (lv_at hl 0 rfl) ?_
  refine lv_aload_n F.1 F.2.1 di_X4_47 rfl (lv_at hl 2 rfl) ?_
  refine i_put F inT_4 tyX4 tyX4_ok nmX4 rfl fi_X4_1 hi rfl w (ty := tyX4 1) (v := .ref a2) (tyX4_ok 1 (by decide)) rfl rfl (Nat.blt_eq.mp rfl) di_X4_48 (fun H locs w => ?_)
  have w : Wi G.1 (tyA G) [(h0, .inr (4, [.ref a1, .ref a2, .ref (sz + 0), .int 5, .ref (sz + 1), .int 0, .ref (sz + 2), .ref (sz + 3)]))] sz [aI G 10, aI G 10, aI G 32, aI G 32] (frI h0 sz) s H locs := w
  exact i_ret F rfl w di_X4_51
abbrev I_X10 : MI := (yX10_init, cX10_init, 4, none)
theorem di_X10_0 : decode cX10_init 0 = .ok (.aload_n 0, 1) := by decide +kernel
theorem di_X10_1 : decode cX10_init 1 = .ok (.invokespecial 3, 3) := by decide +kernel
theorem di_X10_4 : decode cX10_init 4 = .ok (.aload_n 0, 1) := by decide +kernel
theorem di_X10_5 : decode cX10_init 5 = .ok (.bipush 8, 2) := by decide +kernel
theorem di_X10_7 : decode cX10_init 7 = .ok (.newarray .int, 2) := by decide +kernel
theorem di_X10_9 : decode cX10_init 9 = .ok (.putfield 9, 3) := by decide +kernel
theorem di_X10_12 : decode cX10_init 12 = .ok (.aload_n 0, 1) := by decide +kernel
theorem di_X10_13 : decode cX10_init 13 = .ok (.bipush 10, 2) := by decide +kernel
theorem di_X10_15 : decode cX10_init 15 = .ok (.newarray .int, 2) := by decide +kernel
theorem di_X10_17 : decode cX10_init 17 = .ok (.putfield 15, 3) := by decide +kernel
theorem di_X10_20 : decode cX10_init 20 = .ok (.aload_n 0, 1) := by decide +kernel
theorem di_X10_21 : decode cX10_init 21 = .ok (.bipush 10, 2) := by decide +kernel
theorem di_X10_23 : decode cX10_init 23 = .ok (.newarray .int, 2) := by decide +kernel
theorem di_X10_25 : decode cX10_init 25 = .ok (.putfield 18, 3) := by decide +kernel
theorem di_X10_28 : decode cX10_init 28 = .ok (.aload_n 0, 1) := by decide +kernel
theorem di_X10_29 : decode cX10_init 29 = .ok (.bipush 8, 2) := by decide +kernel
theorem di_X10_31 : decode cX10_init 31 = .ok (.newarray .int, 2) := by decide +kernel
theorem di_X10_33 : decode cX10_init 33 = .ok (.putfield 21, 3) := by decide +kernel
theorem di_X10_36 : decode cX10_init 36 = .ok (.aload_n 0, 1) := by decide +kernel
theorem di_X10_37 : decode cX10_init 37 = .ok (.bipush 80, 2) := by decide +kernel
theorem di_X10_39 : decode cX10_init 39 = .ok (.newarray .int, 2) := by decide +kernel
theorem di_X10_41 : decode cX10_init 41 = .ok (.putfield 24, 3) := by decide +kernel
theorem di_X10_44 : decode cX10_init 44 = .ok (.aload_n 0, 1) := by decide +kernel
theorem di_X10_45 : decode cX10_init 45 = .ok (.aload_n 1, 1) := by decide +kernel
theorem di_X10_46 : decode cX10_init 46 = .ok (.putfield 27, 3) := by decide +kernel
theorem di_X10_49 : decode cX10_init 49 = .ok (.aload_n 0, 1) := by decide +kernel
theorem di_X10_50 : decode cX10_init 50 = .ok (.aload_n 2, 1) := by decide +kernel
theorem di_X10_51 : decode cX10_init 51 = .ok (.putfield 31, 3) := by decide +kernel
theorem di_X10_54 : decode cX10_init 54 = .ok (.aload_n 0, 1) := by decide +kernel
theorem di_X10_55 : decode cX10_init 55 = .ok (.aload_n 3, 1) := by decide +kernel
theorem di_X10_56 : decode cX10_init 56 = .ok (.putfield 35, 3) := by decide +kernel
theorem di_X10_59 : decode cX10_init 59 = .ok (.return_, 1) := by decide +kernel
theorem wl_X10 : (.methodLink RX10 3 Lib.objectInit : Cond) ∈ TT := TT_mem 399 (by decide +kernel)
theorem fi_X10_3 : Fl RX10 9 10 3 := Fl.mk (RX10, TX10, 8) rfl rfl 403 (by decide +kernel) rfl
theorem fi_X10_4 : Fl RX10 15 10 4 := Fl.mk (RX10, TX10, 8) rfl rfl 407 (by decide +kernel) rfl
theorem fi_X10_5 : Fl RX10 18 10 5 := Fl.mk (RX10, TX10, 8) rfl rfl 409 (by decide +kernel) rfl
theorem fi_X10_6 : Fl RX10 21 10 6 := Fl.mk (RX10, TX10, 8) rfl rfl 410 (by decide +kernel) rfl
theorem fi_X10_7 : Fl RX10 24 10 7 := Fl.mk (RX10, TX10, 8) rfl rfl 411 (by decide +kernel) rfl
theorem fi_X10_0 : Fl RX10 27 10 0 := Fl.mk (RX10, TX10, 8) rfl rfl 400 (by decide +kernel) rfl
theorem fi_X10_1 : Fl RX10 31 10 1 := Fl.mk (RX10, TX10, 8) rfl rfl 401 (by decide +kernel) rfl
theorem fi_X10_2 : Fl RX10 35 10 2 := Fl.mk (RX10, TX10, 8) rfl rfl 402 (by decide +kernel) rfl
abbrev rI_X10 : Room := { frames := 1, cells := 5, slots := 116, locals := 24 }
set_option maxRecDepth 100000 in
theorem ic_X10 (l : Launch) (G : Gx) (h0 sz : Nat) (a1 : Nat) (a2 : Nat) (a3 : Nat) : Ic l G.1 (tyA G) I_X10 rI_X10 [.ref a1, .ref a2, .ref a3] h0 10 sz [.null, .null, .null, .null, .null, .null, .null, .null] [.ref a1, .ref a2, .ref a3, .ref (sz + 0), .ref (sz + 1), .ref (sz + 2), .ref (sz + 3), .ref (sz + 4)] [aI G 8, aI G 10, aI G 10, aI G 8, aI G 80] := by
  refine Ic.of (by decide) rfl (Nat.le_of_ble_eq_true rfl) (fun p e s m args below meth c lsA F ex hi w hl => ?_)
  have hl : lv_has lsA 4 [(0, .ref h0), (1, .ref a1), (2, .ref a2), (3, .ref a3)] := hl
  refine lv_aload_n F.1 F.2.1 di_X10_0 rfl (lv_at hl 0 rfl) ?_
  refine W.objInit F.1 F.2.1 F.2.2.2.2.2.1 (F.2.2.2.2.2.2 _ wl_X10) (F.2.2.2.2.2.2 _ wo_i) (F.2.2.2.2.2.2 _ wo_c) rfl (by rw [F.2.2.1]; exact hl.1) rfl di_X10_1 (Nat.le_of_ble_eq_true rfl) (Nat.le_of_ble_eq_true rfl) ?_
  refine W.eq (g2 := F0 m 4 lsA []) rfl ?_
  refine lv_aload_n F.1 F.2.1 di_X10_4 rfl (lv_at hl 0 rfl) ?_
  refine lv_bipush (v := 8) F.1 F.2.1 di_X10_5 (by decide) ?_
  refine i_newa F wa_int rfl 0 rfl (fun h => h) w (N := 8) (a0 := (8, .inl (fun _ => 0))) rfl (by decide) (by decide) (by decide) rfl (Nat.le_of_ble_eq_true rfl) (Nat.le_of_ble_eq_true rfl) di_X10_7 (fun H w => ?_)
  have w : Wi G.1 (tyA G) [(h0, .inr (10, [.null, .null, .null, .null, .null, .null, .null, .null]))] sz [aI G 8] (frI h0 sz) s H [] := w
  refine i_put F inT_10 tyX10 tyX10_ok nmX10 rfl fi_X10_3 hi rfl w (ty := tyX10 3) (v := .ref (sz + 0)) (tyX10_ok 3 (by decide)) rfl rfl (Nat.blt_eq.mp rfl) di_X10_9 (fun H locs w => ?_)
  have w : Wi G.1 (tyA G) [(h0, .inr (10, [.null, .null, .null, .ref (sz + 0), .null, .null, .null, .null]))] sz [aI G 8] (frI h0 sz) s H locs := w
  refine lv_aload_n F.1 F.2.1 di_X10_12 rfl (lv_at hl 0 rfl) ?_
  refine lv_bipush (v := 10) F.1 F.2.1 di_X10_13 (by decide) ?_
  refine i_newa F wa_int rfl 0 rfl (fun h => h) w (N := 10) (a0 := (10, .inl (fun _ => 0))) rfl (by decide) (by decide) (by decide) rfl (Nat.le_of_ble_eq_true rfl) (Nat.le_of_ble_eq_true rfl) di_X10_15 (fun H w => ?_)
  have w : Wi G.1 (tyA G) [(h0, .inr (10, [.null, .null, .null, .ref (sz + 0), .null, .null, .null, .null]))] sz [aI G 8, aI G 10] (frI h0 sz) s H locs := w
  refine i_put F inT_10 tyX10 tyX10_ok nmX10 rfl fi_X10_4 hi rfl w (ty := tyX10 4) (v := .ref (sz + 1)) (tyX10_ok 4 (by decide)) rfl rfl (Nat.blt_eq.mp rfl) di_X10_17 (fun H locs w => ?_)
  have w : Wi G.1 (tyA G) [(h0, .inr (10, [.null, .null, .null, .ref (sz + 0), .ref (sz + 1), .null, .null, .null]))] sz [aI G 8, aI G 10] (frI h0 sz) s H locs := w
  refine lv_aload_n F.1 F.2.1 di_X10_20 rfl (lv_at hl 0 rfl) ?_
  refine lv_bipush (v := 10) F.1 F.2.1 di_X10_21 (by decide) ?_
  refine i_newa F wa_int rfl 0 rfl (fun h => h) w (N := 10) (a0 := (10, .inl (fun _ => 0))) rfl (by decide) (by decide) (by decide) rfl (Nat.le_of_ble_eq_true rfl) (Nat.le_of_ble_eq_true rfl) di_X10_23 (fun H w => ?_)
  have w : Wi G.1 (tyA G) [(h0, .inr (10, [.null, .null, .null, .ref (sz + 0), .ref (sz + 1), .null, .null, .null]))] sz [aI G 8, aI G 10, aI G 10] (frI h0 sz) s H locs := w
  refine i_put F inT_10 tyX10 tyX10_ok nmX10 rfl fi_X10_5 hi rfl w (ty := tyX10 5) (v := .ref (sz + 2)) (tyX10_ok 5 (by decide)) rfl rfl (Nat.blt_eq.mp rfl) di_X10_25 (fun H locs w => ?_)
  have w : Wi G.1 (tyA G) [(h0, .inr (10, [.null, .null, .null, .ref (sz + 0), .ref (sz + 1), .ref (sz + 2), .null, .null]))] sz [aI G 8, aI G 10, aI G 10] (frI h0 sz) s H locs := w
  refine lv_aload_n F.1 F.2.1 di_X10_28 rfl (lv_at hl 0 rfl) ?_
  refine lv_bipush (v := 8) F.1 F.2.1 di_X10_29 (by decide) ?_
  refine i_newa F wa_int rfl 0 rfl (fun h => h) w (N := 8) (a0 := (8, .inl (fun _ => 0))) rfl (by decide) (by decide) (by decide) rfl (Nat.le_of_ble_eq_true rfl) (Nat.le_of_ble_eq_true rfl) di_X10_31 (fun H w => ?_)
  have w : Wi G.1 (tyA G) [(h0, .inr (10, [.null, .null, .null, .ref (sz + 0), .ref (sz + 1), .ref (sz + 2), .null, .null]))] sz [aI G 8, aI G 10, aI G 10, aI G 8] (frI h0 sz) s H locs := w
  refine i_put F inT_10 tyX10 tyX10_ok nmX10 rfl fi_X10_6 hi rfl w (ty := tyX10 6) (v := .ref (sz + 3)) (tyX10_ok 6 (by decide)) rfl rfl (Nat.blt_eq.mp rfl) di_X10_33 (fun H locs w => ?_)
  have w : Wi G.1 (tyA G) [(h0, .inr (10, [.null, .null, .null, .ref (sz + 0), .ref (sz + 1), .ref (sz + 2), .ref (sz + 3), .null]))] sz [aI G 8, aI G 10, aI G 10, aI G 8] (frI h0 sz) s H locs := w
  refine lv_aload_n F.1 F.2.1 di_X10_36 rfl (lv_at hl 0 rfl) ?_
  refine lv_bipush (v := 80) F.1 F.2.1 di_X10_37 (by decide) ?_
  refine i_newa F wa_int rfl 0 rfl (fun h => h) w (N := 80) (a0 := (80, .inl (fun _ => 0))) rfl (by decide) (by decide) (by decide) rfl (Nat.le_of_ble_eq_true rfl) (Nat.le_of_ble_eq_true rfl) di_X10_39 (fun H w => ?_)
  have w : Wi G.1 (tyA G) [(h0, .inr (10, [.null, .null, .null, .ref (sz + 0), .ref (sz + 1), .ref (sz + 2), .ref (sz + 3), .null]))] sz [aI G 8, aI G 10, aI G 10, aI G 8, aI G 80] (frI h0 sz) s H locs := w
  refine i_put F inT_10 tyX10 tyX10_ok nmX10 rfl fi_X10_7 hi rfl w (ty := tyX10 7) (v := .ref (sz + 4)) (tyX10_ok 7 (by decide)) rfl rfl (Nat.blt_eq.mp rfl) di_X10_41 (fun H locs w => ?_)
  have w : Wi G.1 (tyA G) [(h0, .inr (10, [.null, .null, .null, .ref (sz + 0), .ref (sz + 1), .ref (sz + 2), .ref (sz + 3), .ref (sz + 4)]))] sz [aI G 8, aI G 10, aI G 10, aI G 8, aI G 80] (frI h0 sz) s H locs := w
  refine lv_aload_n F.1 F.2.1 di_X10_44 rfl (lv_at hl 0 rfl) ?_
  refine lv_aload_n F.1 F.2.1 di_X10_45 rfl (lv_at hl 1 rfl) ?_
  refine i_put F inT_10 tyX10 tyX10_ok nmX10 rfl fi_X10_0 hi rfl w (ty := tyX10 0) (v := .ref a1) (tyX10_ok 0 (by decide)) rfl rfl (Nat.blt_eq.mp rfl) di_X10_46 (fun H locs w => ?_)
  have w : Wi G.1 (tyA G) [(h0, .inr (10, [.ref a1, .null, .null, .ref (sz + 0), .ref (sz + 1), .ref (sz + 2), .ref (sz + 3), .ref (sz + 4)]))] sz [aI G 8, aI G 10, aI G 10, aI G 8, aI G 80] (frI h0 sz) s H locs := w
  refine lv_aload_n F.1 F.2.1 di_X10_49 rfl (lv_at hl 0 rfl) ?_
  refine lv_aload_n F.1 F.2.1 di_X10_50 rfl (lv_at hl 2 rfl) ?_
  refine i_put F inT_10 tyX10 tyX10_ok nmX10 rfl fi_X10_1 hi rfl w (ty := tyX10 1) (v := .ref a2) (tyX10_ok 1 (by decide)) rfl rfl (Nat.blt_eq.mp rfl) di_X10_51 (fun H locs w => ?_)
  have w : Wi G.1 (tyA G) [(h0, .inr (10, [.ref a1, .ref a2, .null, .ref (sz + 0), .ref (sz + 1), .ref (sz + 2), .ref (sz + 3), .ref (sz + 4)]))] sz [aI G 8, aI G 10, aI G 10, aI G 8, aI G 80] (frI h0 sz) s H locs := w
  refine lv_aload_n F.1 F.2.1 di_X10_54 rfl (lv_at hl 0 rfl) ?_
  refine lv_aload_n F.1 F.2.1 di_X10_55 rfl (lv_at hl 3 rfl) ?_
  refine i_put F inT_10 tyX10 tyX10_ok nmX10 rfl fi_X10_2 hi rfl w (ty := tyX10 2) (v := .ref a3) (tyX10_ok 2 (by decide)) rfl rfl (Nat.blt_eq.mp rfl) di_X10_56 (fun H locs w => ?_)
  have w : Wi G.1 (tyA G) [(h0, .inr (10, [.ref a1, .ref a2, .ref a3, .ref (sz + 0), .ref (sz + 1), .ref (sz + 2), .ref (sz + 3), .ref (sz + 4)]))] sz [aI G 8, aI G 10, aI G 10, aI G 8, aI G 80] (frI h0 sz) s H locs := w
  exact i_ret F rfl w di_X10_59
abbrev I_X3 : MI := (yX3_init, cX3_init, 4, none)
theorem di_X3_0 : decode cX3_init 0 = .ok (.aload_n 0, 1) := by decide +kernel
theorem di_X3_1 : decode cX3_init 1 = .ok (.invokespecial 3, 3) := by decide +kernel
theorem di_X3_4 : decode cX3_init 4 = .ok (.aload_n 0, 1) := by decide +kernel
theorem di_X3_5 : decode cX3_init 5 = .ok (.iconst 4, 1) := by decide +kernel
theorem di_X3_6 : decode cX3_init 6 = .ok (.newarray .int, 2) := by decide +kernel
theorem di_X3_8 : decode cX3_init 8 = .ok (.putfield 9, 3) := by decide +kernel
theorem di_X3_11 : decode cX3_init 11 = .ok (.aload_n 0, 1) := by decide +kernel
theorem di_X3_12 : decode cX3_init 12 = .ok (.aload_n 1, 1) := by decide +kernel
theorem di_X3_13 : decode cX3_init 13 = .ok (.putfield 15, 3) := by decide +kernel
theorem di_X3_16 : decode cX3_init 16 = .ok (.aload_n 0, 1) := by decide +kernel
theorem di_X3_17 : decode cX3_init 17 = .ok (.aload_n 2, 1) := by decide +kernel
theorem di_X3_18 : decode cX3_init 18 = .ok (.putfield 19, 3) := by decide +kernel
theorem di_X3_21 : decode cX3_init 21 = .ok (.aload_n 0, 1) := by decide +kernel
theorem di_X3_22 : decode cX3_init 22 = .ok (.aload_n 3, 1) := by decide +kernel
theorem di_X3_23 : decode cX3_init 23 = .ok (.putfield 23, 3) := by decide +kernel
theorem di_X3_26 : decode cX3_init 26 = .ok (.return_, 1) := by decide +kernel
theorem wl_X3 : (.methodLink RX3 3 Lib.objectInit : Cond) ∈ TT := TT_mem 434 (by decide +kernel)
theorem fi_X3_3 : Fl RX3 9 3 3 := Fl.mk (RX3, TX3, 4) rfl rfl 438 (by decide +kernel) rfl
theorem fi_X3_0 : Fl RX3 15 3 0 := Fl.mk (RX3, TX3, 4) rfl rfl 435 (by decide +kernel) rfl
theorem fi_X3_1 : Fl RX3 19 3 1 := Fl.mk (RX3, TX3, 4) rfl rfl 436 (by decide +kernel) rfl
theorem fi_X3_2 : Fl RX3 23 3 2 := Fl.mk (RX3, TX3, 4) rfl rfl 437 (by decide +kernel) rfl
abbrev rI_X3 : Room := { frames := 1, cells := 1, slots := 4, locals := 24 }
set_option maxRecDepth 100000 in
theorem ic_X3 (l : Launch) (G : Gx) (h0 sz : Nat) (a1 : Nat) (a2 : Nat) (a3 : Nat) : Ic l G.1 (tyA G) I_X3 rI_X3 [.ref a1, .ref a2, .ref a3] h0 3 sz [.null, .null, .null, .null] [.ref a1, .ref a2, .ref a3, .ref (sz + 0)] [aI G 4] := by
  refine Ic.of (by decide) rfl (Nat.le_of_ble_eq_true rfl) (fun p e s m args below meth c lsA F ex hi w hl => ?_)
  have hl : lv_has lsA 4 [(0, .ref h0), (1, .ref a1), (2, .ref a2), (3, .ref a3)] := hl
  refine lv_aload_n F.1 F.2.1 di_X3_0 rfl (lv_at hl 0 rfl) ?_
  refine W.objInit F.1 F.2.1 F.2.2.2.2.2.1 (F.2.2.2.2.2.2 _ wl_X3) (F.2.2.2.2.2.2 _ wo_i) (F.2.2.2.2.2.2 _ wo_c) rfl (by rw [F.2.2.1]; exact hl.1) rfl di_X3_1 (Nat.le_of_ble_eq_true rfl) (Nat.le_of_ble_eq_true rfl) ?_
  refine W.eq (g2 := F0 m 4 lsA []) rfl ?_
  refine lv_aload_n F.1 F.2.1 di_X3_4 rfl (lv_at hl 0 rfl) ?_
  refine lv_iconst (v := 4) F.1 F.2.1 di_X3_5 (by decide) ?_
  refine i_newa F wa_int rfl 0 rfl (fun h => h) w (N := 4) (a0 := (4, .inl (fun _ => 0))) rfl (by decide) (by decide) (by decide) rfl (Nat.le_of_ble_eq_true rfl) (Nat.le_of_ble_eq_true rfl) di_X3_6 (fun H w => ?_)
  have w : Wi G.1 (tyA G) [(h0, .inr (3, [.null, .null, .null, .null]))] sz [aI G 4] (frI h0 sz) s H [] := w
  refine i_put F inT_3 tyX3 tyX3_ok nmX3 rfl fi_X3_3 hi rfl w (ty := tyX3 3) (v := .ref (sz + 0)) (tyX3_ok 3 (by decide)) rfl rfl (Nat.blt_eq.mp rfl) di_X3_8 (fun H locs w => ?_)
  have w : Wi G.1 (tyA G) [(h0, .inr (3, [.null, .null, .null, .ref (sz + 0)]))] sz [aI G 4] (frI h0 sz) s H locs := w
  refine lv_aload_n F.1 F.2.1 di_X3_11 rfl (lv_at hl 0 rfl) ?_
  refine lv_aload_n F.1 F.2.1 di_X3_12 rfl (lv_at hl 1 rfl) ?_
  refine i_put F inT_3 tyX3 tyX3_ok nmX3 rfl fi_X3_0 hi rfl w (ty := tyX3 0) (v := .ref a1) (tyX3_ok 0 (by decide)) rfl rfl (Nat.blt_eq.mp rfl) di_X3_13 (fun H locs w => ?_)
  have w : Wi G.1 (tyA G) [(h0, .inr (3, [.ref a1, .null, .null, .ref (sz + 0)]))] sz [aI G 4] (frI h0 sz) s H locs := w
  refine lv_aload_n F.1 F.2.1 di_X3_16 rfl (lv_at hl 0 rfl) ?_
  refine lv_aload_n F.1 F.2.1 di_X3_17 rfl (lv_at hl 2 rfl) ?_
  refine i_put F inT_3 tyX3 tyX3_ok nmX3 rfl fi_X3_1 hi rfl w (ty := tyX3 1) (v := .ref a2) (tyX3_ok 1 (by decide)) rfl rfl (Nat.blt_eq.mp rfl) di_X3_18 (fun H locs w => ?_)
  have w : Wi G.1 (tyA G) [(h0, .inr (3, [.ref a1, .ref a2, .null, .ref (sz + 0)]))] sz [aI G 4] (frI h0 sz) s H locs := w
  refine lv_aload_n F.1 F.2.1 di_X3_21 rfl (lv_at hl 0 rfl) ?_
  refine lv_aload_n F.1 F.2.1 di_X3_22 rfl (lv_at hl 3 rfl) ?_
  refine i_put F inT_3 tyX3 tyX3_ok nmX3 rfl fi_X3_2 hi rfl w (ty := tyX3 2) (v := .ref a3) (tyX3_ok 2 (by decide)) rfl rfl (Nat.blt_eq.mp rfl) di_X3_23 (fun H locs w => ?_)
  have w : Wi G.1 (tyA G) [(h0, .inr (3, [.ref a1, .ref a2, .ref a3, .ref (sz + 0)]))] sz [aI G 4] (frI h0 sz) s H locs := w
  exact i_ret F rfl w di_X3_26
abbrev I_X2 : MI := (yX2_init, cX2_init, 4, none)
theorem di_X2_0 : decode cX2_init 0 = .ok (.aload_n 0, 1) := by decide +kernel
theorem di_X2_1 : decode cX2_init 1 = .ok (.invokespecial 3, 3) := by decide +kernel
theorem di_X2_4 : decode cX2_init 4 = .ok (.aload_n 0, 1) := by decide +kernel
theorem di_X2_5 : decode cX2_init 5 = .ok (.bipush 8, 2) := by decide +kernel
theorem di_X2_7 : decode cX2_init 7 = .ok (.newarray .int, 2) := by decide +kernel
theorem di_X2_9 : decode cX2_init 9 = .ok (.putfield 9, 3) := by decide +kernel
theorem di_X2_12 : decode cX2_init 12 = .ok (.aload_n 0, 1) := by decide +kernel
theorem di_X2_13 : decode cX2_init 13 = .ok (.aload_n 1, 1) := by decide +kernel
theorem di_X2_14 : decode cX2_init 14 = .ok (.putfield 15, 3) := by decide +kernel
theorem di_X2_17 : decode cX2_init 17 = .ok (.aload_n 0, 1) := by decide +kernel
theorem di_X2_18 : decode cX2_init 18 = .ok (.aload_n 2, 1) := by decide +kernel
theorem di_X2_19 : decode cX2_init 19 = .ok (.putfield 19, 3) := by decide +kernel
theorem di_X2_22 : decode cX2_init 22 = .ok (.aload_n 0, 1) := by decide +kernel
theorem di_X2_23 : decode cX2_init 23 = .ok (.aload_n 3, 1) := by decide +kernel
theorem di_X2_24 : decode cX2_init 24 = .ok (.putfield 23, 3) := by decide +kernel
theorem di_X2_27 : decode cX2_init 27 = .ok (.return_, 1) := by decide +kernel
theorem wl_X2 : (.methodLink RX2 3 Lib.objectInit : Cond) ∈ TT := TT_mem 454 (by decide +kernel)
theorem fi_X2_4 : Fl RX2 9 2 4 := Fl.mk (RX2, TX2, 5) rfl rfl 460 (by decide +kernel) rfl
theorem fi_X2_0 : Fl RX2 15 2 0 := Fl.mk (RX2, TX2, 5) rfl rfl 455 (by decide +kernel) rfl
theorem fi_X2_1 : Fl RX2 19 2 1 := Fl.mk (RX2, TX2, 5) rfl rfl 456 (by decide +kernel) rfl
theorem fi_X2_2 : Fl RX2 23 2 2 := Fl.mk (RX2, TX2, 5) rfl rfl 457 (by decide +kernel) rfl
abbrev rI_X2 : Room := { frames := 1, cells := 1, slots := 8, locals := 24 }
set_option maxRecDepth 100000 in
theorem ic_X2 (l : Launch) (G : Gx) (h0 sz : Nat) (a1 : Nat) (a2 : Nat) (a3 : Nat) : Ic l G.1 (tyA G) I_X2 rI_X2 [.ref a1, .ref a2, .ref a3] h0 2 sz [.null, .null, .null, .int 0, .null] [.ref a1, .ref a2, .ref a3, .int 0, .ref (sz + 0)] [aI G 8] := by
  refine Ic.of (by decide) rfl (Nat.le_of_ble_eq_true rfl) (fun p e s m args below meth c lsA F ex hi w hl => ?_)
  have hl : lv_has lsA 4 [(0, .ref h0), (1, .ref a1), (2, .ref a2), (3, .ref a3)] := hl
  refine lv_aload_n F.1 F.2.1 di_X2_0 rfl (lv_at hl 0 rfl) ?_
  refine W.objInit F.1 F.2.1 F.2.2.2.2.2.1 (F.2.2.2.2.2.2 _ wl_X2) (F.2.2.2.2.2.2 _ wo_i) (F.2.2.2.2.2.2 _ wo_c) rfl (by rw [F.2.2.1]; exact hl.1) rfl di_X2_1 (Nat.le_of_ble_eq_true rfl) (Nat.le_of_ble_eq_true rfl) ?_
  refine W.eq (g2 := F0 m 4 lsA []) rfl ?_
  refine lv_aload_n F.1 F.2.1 di_X2_4 rfl (lv_at hl 0 rfl) ?_
  refine lv_bipush (v := 8) F.1 F.2.1 di_X2_5 (by decide) ?_
  refine i_newa F wa_int rfl 0 rfl (fun h => h) w (N := 8) (a0 := (8, .inl (fun _ => 0))) rfl (by decide) (by decide) (by decide) rfl (Nat.le_of_ble_eq_true rfl) (Nat.le_of_ble_eq_true rfl) di_X2_7 (fun H w => ?_)
  have w : Wi G.1 (tyA G) [(h0, .inr (2, [.null, .null, .null, .int 0, .null]))] sz [aI G 8] (frI h0 sz) s H [] := w
  refine i_put F inT_2 tyX2 tyX2_ok nmX2 rfl fi_X2_4 hi rfl w (ty := tyX2 4) (v := .ref (sz + 0)) (tyX2_ok 4 (by decide)) rfl rfl (Nat.blt_eq.mp rfl) di_X2_9 (fun H locs w => ?_)
  have w : Wi G.1 (tyA G) [(h0, .inr (2, [.null, .null, .null, .int 0, .ref (sz + 0)]))] sz [aI G 8] (frI h0 sz) s H locs := w
  refine lv_aload_n F.1 F.2.1 di_X2_12 rfl (lv_at hl 0 rfl) ?_
  refine lv_aload_n F.1 F.2.1 di_X2_13 rfl (lv_at hl 1 rfl) ?_
  refine i_put F inT_2 tyX2 tyX2_ok nmX2 rfl fi_X2_0 hi rfl w (ty := tyX2 0) (v := .ref a1) (tyX2_ok 0 (by decide)) rfl rfl (Nat.blt_eq.mp rfl) di_X2_14 (fun H locs w => ?_)
  have w : Wi G.1 (tyA G) [(h0, .inr (2, [.ref a1, .null, .null, .int 0, .ref (sz + 0)]))] sz [aI G 8] (frI h0 sz) s H locs := w
  refine lv_aload_n F.1 F.2.1 di_X2_17 rfl (lv_at hl 0 rfl) ?_
  refine lv_aload_n F.1 F.2.1 di_X2_18 rfl (lv_at hl 2 rfl) ?_
  refine i_put F inT_2 tyX2 tyX2_ok nmX2 rfl fi_X2_1 hi rfl w (ty := tyX2 1) (v := .ref a2) (tyX2_ok 1 (by decide)) rfl rfl (Nat.blt_eq.mp rfl) di_X2_19 (fun H locs w => ?_)
  have w : Wi G.1 (tyA G) [(h0, .inr (2, [.ref a1, .ref a2, .null, .int 0, .ref (sz + 0)]))] sz [aI G 8] (frI h0 sz) s H locs := w
  refine lv_aload_n F.1 F.2.1 di_X2_22 rfl (lv_at hl 0 rfl) ?_
  refine lv_aload_n F.1 F.2.1 di_X2_23 rfl (lv_at hl 3 rfl) ?_
  refine i_put F inT_2 tyX2 tyX2_ok nmX2 rfl fi_X2_2 hi rfl w (ty := tyX2 2) (v := .ref a3) (tyX2_ok 2 (by decide)) rfl rfl (Nat.blt_eq.mp rfl) di_X2_24 (fun H locs w => ?_)
  have w : Wi G.1 (tyA G) [(h0, .inr (2, [.ref a1, .ref a2, .ref a3, .int 0, .ref (sz + 0)]))] sz [aI G 8] (frI h0 sz) s H locs := w
  exact i_ret F rfl w di_X2_27
abbrev I_X5 : MI := (yX5_init, cX5_init, 3, none)
theorem di_X5_0 : decode cX5_init 0 = .ok (.aload_n 0, 1) := by decide +kernel
theorem di_X5_1 : decode cX5_init 1 = .ok (.invokespecial 3, 3) := by decide +kernel
theorem di_X5_4 : decode cX5_init 4 = .ok (.aload_n 0, 1) := by decide +kernel
theorem di_X5_5 : decode cX5_init 5 = .ok (.sipush 400, 3) := by decide +kernel
theorem di_X5_8 : decode cX5_init 8 = .ok (.newarray .int, 2) := by decide +kernel
theorem di_X5_10 : decode cX5_init 10 = .ok (.putfield 9, 3) := by decide +kernel
theorem di_X5_13 : decode cX5_init 13 = .ok (.aload_n 0, 1) := by decide +kernel
theorem di_X5_14 : decode cX5_init 14 = .ok (.sipush 1024, 3) := by decide +kernel
theorem di_X5_17 : decode cX5_init 17 = .ok (.newarray .int, 2) := by decide +kernel
theorem di_X5_19 : decode cX5_init 19 = .ok (.putfield 15, 3) := by decide +kernel
theorem di_X5_22 : decode cX5_init 22 = .ok (.aload_n 0, 1) := by decide +kernel
theorem di_X5_23 : decode cX5_init 23 = .ok (.sipush 1024, 3) := by decide +kernel
theorem di_X5_26 : decode cX5_init 26 = .ok (.newarray .boolean, 2) := by decide +kernel
theorem di_X5_28 : decode cX5_init 28 = .ok (.putfield 18, 3) := by decide +kernel
theorem di_X5_31 : decode cX5_init 31 = .ok (.aload_n 0, 1) := by decide +kernel
theorem di_X5_32 : decode cX5_init 32 = .ok (.sipush 1024, 3) := by decide +kernel
theorem di_X5_35 : decode cX5_init 35 = .ok (.newarray .int, 2) := by decide +kernel
theorem di_X5_37 : decode cX5_init 37 = .ok (.putfield 22, 3) := by decide +kernel
theorem di_X5_40 : decode cX5_init 40 = .ok (.aload_n 0, 1) := by decide +kernel
theorem di_X5_41 : decode cX5_init 41 = .ok (.iload_n 1, 1) := by decide +kernel
theorem di_X5_42 : decode cX5_init 42 = .ok (.putfield 25, 3) := by decide +kernel
theorem di_X5_45 : decode cX5_init 45 = .ok (.aload_n 0, 1) := by decide +kernel
theorem di_X5_46 : decode cX5_init 46 = .ok (.iload_n 2, 1) := by decide +kernel
theorem di_X5_47 : decode cX5_init 47 = .ok (.putfield 29, 3) := by decide +kernel
theorem di_X5_50 : decode cX5_init 50 = .ok (.return_, 1) := by decide +kernel
theorem wl_X5 : (.methodLink RX5 3 Lib.objectInit : Cond) ∈ TT := TT_mem 478 (by decide +kernel)
theorem fi_X5_3 : Fl RX5 9 5 3 := Fl.mk (RX5, TX5, 10) rfl rfl 488 (by decide +kernel) rfl
theorem fi_X5_6 : Fl RX5 15 5 6 := Fl.mk (RX5, TX5, 10) rfl rfl 495 (by decide +kernel) rfl
theorem fi_X5_7 : Fl RX5 18 5 7 := Fl.mk (RX5, TX5, 10) rfl rfl 499 (by decide +kernel) rfl
theorem fi_X5_9 : Fl RX5 22 5 9 := Fl.mk (RX5, TX5, 10) rfl rfl 505 (by decide +kernel) rfl
theorem fi_X5_0 : Fl RX5 25 5 0 := Fl.mk (RX5, TX5, 10) rfl rfl 479 (by decide +kernel) rfl
theorem fi_X5_1 : Fl RX5 29 5 1 := Fl.mk (RX5, TX5, 10) rfl rfl 484 (by decide +kernel) rfl
abbrev rI_X5 : Room := { frames := 1, cells := 4, slots := 3472, locals := 24 }
set_option maxRecDepth 100000 in
theorem ic_X5 (l : Launch) (G : Gx) (h0 sz : Nat) (a1 : Int32) (a2 : Int32) : Ic l G.1 (tyA G) I_X5 rI_X5 [.int a1, .int a2] h0 5 sz [.int 0, .int 0, .int 0, .null, .int 0, .int 0, .null, .null, .int 0, .null] [.int a1, .int a2, .int 0, .ref (sz + 0), .int 0, .int 0, .ref (sz + 1), .ref (sz + 2), .int 0, .ref (sz + 3)] [aI G 400, aI G 1024, aB G 1024, aI G 1024] := by
  refine Ic.of (by decide) rfl (Nat.le_of_ble_eq_true rfl) (fun p e s m args below meth c lsA F ex hi w hl => ?_)
  have hl : lv_has lsA 3 [(0, .ref h0), (1, .int a1), (2, .int a2)] := hl
  refine lv_aload_n F.1 F.2.1 di_X5_0 rfl (lv_at hl 0 rfl) ?_
  refine W.objInit F.1 F.2.1 F.2.2.2.2.2.1 (F.2.2.2.2.2.2 _ wl_X5) (F.2.2.2.2.2.2 _ wo_i) (F.2.2.2.2.2.2 _ wo_c) rfl (by rw [F.2.2.1]; exact hl.1) rfl di_X5_1 (Nat.le_of_ble_eq_true rfl) (Nat.le_of_ble_eq_true rfl) ?_
  refine W.eq (g2 := F0 m 4 lsA []) rfl ?_
  refine lv_aload_n F.1 F.2.1 di_X5_4 rfl (lv_at hl 0 rfl) ?_
  refine lv_sipush (v := 400) F.1 F.2.1 di_X5_5 (by decide) ?_
  refine i_newa F wa_int rfl 0 rfl (fun h => h) w (N := 400) (a0 := (400, .inl (fun _ => 0))) rfl (by decide) (by decide) (by decide) rfl (Nat.le_of_ble_eq_true rfl) (Nat.le_of_ble_eq_true rfl) di_X5_8 (fun H w => ?_)
  have w : Wi G.1 (tyA G) [(h0, .inr (5, [.int 0, .int 0, .int 0, .null, .int 0, .int 0, .null, .null, .int 0, .null]))] sz [aI G 400] (frI h0 sz) s H [] := w
  refine i_put F inT_5 tyX5 tyX5_ok nmX5 rfl fi_X5_3 hi rfl w (ty := tyX5 3) (v := .ref (sz + 0)) (tyX5_ok 3 (by decide)) rfl rfl (Nat.blt_eq.mp rfl) di_X5_10 (fun H locs w => ?_)
  have w : Wi G.1 (tyA G) [(h0, .inr (5, [.int 0, .int 0, .int 0, .ref (sz + 0), .int 0, .int 0, .null, .null, .int 0, .null]))] sz [aI G 400] (frI h0 sz) s H locs := w
  refine lv_aload_n F.1 F.2.1 di_X5_13 rfl (lv_at hl 0 rfl) ?_
  refine lv_sipush (v := 1024) F.1 F.2.1 di_X5_14 (by decide) ?_
  refine i_newa F wa_int rfl 0 rfl (fun h => h) w (N := 1024) (a0 := (1024, .inl (fun _ => 0))) rfl (by decide) (by decide) (by decide) rfl (Nat.le_of_ble_eq_true rfl) (Nat.le_of_ble_eq_true rfl) di_X5_17 (fun H w => ?_)
  have w : Wi G.1 (tyA G) [(h0, .inr (5, [.int 0, .int 0, .int 0, .ref (sz + 0), .int 0, .int 0, .null, .null, .int 0, .null]))] sz [aI G 400, aI G 1024] (frI h0 sz) s H locs := w
  refine i_put F inT_5 tyX5 tyX5_ok nmX5 rfl fi_X5_6 hi rfl w (ty := tyX5 6) (v := .ref (sz + 1)) (tyX5_ok 6 (by decide)) rfl rfl (Nat.blt_eq.mp rfl) di_X5_19 (fun H locs w => ?_)
  have w : Wi G.1 (tyA G) [(h0, .inr (5, [.int 0, .int 0, .int 0, .ref (sz + 0), .int 0, .int 0, .ref (sz + 1), .null, .int 0, .null]))] sz [aI G 400, aI G 1024] (frI h0 sz) s H locs := w
  refine lv_aload_n F.1 F.2.1 di_X5_22 rfl (lv_at hl 0 rfl) ?_
  refine lv_sipush (v := 1024) F.1 F.2.1 di_X5_23 (by decide) ?_
  refine i_newa F wa_boolean rfl 1 rfl (fun h => h) w (N := 1024) (a0 := (1024, .inl (fun _ => 0))) rfl (by decide) (by decide) (by decide) rfl (Nat.le_of_ble_eq_true rfl) (Nat.le_of_ble_eq_true rfl) di_X5_26 (fun H w => ?_)
  have w : Wi G.1 (tyA G) [(h0, .inr (5, [.int 0, .int 0, .int 0, .ref (sz + 0), .int 0, .int 0, .ref (sz + 1), .null, .int 0, .null]))] sz [aI G 400, aI G 1024, aB G 1024] (frI h0 sz) s H locs := w
  refine i_put F inT_5 tyX5 tyX5_ok nmX5 rfl fi_X5_7 hi rfl w (ty := tyX5 7) (v := .ref (sz + 2)) (tyX5_ok 7 (by decide)) rfl rfl (Nat.blt_eq.mp rfl) di_X5_28 (fun H locs w => ?_)
  have w : Wi G.1 (tyA G) [(h0, .inr (5, [.int 0, .int 0, .int 0, .ref (sz + 0), .int 0, .int 0, .ref (sz + 1), .ref (sz + 2), .int 0, .null]))] sz [aI G 400, aI G 1024, aB G 1024] (frI h0 sz) s H locs := w
  refine lv_aload_n F.1 F.2.1 di_X5_31 rfl (lv_at hl 0 rfl) ?_
  refine lv_sipush (v := 1024) F.1 F.2.1 di_X5_32 (by decide) ?_
  refine i_newa F wa_int rfl 0 rfl (fun h => h) w (N := 1024) (a0 := (1024, .inl (fun _ => 0))) rfl (by decide) (by decide) (by decide) rfl (Nat.le_of_ble_eq_true rfl) (Nat.le_of_ble_eq_true rfl) di_X5_35 (fun H w => ?_)
  have w : Wi G.1 (tyA G) [(h0, .inr (5, [.int 0, .int 0, .int 0, .ref (sz + 0), .int 0, .int 0, .ref (sz + 1), .ref (sz + 2), .int 0, .null]))] sz [aI G 400, aI G 1024, aB G 1024, aI G 1024] (frI h0 sz) s H locs := w
  refine i_put F inT_5 tyX5 tyX5_ok nmX5 rfl fi_X5_9 hi rfl w (ty := tyX5 9) (v := .ref (sz + 3)) (tyX5_ok 9 (by decide)) rfl rfl (Nat.blt_eq.mp rfl) di_X5_37 (fun H locs w => ?_)
  have w : Wi G.1 (tyA G) [(h0, .inr (5, [.int 0, .int 0, .int 0, .ref (sz + 0), .int 0, .int 0, .ref (sz + 1), .ref (sz + 2), .int 0, .ref (sz + 3)]))] sz [aI G 400, aI G 1024, aB G 1024, aI G 1024] (frI h0 sz) s H locs := w
  refine lv_aload_n F.1 F.2.1 di_X5_40 rfl (lv_at hl 0 rfl) ?_
  refine lv_iload_n F.1 F.2.1 di_X5_41 rfl (lv_at hl 1 rfl) ?_
  refine i_put F inT_5 tyX5 tyX5_ok nmX5 rfl fi_X5_0 hi rfl w (ty := tyX5 0) (v := .int a1) (tyX5_ok 0 (by decide)) rfl rfl (Nat.blt_eq.mp rfl) di_X5_42 (fun H locs w => ?_)
  have w : Wi G.1 (tyA G) [(h0, .inr (5, [.int a1, .int 0, .int 0, .ref (sz + 0), .int 0, .int 0, .ref (sz + 1), .ref (sz + 2), .int 0, .ref (sz + 3)]))] sz [aI G 400, aI G 1024, aB G 1024, aI G 1024] (frI h0 sz) s H locs := w
  refine lv_aload_n F.1 F.2.1 di_X5_45 rfl (lv_at hl 0 rfl) ?_
  refine lv_iload_n F.1 F.2.1 di_X5_46 rfl (lv_at hl 2 rfl) ?_
  refine i_put F inT_5 tyX5 tyX5_ok nmX5 rfl fi_X5_1 hi rfl w (ty := tyX5 1) (v := .int a2) (tyX5_ok 1 (by decide)) rfl rfl (Nat.blt_eq.mp rfl) di_X5_47 (fun H locs w => ?_)
  have w : Wi G.1 (tyA G) [(h0, .inr (5, [.int a1, .int a2, .int 0, .ref (sz + 0), .int 0, .int 0, .ref (sz + 1), .ref (sz + 2), .int 0, .ref (sz + 3)]))] sz [aI G 400, aI G 1024, aB G 1024, aI G 1024] (frI h0 sz) s H locs := w
  exact i_ret F rfl w di_X5_50
abbrev I_X8 : MI := (yX8_init, cX8_init, 3, none)
theorem di_X8_0 : decode cX8_init 0 = .ok (.aload_n 0, 1) := by decide +kernel
theorem di_X8_1 : decode cX8_init 1 = .ok (.invokespecial 3, 3) := by decide +kernel
theorem di_X8_4 : decode cX8_init 4 = .ok (.aload_n 0, 1) := by decide +kernel
theorem di_X8_5 : decode cX8_init 5 = .ok (.bipush 10, 2) := by decide +kernel
theorem di_X8_7 : decode cX8_init 7 = .ok (.newarray .int, 2) := by decide +kernel
theorem di_X8_9 : decode cX8_init 9 = .ok (.putfield 9, 3) := by decide +kernel
theorem di_X8_12 : decode cX8_init 12 = .ok (.aload_n 0, 1) := by decide +kernel
theorem di_X8_13 : decode cX8_init 13 = .ok (.bipush 10, 2) := by decide +kernel
theorem di_X8_15 : decode cX8_init 15 = .ok (.newarray .int, 2) := by decide +kernel
theorem di_X8_17 : decode cX8_init 17 = .ok (.putfield 15, 3) := by decide +kernel
theorem di_X8_20 : decode cX8_init 20 = .ok (.aload_n 0, 1) := by decide +kernel
theorem di_X8_21 : decode cX8_init 21 = .ok (.bipush 10, 2) := by decide +kernel
theorem di_X8_23 : decode cX8_init 23 = .ok (.newarray .int, 2) := by decide +kernel
theorem di_X8_25 : decode cX8_init 25 = .ok (.putfield 18, 3) := by decide +kernel
theorem di_X8_28 : decode cX8_init 28 = .ok (.aload_n 0, 1) := by decide +kernel
theorem di_X8_29 : decode cX8_init 29 = .ok (.bipush 10, 2) := by decide +kernel
theorem di_X8_31 : decode cX8_init 31 = .ok (.newarray .int, 2) := by decide +kernel
theorem di_X8_33 : decode cX8_init 33 = .ok (.putfield 21, 3) := by decide +kernel
theorem di_X8_36 : decode cX8_init 36 = .ok (.aload_n 0, 1) := by decide +kernel
theorem di_X8_37 : decode cX8_init 37 = .ok (.bipush 10, 2) := by decide +kernel
theorem di_X8_39 : decode cX8_init 39 = .ok (.newarray .int, 2) := by decide +kernel
theorem di_X8_41 : decode cX8_init 41 = .ok (.putfield 24, 3) := by decide +kernel
theorem di_X8_44 : decode cX8_init 44 = .ok (.aload_n 0, 1) := by decide +kernel
theorem di_X8_45 : decode cX8_init 45 = .ok (.bipush 8, 2) := by decide +kernel
theorem di_X8_47 : decode cX8_init 47 = .ok (.bipush 10, 2) := by decide +kernel
theorem di_X8_49 : decode cX8_init 49 = .ok (.multianewarray 27 2, 4) := by decide +kernel
theorem di_X8_53 : decode cX8_init 53 = .ok (.putfield 29, 3) := by decide +kernel
theorem di_X8_56 : decode cX8_init 56 = .ok (.aload_n 0, 1) := by decide +kernel
theorem di_X8_57 : decode cX8_init 57 = .ok (.aload_n 1, 1) := by decide +kernel
theorem di_X8_58 : decode cX8_init 58 = .ok (.putfield 32, 3) := by decide +kernel
theorem di_X8_61 : decode cX8_init 61 = .ok (.aload_n 0, 1) := by decide +kernel
theorem di_X8_62 : decode cX8_init 62 = .ok (.aload_n 2, 1) := by decide +kernel
theorem di_X8_63 : decode cX8_init 63 = .ok (.putfield 36, 3) := by decide +kernel
theorem di_X8_66 : decode cX8_init 66 = .ok (.return_, 1) := by decide +kernel
theorem wl_X8 : (.methodLink RX8 3 Lib.objectInit : Cond) ∈ TT := TT_mem 354 (by decide +kernel)
theorem fi_X8_2 : Fl RX8 9 8 2 := Fl.mk (RX8, TX8, 11) rfl rfl 359 (by decide +kernel) rfl
theorem fi_X8_5 : Fl RX8 15 8 5 := Fl.mk (RX8, TX8, 11) rfl rfl 365 (by decide +kernel) rfl
theorem fi_X8_6 : Fl RX8 18 8 6 := Fl.mk (RX8, TX8, 11) rfl rfl 366 (by decide +kernel) rfl
theorem fi_X8_7 : Fl RX8 21 8 7 := Fl.mk (RX8, TX8, 11) rfl rfl 367 (by decide +kernel) rfl
theorem fi_X8_8 : Fl RX8 24 8 8 := Fl.mk (RX8, TX8, 11) rfl rfl 368 (by decide +kernel) rfl
theorem wk_X8 : (.classLink RX8 27 "[[I" : Cond) ∈ TT := TT_mem 355 (by decide +kernel)
theorem fi_X8_10 : Fl RX8 29 8 10 := Fl.mk (RX8, TX8, 11) rfl rfl 370 (by decide +kernel) rfl
theorem fi_X8_0 : Fl RX8 32 8 0 := Fl.mk (RX8, TX8, 11) rfl rfl 357 (by decide +kernel) rfl
theorem fi_X8_1 : Fl RX8 36 8 1 := Fl.mk (RX8, TX8, 11) rfl rfl 358 (by decide +kernel) rfl
abbrev rI_X8 : Room := { frames := 1, cells := 14, slots := 138, locals := 24 }
set_option maxRecDepth 100000 in
theorem ic_X8 (l : Launch) (G : Gx) (h0 sz : Nat) (a1 : Nat) (a2 : Nat) : Ic l G.1 (tyA G) I_X8 rI_X8 [.ref a1, .ref a2] h0 8 sz [.null, .null, .null, .int 0, .int 0, .null, .null, .null, .null, .int 0, .null] [.ref a1, .ref a2, .ref (sz + 0), .int 0, .int 0, .ref (sz + 1), .ref (sz + 2), .ref (sz + 3), .ref (sz + 4), .int 0, .ref (sz + 5)] [aI G 10, aI G 10, aI G 10, aI G 10, aI G 10, aG G (sz + 5 + 1), aI G 10, aI G 10, aI G 10, aI G 10, aI G 10, aI G 10, aI G 10, aI G 10] := by
  refine Ic.of (by decide) rfl (Nat.le_of_ble_eq_true rfl) (fun p e s m args below meth c lsA F ex hi w hl => ?_)
  have hl : lv_has lsA 3 [(0, .ref h0), (1, .ref a1), (2, .ref a2)] := hl
  refine lv_aload_n F.1 F.2.1 di_X8_0 rfl (lv_at hl 0 rfl) ?_
  refine W.objInit F.1 F.2.1 F.2.2.2.2.2.1 (F.2.2.2.2.2.2 _ wl_X8) (F.2.2.2.2.2.2 _ wo_i) (F.2.2.2.2.2.2 _ wo_c) rfl (by rw [F.2.2.1]; exact hl.1) rfl di_X8_1 (Nat.le_of_ble_eq_true rfl) (Nat.le_of_ble_eq_true rfl) ?_
  refine W.eq (g2 := F0 m 4 lsA []) rfl ?_
  refine lv_aload_n F.1 F.2.1 di_X8_4 rfl (lv_at hl 0 rfl) ?_
  refine lv_bipush (v := 10) F.1 F.2.1 di_X8_5 (by decide) ?_
  refine i_newa F wa_int rfl 0 rfl (fun h => h) w (N := 10) (a0 := (10, .inl (fun _ => 0))) rfl (by decide) (by decide) (by decide) rfl (Nat.le_of_ble_eq_true rfl) (Nat.le_of_ble_eq_true rfl) di_X8_7 (fun H w => ?_)
  have w : Wi G.1 (tyA G) [(h0, .inr (8, [.null, .null, .null, .int 0, .int 0, .null, .null, .null, .null, .int 0, .null]))] sz [aI G 10] (frI h0 sz) s H [] := w
  refine i_put F inT_8 tyX8 tyX8_ok nmX8 rfl fi_X8_2 hi rfl w (ty := tyX8 2) (v := .ref (sz + 0)) (tyX8_ok 2 (by decide)) rfl rfl (Nat.blt_eq.mp rfl) di_X8_9 (fun H locs w => ?_)
  have w : Wi G.1 (tyA G) [(h0, .inr (8, [.null, .null, .ref (sz + 0), .int 0, .int 0, .null, .null, .null, .null, .int 0, .null]))] sz [aI G 10] (frI h0 sz) s H locs := w
  refine lv_aload_n F.1 F.2.1 di_X8_12 rfl (lv_at hl 0 rfl) ?_
  refine lv_bipush (v := 10) F.1 F.2.1 di_X8_13 (by decide) ?_
  refine i_newa F wa_int rfl 0 rfl (fun h => h) w (N := 10) (a0 := (10, .inl (fun _ => 0))) rfl (by decide) (by decide) (by decide) rfl (Nat.le_of_ble_eq_true rfl) (Nat.le_of_ble_eq_true rfl) di_X8_15 (fun H w => ?_)
  have w : Wi G.1 (tyA G) [(h0, .inr (8, [.null, .null, .ref (sz + 0), .int 0, .int 0, .null, .null, .null, .null, .int 0, .null]))] sz [aI G 10, aI G 10] (frI h0 sz) s H locs := w
  refine i_put F inT_8 tyX8 tyX8_ok nmX8 rfl fi_X8_5 hi rfl w (ty := tyX8 5) (v := .ref (sz + 1)) (tyX8_ok 5 (by decide)) rfl rfl (Nat.blt_eq.mp rfl) di_X8_17 (fun H locs w => ?_)
  have w : Wi G.1 (tyA G) [(h0, .inr (8, [.null, .null, .ref (sz + 0), .int 0, .int 0, .ref (sz + 1), .null, .null, .null, .int 0, .null]))] sz [aI G 10, aI G 10] (frI h0 sz) s H locs := w
  refine lv_aload_n F.1 F.2.1 di_X8_20 rfl (lv_at hl 0 rfl) ?_
  refine lv_bipush (v := 10) F.1 F.2.1 di_X8_21 (by decide) ?_
  refine i_newa F wa_int rfl 0 rfl (fun h => h) w (N := 10) (a0 := (10, .inl (fun _ => 0))) rfl (by decide) (by decide) (by decide) rfl (Nat.le_of_ble_eq_true rfl) (Nat.le_of_ble_eq_true rfl) di_X8_23 (fun H w => ?_)
  have w : Wi G.1 (tyA G) [(h0, .inr (8, [.null, .null, .ref (sz + 0), .int 0, .int 0, .ref (sz + 1), .null, .null, .null, .int 0, .null]))] sz [aI G 10, aI G 10, aI G 10] (frI h0 sz) s H locs := w
  refine i_put F inT_8 tyX8 tyX8_ok nmX8 rfl fi_X8_6 hi rfl w (ty := tyX8 6) (v := .ref (sz + 2)) (tyX8_ok 6 (by decide)) rfl rfl (Nat.blt_eq.mp rfl) di_X8_25 (fun H locs w => ?_)
  have w : Wi G.1 (tyA G) [(h0, .inr (8, [.null, .null, .ref (sz + 0), .int 0, .int 0, .ref (sz + 1), .ref (sz + 2), .null, .null, .int 0, .null]))] sz [aI G 10, aI G 10, aI G 10] (frI h0 sz) s H locs := w
  refine lv_aload_n F.1 F.2.1 di_X8_28 rfl (lv_at hl 0 rfl) ?_
  refine lv_bipush (v := 10) F.1 F.2.1 di_X8_29 (by decide) ?_
  refine i_newa F wa_int rfl 0 rfl (fun h => h) w (N := 10) (a0 := (10, .inl (fun _ => 0))) rfl (by decide) (by decide) (by decide) rfl (Nat.le_of_ble_eq_true rfl) (Nat.le_of_ble_eq_true rfl) di_X8_31 (fun H w => ?_)
  have w : Wi G.1 (tyA G) [(h0, .inr (8, [.null, .null, .ref (sz + 0), .int 0, .int 0, .ref (sz + 1), .ref (sz + 2), .null, .null, .int 0, .null]))] sz [aI G 10, aI G 10, aI G 10, aI G 10] (frI h0 sz) s H locs := w
  refine i_put F inT_8 tyX8 tyX8_ok nmX8 rfl fi_X8_7 hi rfl w (ty := tyX8 7) (v := .ref (sz + 3)) (tyX8_ok 7 (by decide)) rfl rfl (Nat.blt_eq.mp rfl) di_X8_33 (fun H locs w => ?_)
  have w : Wi G.1 (tyA G) [(h0, .inr (8, [.null, .null, .ref (sz + 0), .int 0, .int 0, .ref (sz + 1), .ref (sz + 2), .ref (sz + 3), .null, .int 0, .null]))] sz [aI G 10, aI G 10, aI G 10, aI G 10] (frI h0 sz) s H locs := w
  refine lv_aload_n F.1 F.2.1 di_X8_36 rfl (lv_at hl 0 rfl) ?_
  refine lv_bipush (v := 10) F.1 F.2.1 di_X8_37 (by decide) ?_
  refine i_newa F wa_int rfl 0 rfl (fun h => h) w (N := 10) (a0 := (10, .inl (fun _ => 0))) rfl (by decide) (by decide) (by decide) rfl (Nat.le_of_ble_eq_true rfl) (Nat.le_of_ble_eq_true rfl) di_X8_39 (fun H w => ?_)
  have w : Wi G.1 (tyA G) [(h0, .inr (8, [.null, .null, .ref (sz + 0), .int 0, .int 0, .ref (sz + 1), .ref (sz + 2), .ref (sz + 3), .null, .int 0, .null]))] sz [aI G 10, aI G 10, aI G 10, aI G 10, aI G 10] (frI h0 sz) s H locs := w
  refine i_put F inT_8 tyX8 tyX8_ok nmX8 rfl fi_X8_8 hi rfl w (ty := tyX8 8) (v := .ref (sz + 4)) (tyX8_ok 8 (by decide)) rfl rfl (Nat.blt_eq.mp rfl) di_X8_41 (fun H locs w => ?_)
  have w : Wi G.1 (tyA G) [(h0, .inr (8, [.null, .null, .ref (sz + 0), .int 0, .int 0, .ref (sz + 1), .ref (sz + 2), .ref (sz + 3), .ref (sz + 4), .int 0, .null]))] sz [aI G 10, aI G 10, aI G 10, aI G 10, aI G 10] (frI h0 sz) s H locs := w
  refine lv_aload_n F.1 F.2.1 di_X8_44 rfl (lv_at hl 0 rfl) ?_
  refine lv_bipush (v := 8) F.1 F.2.1 di_X8_45 (by decide) ?_
  refine lv_bipush (v := 10) F.1 F.2.1 di_X8_47 (by decide) ?_
  refine i_mna F wk_X8 ex.2.1 wa_int 0 rfl 5 rfl w rfl (Nat.le_of_ble_eq_true rfl) (Nat.le_of_ble_eq_true rfl) di_X8_49 (fun H locs w => ?_)
  have w : Wi G.1 (tyA G) [(h0, .inr (8, [.null, .null, .ref (sz + 0), .int 0, .int 0, .ref (sz + 1), .ref (sz + 2), .ref (sz + 3), .ref (sz + 4), .int 0, .null]))] sz [aI G 10, aI G 10, aI G 10, aI G 10, aI G 10, aG G (sz + 5 + 1), aI G 10, aI G 10, aI G 10, aI G 10, aI G 10, aI G 10, aI G 10, aI G 10] (frI h0 sz) s H locs := w
  refine i_put F inT_8 tyX8 tyX8_ok nmX8 rfl fi_X8_10 hi rfl w (ty := tyX8 10) (v := .ref (sz + 5)) (tyX8_ok 10 (by decide)) rfl rfl (Nat.blt_eq.mp rfl) di_X8_53 (fun H locs w => ?_)
  have w : Wi G.1 (tyA G) [(h0, .inr (8, [.null, .null, .ref (sz + 0), .int 0, .int 0, .ref (sz + 1), .ref (sz + 2), .ref (sz + 3), .ref (sz + 4), .int 0, .ref (sz + 5)]))] sz [aI G 10, aI G 10, aI G 10, aI G 10, aI G 10, aG G (sz + 5 + 1), aI G 10, aI G 10, aI G 10, aI G 10, aI G 10, aI G 10, aI G 10, aI G 10] (frI h0 sz) s H locs := w
  refine lv_aload_n F.1 F.2.1 di_X8_56 rfl (lv_at hl 0 rfl) ?_
  refine lv_aload_n F.1 F.2.1 di_X8_57 rfl (lv_at hl 1 rfl) ?_
  refine i_put F inT_8 tyX8 tyX8_ok nmX8 rfl fi_X8_0 hi rfl w (ty := tyX8 0) (v := .ref a1) (tyX8_ok 0 (by decide)) rfl rfl (Nat.blt_eq.mp rfl) di_X8_58 (fun H locs w => ?_)
  have w : Wi G.1 (tyA G) [(h0, .inr (8, [.ref a1, .null, .ref (sz + 0), .int 0, .int 0, .ref (sz + 1), .ref (sz + 2), .ref (sz + 3), .ref (sz + 4), .int 0, .ref (sz + 5)]))] sz [aI G 10, aI G 10, aI G 10, aI G 10, aI G 10, aG G (sz + 5 + 1), aI G 10, aI G 10, aI G 10, aI G 10, aI G 10, aI G 10, aI G 10, aI G 10] (frI h0 sz) s H locs := w
  refine lv_aload_n F.1 F.2.1 di_X8_61 rfl (lv_at hl 0 rfl) ?_
  refine lv_aload_n F.1 F.2.1 di_X8_62 rfl (lv_at hl 2 rfl) ?_
  refine i_put F inT_8 tyX8 tyX8_ok nmX8 rfl fi_X8_1 hi rfl w (ty := tyX8 1) (v := .ref a2) (tyX8_ok 1 (by decide)) rfl rfl (Nat.blt_eq.mp rfl) di_X8_63 (fun H locs w => ?_)
  have w : Wi G.1 (tyA G) [(h0, .inr (8, [.ref a1, .ref a2, .ref (sz + 0), .int 0, .int 0, .ref (sz + 1), .ref (sz + 2), .ref (sz + 3), .ref (sz + 4), .int 0, .ref (sz + 5)]))] sz [aI G 10, aI G 10, aI G 10, aI G 10, aI G 10, aG G (sz + 5 + 1), aI G 10, aI G 10, aI G 10, aI G 10, aI G 10, aI G 10, aI G 10, aI G 10] (frI h0 sz) s H locs := w
  exact i_ret F rfl w di_X8_66
