/-! ===== the law: its switch, its loop ===== -/
theorem dl_0 : decode code 0 = .ok (.new 7, 3) := by decide +kernel
theorem dl_3 : decode code 3 = .ok (.dup, 1) := by decide +kernel
theorem dl_4 : decode code 4 = .ok (.invokespecial 9, 3) := by decide +kernel
theorem dl_7 : decode code 7 = .ok (.astore_n 1, 1) := by decide +kernel
theorem dl_8 : decode code 8 = .ok (.new 10, 3) := by decide +kernel
theorem dl_11 : decode code 11 = .ok (.dup, 1) := by decide +kernel
theorem dl_12 : decode code 12 = .ok (.invokespecial 12, 3) := by decide +kernel
theorem dl_15 : decode code 15 = .ok (.astore_n 2, 1) := by decide +kernel
theorem dl_16 : decode code 16 = .ok (.iconst 0, 1) := by decide +kernel
theorem dl_17 : decode code 17 = .ok (.istore_n 3, 1) := by decide +kernel
theorem dl_18 : decode code 18 = .ok (.iload_n 3, 1) := by decide +kernel
theorem dl_19 : decode code 19 = .ok (.aload_n 0, 1) := by decide +kernel
theorem dl_20 : decode code 20 = .ok (.arraylength, 1) := by decide +kernel
theorem dl_21 : decode code 21 = .ok (.bipush 6, 2) := by decide +kernel
theorem dl_23 : decode code 23 = .ok (.isub, 1) := by decide +kernel
theorem dl_24 : decode code 24 = .ok (.if_icmp .gt 1299, 3) := by decide +kernel
theorem dl_27 : decode code 27 = .ok (.aload_n 0, 1) := by decide +kernel
theorem dl_28 : decode code 28 = .ok (.iload_n 3, 1) := by decide +kernel
theorem dl_29 : decode code 29 = .ok (.iaload, 1) := by decide +kernel
theorem dl_30 : decode code 30 = .ok (.bipush 63, 2) := by decide +kernel
theorem dl_32 : decode code 32 = .ok (.iand, 1) := by decide +kernel
theorem dl_33 : decode code 33 = .ok (.tableswitch 1284 0 36 #[163, 206, 239, 272, 295, 328, 361, 424, 457, 480, 493, 526, 559, 592, 615, 648, 671, 694, 707, 740, 763, 786, 829, 862, 895, 928, 951, 994, 1027, 1060, 1083, 1116, 1149, 1172, 1205, 1248, 1261], 163) := by decide +kernel
theorem dl_1317 : decode code 1317 = .ok (.iinc 3 6, 3) := by decide +kernel
theorem dl_1320 : decode code 1320 = .ok (.goto (-1302), 3) := by decide +kernel
theorem dl_1323 : decode code 1323 = .ok (.iconst 1, 1) := by decide +kernel
theorem dl_1324 : decode code 1324 = .ok (.ireturn, 1) := by decide +kernel
section LawLoop
variable {p : Program} {l : Launch} {e : Env} {s : State} {m : MethodId} {args : Array Value} {below : List Frame} {meth : Method} {c : Code} {H : Heap} {locs : List Loc} {cells slots : Nat} {Q : State → Prop}
variable {D : va_G} {K : Nat → Nat} {cA : Nat → ClassId} {n : Nat} {σ : St} {lsA : Array Slot}
theorem rm_per : rA_person.frames + 1 ≤ room_1.frames ∧ 48 + rA_person.locals ≤ room_1.locals := by decide
theorem l_person {b L i : Nat} {xs : Nat → Int32} {w : Wd} (F : Fx p M_L s m args meth c) (ex : ExI s) (hX : va_X b L xs s s.heap) (hbl : b < s.heap.size) (hl : lv_has lsA 4 [(0, .ref b), (1, .ref ((G0 D s.heap.size K cA).2.1 0)), (2, .ref ((G0 D s.heap.size K cA).2.1 11)), (3, .int (nI i))]) (hi : i + 6 ≤ L) (hL : L ≤ 3072) (hv : w.ver + 1 < 2 ^ 30) (hI : LI (G0 D s.heap.size K cA) (fun q => s.heap.size ≤ q) s w σ n cells slots H locs) (g : personG w (xs (i + 1)) (xs (i + 2)))
    (kk : ∀ (σ' : St) (n' cells' slots' : Nat) (H' : Heap) (locs' : List Loc), LI (G0 D s.heap.size K cA) (fun q => s.heap.size ≤ q) s (addPe w (tn (xs (i + 1))) (tn (xs (i + 2)))) σ' n' cells' slots' H' locs' → W p l e room_1 s m args below meth c H' locs' cells' slots' Q (F0 m 1317 lsA [])) : W p l e room_1 s m args below meth c H locs cells slots Q (F0 m 328 lsA []) := by
  obtain ⟨hw, hz, hR, hM, hn, hcl, hsl, hC⟩ := hI
  have hP8 : w.P < 8 := g.2.2
  have hF : FIX ≤ n := by simp only [FIX]; omega
  have hF5 : FIX ≤ n + 5 := by simp only [FIX]; omega
  have hbA : ¬ (fun q => s.heap.size ≤ q) b := Nat.not_le.mpr hbl
  obtain ⟨c1, c2, c3, c4, c5, c6, c7⟩ := cs_person
  refine lv_aload_n F.1 F.2.1 c1 rfl (lv_at hl 1 rfl) ?_
  refine l_args F hX hbl hbA hC.2.2.2.1 hl hi hL 2 (by decide) c2 ?_
  refine W_sz (fun hup => ?_)
  have hsz : H.size = s.heap.size + n := by
    have h74 : (G0 D s.heap.size K cA).2.1 74 < H.size := (hC.2.1 74 _ (wl_get (by omega))).lt
    have e74 : (G0 D s.heap.size K cA).2.1 74 = s.heap.size + 87 := rfl
    rw [e74] at h74
    by_cases h0 : w.P = 0
    · omega
    · have h1 : (G0 D s.heap.size K cA).2.1 (n - 1) < H.size := (hC.2.1 (n - 1) _ (wl_get (by omega))).lt
      have e1 : (G0 D s.heap.size K cA).2.1 (n - 1) = s.heap.size + (n - 1) := adr_hi (by omega) (by omega)
      rw [e1] at h1
      omega
  have hg : ∀ c, c < 5 → (G0 D s.heap.size K cA).2.1 (n + c) = H.size + c := fun c hc => by
    have e1 : (G0 D s.heap.size K cA).2.1 (n + c) = s.heap.size + (n + c) := adr_hi (by omega) (by omega)
    rw [e1, hsz]; omega
  refine w_callA (rm := rA_person) (M' := M_X11_person) (as := argV xs i 2) (rest := []) (q := 0) F ex hC hl.1 c3 lx_person mk_X11_person (ob_0 hF) rfl rfl rfl (Nat.le_of_ble_eq_true rfl) rm_per ⟨show cells + 5 ≤ 60000 by omega, show slots + 3482 ≤ 8922250 by omega⟩ (person_A (a1 := xs (i + 1)) (a2 := xs (i + 2)) hF (by simp only [P0]; omega) hP8 hR.1.2.1 hg ((pu_gate _).mpr g.1) ((bu_gate _).mpr g.2.1)) (fun v H1 locs1 hPv hS1 => ?_)
  obtain ⟨hv1, hP1⟩ := hPv
  have hC1 : Cw (G0 D s.heap.size K cA) (n + 5) (sN σ n w.P (xs (i + 1)) (xs (i + 2))) (fun q => s.heap.size ≤ q) s H1 locs1 := ⟨hC.1, hP1, wl_D0 (by omega), hS1, hC.2.2.2.2⟩
  have hR1 := hR.person hw hz hn g
  have hM1 : MG (sN σ n w.P (xs (i + 1)) (xs (i + 2))) w := hM.person hF
  have eW : personW w (xs (i + 1)) (xs (i + 2)) = addPe w (tn (xs (i + 1))) (tn (xs (i + 2))) := if_pos g
  have eV : personV w (xs (i + 1)) (xs (i + 2)) = nI w.P := if_pos g
  refine lv_aload_n F.1 F.2.1 c4 rfl (lv_at hl 2 rfl) ?_
  refine l_args F hX hbl hbA hC1.2.2.2.1 hl hi hL 2 (by decide) c5 ?_
  refine w_callV (R := room_1) (d := 60) (M' := M_X12_person) (as := argV xs i 2) (rest := [.int v]) (q := 11) (ci := 12) (r := (RX12, TX12, 55)) F hC1 hl.1 c6 lm_person mk_X12_person (ob_11 hF5) rfl rfl rfl (Nat.le_of_ble_eq_true rfl) rm_case ⟨show cells + 5 ≤ 60000 by omega, show slots + 3482 ≤ 8922250 by omega⟩ (person_M (a1 := xs (i + 1)) (a2 := xs (i + 2)) hF5 (by decide) hM1 hw hv) (fun y σ2 H2 locs2 hq hf hC2 => ?_)
  obtain ⟨y, rfl, hy, hM2⟩ := hq
  rw [eW] at hM2
  rw [eV] at hy
  have hR2 := hR1.M hf (by decide)
  refine lv_icmp_eq (x := v) (y := y) (tgt := 1317) F.1 F.2.1 c7 (by decide) (fun _ => ?_) (fun z => absurd (hv1.trans hy.symm) z)
  obtain ⟨hw2, hz2⟩ := nx_person hw hz _ _ g
  exact kk σ2 (n + 5) _ _ H2 locs2 ⟨hw2, hz2, hR2, hM2, by show n + 5 = 88 + 5 * (w.P + 1); omega, by show cells + 5 = n + 5; omega, by show slots + 3482 = 36988 + 3482 * (w.P + 1); omega, hC2⟩
set_option maxHeartbeats 4000000 in
theorem l_step {b L i : Nat} {xs : Nat → Int32} {w : Wd} (F : Fx p M_L s m args meth c) (ex : ExI s) (hX : va_X b L xs s s.heap) (hbl : b < s.heap.size) (hl : lv_has lsA 4 [(0, .ref b), (1, .ref ((G0 D s.heap.size K cA).2.1 0)), (2, .ref ((G0 D s.heap.size K cA).2.1 11)), (3, .int (nI i))]) (hi : i + 6 ≤ L) (hL : L ≤ 3072) (hv : w.ver + 1 < 2 ^ 30) (hI : LI (G0 D s.heap.size K cA) (fun q => s.heap.size ≤ q) s w σ n cells slots H locs)
    (hk : ∀ (w' : Wd) (σ' : St) (n' cells' slots' : Nat) (H' : Heap) (locs' : List Loc), w'.ver ≤ w.ver + 1 → LI (G0 D s.heap.size K cA) (fun q => s.heap.size ≤ q) s w' σ' n' cells' slots' H' locs' → W p l e room_1 s m args below meth c H' locs' cells' slots' Q (F0 m 1317 lsA [])) : W p l e room_1 s m args below meth c H locs cells slots Q (F0 m 27 lsA []) := by
  have hw := hI.1
  have hz := hI.2.1
  have hC := hI.2.2.2.2.2.2.2
  have hcs : cells ≤ room_1.cells ∧ slots ≤ room_1.slots := by
    have h1 := hI.2.2.2.2.1
    have h2 := hI.2.2.2.2.2.1
    have h3 := hI.2.2.2.2.2.2.1
    have h4 := hw.P
    exact ⟨show cells ≤ 60000 by omega, show slots ≤ 8922250 by omega⟩
  refine lv_aload_n F.1 F.2.1 dl_27 rfl (lv_at hl 0 rfl) ?_
  refine lv_iload_n F.1 F.2.1 dl_28 rfl (lv_at hl 3 rfl) ?_
  refine va_sld F.1 F.2.1 hX hbl (Nat.not_le.mpr hbl) hC.2.2.2.1 (vp_in_nI (by omega) (by omega)) dl_29 ?_
  rw [nI_clamp (by omega)]
  refine lv_bipush (v := 63) F.1 F.2.1 dl_30 (by decide) ?_
  refine lv_iand F.1 F.2.1 dl_32 ?_
  generalize xs i &&& 63 = x
  by_cases hx : x.toInt < 0 ∨ 36 < x.toInt
  · refine lv_tableOut (tgt := 1317) F.1 F.2.1 dl_33 hx (by decide) ?_
    exact hk w σ n cells slots H locs (Nat.le_succ _) hI
  · obtain ⟨k, hk37, hkx⟩ : ∃ k : Nat, k < 37 ∧ x.toInt = k := ⟨x.toInt.toNat, by omega, by omega⟩
    match k, hk37, hkx with
    | 0, _, hkx =>
      refine lv_tableIn (off := 163) (tgt := 196) F.1 F.2.1 dl_33 (by omega) (by omega) (by rw [hkx]; rfl) (by decide) ?_
      exact l_case (lessonW w (xs (i + 1)) (xs (i + 2)) (xs (i + 3))) (fun v => v = lessonV w (xs (i + 1)) (xs (i + 2)) (xs (i + 3))) (mdX := md_X11_lesson) (mdM := md_X12_lesson) F hX hbl (Nat.not_le.mpr hbl) hl hi hL hcs hI (by decide) cs_lesson lx_lesson mk_X11_lesson rfl lm_lesson mk_X12_lesson rfl (by decide) (by decide) (fun σ hn hR => lesson_C (a1 := xs (i + 1)) (a2 := xs (i + 2)) (a3 := xs (i + 3)) hn (by decide) hR hw) (fun σ hn hM => lesson_M (a1 := xs (i + 1)) (a2 := xs (i + 2)) (a3 := xs (i + 3)) hn (by decide) hM hw hv) (fun v v' h h' => h.trans h'.symm) (nx_lesson hw hz _ _ _) (fun σ' H' locs' hI' => hk _ σ' n cells slots H' locs' (nx_lesson hw hz _ _ _).2.1 hI')
    | 1, _, hkx =>
      refine lv_tableIn (off := 206) (tgt := 239) F.1 F.2.1 dl_33 (by omega) (by omega) (by rw [hkx]; rfl) (by decide) ?_
      exact l_case (placesW w (xs (i + 1)) (xs (i + 2))) (fun v => v = placesV w (xs (i + 1)) (xs (i + 2))) (mdX := md_X11_places) (mdM := md_X12_places) F hX hbl (Nat.not_le.mpr hbl) hl hi hL hcs hI (by decide) cs_places lx_places mk_X11_places rfl lm_places mk_X12_places rfl (by decide) (by decide) (fun σ hn hR => places_C (a1 := xs (i + 1)) (a2 := xs (i + 2)) hn (by decide) hR hw) (fun σ hn hM => places_M (a1 := xs (i + 1)) (a2 := xs (i + 2)) hn (by decide) hM hw) (fun v v' h h' => h.trans h'.symm) (nx_places hw hz _ _) (fun σ' H' locs' hI' => hk _ σ' n cells slots H' locs' (nx_places hw hz _ _).2.1 hI')
    | 2, _, hkx =>
      refine lv_tableIn (off := 239) (tgt := 272) F.1 F.2.1 dl_33 (by omega) (by omega) (by rw [hkx]; rfl) (by decide) ?_
      exact l_case (afterW w (xs (i + 1)) (xs (i + 2))) (fun v => v = afterV w (xs (i + 1)) (xs (i + 2))) (mdX := md_X11_after) (mdM := md_X12_after) F hX hbl (Nat.not_le.mpr hbl) hl hi hL hcs hI (by decide) cs_after lx_after mk_X11_after rfl lm_after mk_X12_after rfl (by decide) (by decide) (fun σ hn hR => after_C (a1 := xs (i + 1)) (a2 := xs (i + 2)) hn (by decide) hR hw) (fun σ hn hM => after_M (a1 := xs (i + 1)) (a2 := xs (i + 2)) hn (by decide) hM hw hv) (fun v v' h h' => h.trans h'.symm) (nx_after hw hz _ _) (fun σ' H' locs' hI' => hk _ σ' n cells slots H' locs' (nx_after hw hz _ _).2.1 hI')
    | 3, _, hkx =>
      refine lv_tableIn (off := 272) (tgt := 305) F.1 F.2.1 dl_33 (by omega) (by omega) (by rw [hkx]; rfl) (by decide) ?_
      exact l_case (mostW w (xs (i + 1))) (fun v => v = mostV (xs (i + 1))) (mdX := md_X11_most) (mdM := md_X12_most) F hX hbl (Nat.not_le.mpr hbl) hl hi hL hcs hI (by decide) cs_most lx_most mk_X11_most rfl lm_most mk_X12_most rfl (by decide) (by decide) (fun σ hn hR => most_C (a := xs (i + 1)) hn (by decide) hR hw) (fun σ hn hM => most_M (a := xs (i + 1)) hn (by decide) hM hw hv) (fun v v' h h' => h.trans h'.symm) (nx_most hw hz _) (fun σ' H' locs' hI' => hk _ σ' n cells slots H' locs' (nx_most hw hz _).2.1 hI')
    | 4, _, hkx =>
      refine lv_tableIn (off := 295) (tgt := 328) F.1 F.2.1 dl_33 (by omega) (by omega) (by rw [hkx]; rfl) (by decide) ?_
      by_cases g : personG w (xs (i + 1)) (xs (i + 2))
      · exact l_person F ex hX hbl hl hi hL hv hI g (fun σ' n' cells' slots' H' locs' hI' => hk _ σ' n' cells' slots' H' locs' (Nat.le_refl _) hI')
      · refine l_case w (fun v => v = -1) (mdX := ([], [], [], [])) (mdM := md_X12_person) F hX hbl (Nat.not_le.mpr hbl) hl hi hL hcs hI (by decide) cs_person lx_person mk_X11_person rfl lm_person mk_X12_person rfl (by decide) (by decide) (fun σ hn hR => ?_) (fun σ hn hM => ?_) (fun v v' h h' => h.trans h'.symm) (Nx.same hw hz) (fun σ' H' locs' hI' => hk w σ' n cells slots H' locs' (Nat.le_succ _) hI')
        · refine Cn.wk (person_no (a1 := xs (i + 1)) (a2 := xs (i + 2)) hn (by decide) (fun g1 g2 g3 => g ⟨(pu_gate _).mp g1, (bu_gate _).mp g2, ?_⟩)) (fun v σ' h _ => ?_)
          · rw [hR.1.2.1, lt_ti, nI_toInt (by have := hw.P; omega), show (8 : Int32).toInt = 8 by decide] at g3
            omega
          · obtain ⟨x, rfl, rfl, rfl⟩ := h
            exact ⟨_, rfl, rfl, hR⟩
        · have := person_M (d := 60) (a1 := xs (i + 1)) (a2 := xs (i + 2)) hn (by decide) hM hw hv
          unfold personV personW at this
          rw [if_neg g, if_neg g] at this
          exact this
    | 5, _, hkx =>
      refine lv_tableIn (off := 328) (tgt := 361) F.1 F.2.1 dl_33 (by omega) (by omega) (by rw [hkx]; rfl) (by decide) ?_
      exact l_case (purseW w (xs (i + 1)) (xs (i + 2))) (fun v => v = purseV w (xs (i + 1)) (xs (i + 2))) (mdX := md_X11_purse) (mdM := md_X12_purse) F hX hbl (Nat.not_le.mpr hbl) hl hi hL hcs hI (by decide) cs_purse lx_purse mk_X11_purse rfl lm_purse mk_X12_purse rfl (by decide) (by decide) (fun σ hn hR => purse_C (a1 := xs (i + 1)) (a2 := xs (i + 2)) hn (by decide) hR hw) (fun σ hn hM => purse_M (a1 := xs (i + 1)) (a2 := xs (i + 2)) hn (by decide) hM hw hv) (fun v v' h h' => h.trans h'.symm) (nx_purse hw hz _ _) (fun σ' H' locs' hI' => hk _ σ' n cells slots H' locs' (nx_purse hw hz _ _).2.1 hI')
    | 6, _, hkx =>
      refine lv_tableIn (off := 361) (tgt := 394) F.1 F.2.1 dl_33 (by omega) (by omega) (by rw [hkx]; rfl) (by decide) ?_
      exact l_case (feedW w (xs (i + 1)) (xs (i + 2)) (xs (i + 3)) (xs (i + 4)) (xs (i + 5))) (fun v => v = feedV w) (mdX := md_X11_feed) (mdM := md_X12_feed) F hX hbl (Nat.not_le.mpr hbl) hl hi hL hcs hI (by decide) cs_feed lx_feed mk_X11_feed rfl lm_feed mk_X12_feed rfl (by decide) (by decide) (fun σ hn hR => feed_C (a := xs (i + 1)) (b := xs (i + 2)) (c := xs (i + 3)) (e := xs (i + 4)) (g := xs (i + 5)) hn (by decide) hR hw) (fun σ hn hM => feed_M (a := xs (i + 1)) (b := xs (i + 2)) (c := xs (i + 3)) (e := xs (i + 4)) (g := xs (i + 5)) hn (by decide) hM hw) (fun v v' h h' => h.trans h'.symm) (nx_feed hw hz _ _ _ _ _) (fun σ' H' locs' hI' => hk _ σ' n cells slots H' locs' (nx_feed hw hz _ _ _ _ _).2.1 hI')
    | 7, _, hkx =>
      refine lv_tableIn (off := 424) (tgt := 457) F.1 F.2.1 dl_33 (by omega) (by omega) (by rw [hkx]; rfl) (by decide) ?_
      exact l_case (wishW w (xs (i + 1)) (xs (i + 2))) (fun v => v = wishV w (xs (i + 1)) (xs (i + 2))) (mdX := md_X11_wish) (mdM := md_X12_wish) F hX hbl (Nat.not_le.mpr hbl) hl hi hL hcs hI (by decide) cs_wish lx_wish mk_X11_wish rfl lm_wish mk_X12_wish rfl (by decide) (by decide) (fun σ hn hR => wish_C (a := xs (i + 1)) (b := xs (i + 2)) hn (by decide) hR hw) (fun σ hn hM => wish_M (a1 := xs (i + 1)) (a2 := xs (i + 2)) hn (by decide) hM hw hv) (fun v v' h h' => h.trans h'.symm) (nx_wish hw hz _ _) (fun σ' H' locs' hI' => hk _ σ' n cells slots H' locs' (nx_wish hw hz _ _).2.1 hI')
    | 8, _, hkx =>
      refine lv_tableIn (off := 457) (tgt := 490) F.1 F.2.1 dl_33 (by omega) (by omega) (by rw [hkx]; rfl) (by decide) ?_
      exact l_case (falsW w (xs (i + 1))) (fun v => v = falsV w (xs (i + 1))) (mdX := md_X11_falsely) (mdM := md_X12_falsely) F hX hbl (Nat.not_le.mpr hbl) hl hi hL hcs hI (by decide) cs_falsely lx_falsely mk_X11_falsely rfl lm_falsely mk_X12_falsely rfl (by decide) (by decide) (fun σ hn hR => falsely_C (b := xs (i + 1)) hn (by decide) hR hw) (fun σ hn hM => falsely_M (a2 := xs (i + 1)) hn (by decide) hM hw hv) (fun v v' h h' => h.trans h'.symm) (nx_fals hw hz _) (fun σ' H' locs' hI' => hk _ σ' n cells slots H' locs' (nx_fals hw hz _).2.1 hI')
    | 9, _, hkx =>
      refine lv_tableIn (off := 480) (tgt := 513) F.1 F.2.1 dl_33 (by omega) (by omega) (by rw [hkx]; rfl) (by decide) ?_
      exact l_case (w) (fun v => v = Int32.ofInt w.fa) (mdX := md_X11_fault) (mdM := md_X12_fault) F hX hbl (Nat.not_le.mpr hbl) hl hi hL hcs hI (by decide) cs_fault lx_fault mk_X11_fault rfl lm_fault mk_X12_fault rfl (by decide) (by decide) (fun σ hn hR => fault_C  hn hR) (fun σ hn hM => fault_M  hn hM) (fun v v' h h' => h.trans h'.symm) (Nx.same hw hz) (fun σ' H' locs' hI' => hk _ σ' n cells slots H' locs' (Nx.same hw hz).2.1 hI')
    | 10, _, hkx =>
      refine lv_tableIn (off := 493) (tgt := 526) F.1 F.2.1 dl_33 (by omega) (by omega) (by rw [hkx]; rfl) (by decide) ?_
      exact l_case (w) (fun v => v = barsV w (xs (i + 1)) (xs (i + 2))) (mdX := md_X11_bars) (mdM := md_X12_bars) F hX hbl (Nat.not_le.mpr hbl) hl hi hL hcs hI (by decide) cs_bars lx_bars mk_X11_bars rfl lm_bars mk_X12_bars rfl (by decide) (by decide) (fun σ hn hR => bars_C (a1 := xs (i + 1)) (a2 := xs (i + 2)) hn (by decide) hR hw) (fun σ hn hM => bars_M (a1 := xs (i + 1)) (a2 := xs (i + 2)) hn (by decide) hM hw) (fun v v' h h' => h.trans h'.symm) (Nx.same hw hz) (fun σ' H' locs' hI' => hk _ σ' n cells slots H' locs' (Nx.same hw hz).2.1 hI')
    | 11, _, hkx =>
      refine lv_tableIn (off := 526) (tgt := 559) F.1 F.2.1 dl_33 (by omega) (by omega) (by rw [hkx]; rfl) (by decide) ?_
      exact l_case (w) (fun v => v = worthV w (xs (i + 1)) (xs (i + 2))) (mdX := md_X11_worth) (mdM := md_X12_worth) F hX hbl (Nat.not_le.mpr hbl) hl hi hL hcs hI (by decide) cs_worth lx_worth mk_X11_worth rfl lm_worth mk_X12_worth rfl (by decide) (by decide) (fun σ hn hR => worth_C (a1 := xs (i + 1)) (a2 := xs (i + 2)) hn (by decide) hR hw) (fun σ hn hM => worth_M (a1 := xs (i + 1)) (a2 := xs (i + 2)) hn (by decide) hM hw) (fun v v' h h' => h.trans h'.symm) (Nx.same hw hz) (fun σ' H' locs' hI' => hk _ σ' n cells slots H' locs' (Nx.same hw hz).2.1 hI')
    | 12, _, hkx =>
      refine lv_tableIn (off := 559) (tgt := 592) F.1 F.2.1 dl_33 (by omega) (by omega) (by rw [hkx]; rfl) (by decide) ?_
      exact l_case (priceW w (xs (i + 1)) (xs (i + 2))) (fun v => v = priceV w (xs (i + 1)) (xs (i + 2))) (mdX := md_X11_price) (mdM := md_X12_price) F hX hbl (Nat.not_le.mpr hbl) hl hi hL hcs hI (by decide) cs_price lx_price mk_X11_price rfl lm_price mk_X12_price rfl (by decide) (by decide) (fun σ hn hR => price_C (a1 := xs (i + 1)) (a2 := xs (i + 2)) hn (by decide) hR hw) (fun σ hn hM => price_M (a1 := xs (i + 1)) (a2 := xs (i + 2)) hn (by decide) hM hw) (fun v v' h h' => h.trans h'.symm) (nx_price hw hz _ _) (fun σ' H' locs' hI' => hk _ σ' n cells slots H' locs' (nx_price hw hz _ _).2.1 hI')
    | 13, _, hkx =>
      refine lv_tableIn (off := 592) (tgt := 625) F.1 F.2.1 dl_33 (by omega) (by omega) (by rw [hkx]; rfl) (by decide) ?_
      exact l_case (stepW w (xs (i + 1))) (fun v => v = stepV (xs (i + 1))) (mdX := md_X11_step) (mdM := md_X12_step) F hX hbl (Nat.not_le.mpr hbl) hl hi hL hcs hI (by decide) cs_step lx_step mk_X11_step rfl lm_step mk_X12_step rfl (by decide) (by decide) (fun σ hn hR => step_C (a := xs (i + 1)) hn hR hw) (fun σ hn hM => step_M (a := xs (i + 1)) hn (by decide) hM hw) (fun v v' h h' => h.trans h'.symm) (nx_step hw hz _) (fun σ' H' locs' hI' => hk _ σ' n cells slots H' locs' (nx_step hw hz _).2.1 hI')
    | 14, _, hkx =>
      refine lv_tableIn (off := 615) (tgt := 648) F.1 F.2.1 dl_33 (by omega) (by omega) (by rw [hkx]; rfl) (by decide) ?_
      exact l_case (w) (fun v => v = buysV w (xs (i + 1)) (xs (i + 2))) (mdX := md_X11_buys) (mdM := md_X12_buys) F hX hbl (Nat.not_le.mpr hbl) hl hi hL hcs hI (by decide) cs_buys lx_buys mk_X11_buys rfl lm_buys mk_X12_buys rfl (by decide) (by decide) (fun σ hn hR => buys_C (a1 := xs (i + 1)) (a2 := xs (i + 2)) hn (by decide) hR hw) (fun σ hn hM => buys_M (a1 := xs (i + 1)) (a2 := xs (i + 2)) hn (by decide) hM hw) (fun v v' h h' => h.trans h'.symm) (Nx.same hw hz) (fun σ' H' locs' hI' => hk _ σ' n cells slots H' locs' (Nx.same hw hz).2.1 hI')
    | 15, _, hkx =>
      refine lv_tableIn (off := 648) (tgt := 681) F.1 F.2.1 dl_33 (by omega) (by omega) (by rw [hkx]; rfl) (by decide) ?_
      exact l_case (w) (fun v => dearA w (xs (i + 1)) v) (mdX := md_X11_dear) (mdM := md_X12_dear) F hX hbl (Nat.not_le.mpr hbl) hl hi hL hcs hI (by decide) cs_dear lx_dear mk_X11_dear rfl lm_dear mk_X12_dear rfl (by decide) (by decide) (fun σ hn hR => dear_C (a := xs (i + 1)) hn (by decide) hR hw) (fun σ hn hM => dear_M (a := xs (i + 1)) hn (by decide) hM hw) (fun v v' h h' => dearA.uq hw h h') (Nx.same hw hz) (fun σ' H' locs' hI' => hk _ σ' n cells slots H' locs' (Nx.same hw hz).2.1 hI')
    | 16, _, hkx =>
      refine lv_tableIn (off := 671) (tgt := 704) F.1 F.2.1 dl_33 (by omega) (by omega) (by rw [hkx]; rfl) (by decide) ?_
      exact l_case (w) (fun v => v = overV w (xs (i + 1))) (mdX := md_X11_over) (mdM := md_X12_over) F hX hbl (Nat.not_le.mpr hbl) hl hi hL hcs hI (by decide) cs_over lx_over mk_X11_over rfl lm_over mk_X12_over rfl (by decide) (by decide) (fun σ hn hR => over_C (a := xs (i + 1)) hn (by decide) hR hw) (fun σ hn hM => over_M (a := xs (i + 1)) hn (by decide) hM hw) (fun v v' h h' => h.trans h'.symm) (Nx.same hw hz) (fun σ' H' locs' hI' => hk _ σ' n cells slots H' locs' (Nx.same hw hz).2.1 hI')
    | 17, _, hkx =>
      refine lv_tableIn (off := 694) (tgt := 727) F.1 F.2.1 dl_33 (by omega) (by omega) (by rw [hkx]; rfl) (by decide) ?_
      exact l_case (w) (fun v => v = squareV w) (mdX := md_X11_square) (mdM := md_X12_square) F hX hbl (Nat.not_le.mpr hbl) hl hi hL hcs hI (by decide) cs_square lx_square mk_X11_square rfl lm_square mk_X12_square rfl (by decide) (by decide) (fun σ hn hR => square_C  hn (by decide) hR hw) (fun σ hn hM => square_M  hn (by decide) hM hw) (fun v v' h h' => h.trans h'.symm) (Nx.same hw hz) (fun σ' H' locs' hI' => hk _ σ' n cells slots H' locs' (Nx.same hw hz).2.1 hI')
    | 18, _, hkx =>
      refine lv_tableIn (off := 707) (tgt := 740) F.1 F.2.1 dl_33 (by omega) (by omega) (by rw [hkx]; rfl) (by decide) ?_
      exact l_case (w) (fun v => v = fitV w (xs (i + 1)) (xs (i + 2))) (mdX := md_X11_fit) (mdM := md_X12_fit) F hX hbl (Nat.not_le.mpr hbl) hl hi hL hcs hI (by decide) cs_fit lx_fit mk_X11_fit rfl lm_fit mk_X12_fit rfl (by decide) (by decide) (fun σ hn hR => fit_C (a1 := xs (i + 1)) (a2 := xs (i + 2)) hn (by decide) hR hw) (fun σ hn hM => fit_M (a1 := xs (i + 1)) (a2 := xs (i + 2)) hn (by decide) hM hw) (fun v v' h h' => h.trans h'.symm) (Nx.same hw hz) (fun σ' H' locs' hI' => hk _ σ' n cells slots H' locs' (Nx.same hw hz).2.1 hI')
    | 19, _, hkx =>
      refine lv_tableIn (off := 740) (tgt := 773) F.1 F.2.1 dl_33 (by omega) (by omega) (by rw [hkx]; rfl) (by decide) ?_
      exact l_case (settleW w (xs (i + 1))) (fun v => v = settleV (xs (i + 1))) (mdX := md_X11_settle) (mdM := md_X12_settle) F hX hbl (Nat.not_le.mpr hbl) hl hi hL hcs hI (by decide) cs_settle lx_settle mk_X11_settle rfl lm_settle mk_X12_settle rfl (by decide) (by decide) (fun σ hn hR => settle_C (a := xs (i + 1)) hn (by decide) hR hw) (fun σ hn hM => settle_M (a := xs (i + 1)) hn (by decide) hM hw) (fun v v' h h' => h.trans h'.symm) (nx_settle hw hz _) (fun σ' H' locs' hI' => hk _ σ' n cells slots H' locs' (nx_settle hw hz _).2.1 hI')
    | 20, _, hkx =>
      refine lv_tableIn (off := 763) (tgt := 796) F.1 F.2.1 dl_33 (by omega) (by omega) (by rw [hkx]; rfl) (by decide) ?_
      exact l_case (w) (fun v => v = mustV w (xs (i + 1))) (mdX := md_X11_must) (mdM := md_X12_must) F hX hbl (Nat.not_le.mpr hbl) hl hi hL hcs hI (by decide) cs_must lx_must mk_X11_must rfl lm_must mk_X12_must rfl (by decide) (by decide) (fun σ hn hR => must_C (a := xs (i + 1)) hn (by decide) hR hw) (fun σ hn hM => must_M (a := xs (i + 1)) hn (by decide) hM hw) (fun v v' h h' => h.trans h'.symm) (Nx.same hw hz) (fun σ' H' locs' hI' => hk _ σ' n cells slots H' locs' (Nx.same hw hz).2.1 hI')
    | 21, _, hkx =>
      refine lv_tableIn (off := 786) (tgt := 819) F.1 F.2.1 dl_33 (by omega) (by omega) (by rw [hkx]; rfl) (by decide) ?_
      exact l_case (w) (fun v => whyA w (xs (i + 1)) (xs (i + 2)) (xs (i + 3)) v) (mdX := md_X11_why) (mdM := md_X12_why) F hX hbl (Nat.not_le.mpr hbl) hl hi hL hcs hI (by decide) cs_why lx_why mk_X11_why rfl lm_why mk_X12_why rfl (by decide) (by decide) (fun σ hn hR => why_C (a1 := xs (i + 1)) (a2 := xs (i + 2)) (a3 := xs (i + 3)) hn (by decide) hR hw) (fun σ hn hM => why_M (a1 := xs (i + 1)) (a2 := xs (i + 2)) (a3 := xs (i + 3)) hn (by decide) hM hw) (fun v v' h h' => whyA.uq hw h h') (Nx.same hw hz) (fun σ' H' locs' hI' => hk _ σ' n cells slots H' locs' (Nx.same hw hz).2.1 hI')
    | 22, _, hkx =>
      refine lv_tableIn (off := 829) (tgt := 862) F.1 F.2.1 dl_33 (by omega) (by omega) (by rw [hkx]; rfl) (by decide) ?_
      exact l_case (giveW w (xs (i + 1)) (xs (i + 2))) (fun v => v = giveV w (xs (i + 1)) (xs (i + 2))) (mdX := md_X11_give) (mdM := md_X12_give) F hX hbl (Nat.not_le.mpr hbl) hl hi hL hcs hI (by decide) cs_give lx_give mk_X11_give rfl lm_give mk_X12_give rfl (by decide) (by decide) (fun σ hn hR => give_C (a1 := xs (i + 1)) (a2 := xs (i + 2)) hn (by decide) hR hw) (fun σ hn hM => give_M (a1 := xs (i + 1)) (a2 := xs (i + 2)) hn (by decide) hM hw) (fun v v' h h' => h.trans h'.symm) (nx_give hw hz _ _) (fun σ' H' locs' hI' => hk _ σ' n cells slots H' locs' (nx_give hw hz _ _).2.1 hI')
    | 23, _, hkx =>
      refine lv_tableIn (off := 862) (tgt := 895) F.1 F.2.1 dl_33 (by omega) (by omega) (by rw [hkx]; rfl) (by decide) ?_
      exact l_case (w) (fun v => v = hasV w (xs (i + 1)) (xs (i + 2))) (mdX := md_X11_has) (mdM := md_X12_has) F hX hbl (Nat.not_le.mpr hbl) hl hi hL hcs hI (by decide) cs_has lx_has mk_X11_has rfl lm_has mk_X12_has rfl (by decide) (by decide) (fun σ hn hR => has_C (a1 := xs (i + 1)) (a2 := xs (i + 2)) hn (by decide) hR hw) (fun σ hn hM => has_M (a1 := xs (i + 1)) (a2 := xs (i + 2)) hn (by decide) hM hw) (fun v v' h h' => h.trans h'.symm) (Nx.same hw hz) (fun σ' H' locs' hI' => hk _ σ' n cells slots H' locs' (Nx.same hw hz).2.1 hI')
    | 24, _, hkx =>
      refine lv_tableIn (off := 895) (tgt := 928) F.1 F.2.1 dl_33 (by omega) (by omega) (by rw [hkx]; rfl) (by decide) ?_
      exact l_case (w) (fun v => v = leftV w (xs (i + 1)) (xs (i + 2))) (mdX := md_X11_left) (mdM := md_X12_left) F hX hbl (Nat.not_le.mpr hbl) hl hi hL hcs hI (by decide) cs_left lx_left mk_X11_left rfl lm_left mk_X12_left rfl (by decide) (by decide) (fun σ hn hR => left_C (a1 := xs (i + 1)) (a2 := xs (i + 2)) hn (by decide) hR hw) (fun σ hn hM => left_M (a1 := xs (i + 1)) (a2 := xs (i + 2)) hn (by decide) hM hw) (fun v v' h h' => h.trans h'.symm) (Nx.same hw hz) (fun σ' H' locs' hI' => hk _ σ' n cells slots H' locs' (Nx.same hw hz).2.1 hI')
    | 25, _, hkx =>
      refine lv_tableIn (off := 928) (tgt := 961) F.1 F.2.1 dl_33 (by omega) (by omega) (by rw [hkx]; rfl) (by decide) ?_
      exact l_case (w) (fun v => v = sumV w (xs (i + 1))) (mdX := md_X11_sum) (mdM := md_X12_sum) F hX hbl (Nat.not_le.mpr hbl) hl hi hL hcs hI (by decide) cs_sum lx_sum mk_X11_sum rfl lm_sum mk_X12_sum rfl (by decide) (by decide) (fun σ hn hR => sum_C (a := xs (i + 1)) hn (by decide) hR hw) (fun σ hn hM => sum_M (a := xs (i + 1)) hn (by decide) hM hw) (fun v v' h h' => h.trans h'.symm) (Nx.same hw hz) (fun σ' H' locs' hI' => hk _ σ' n cells slots H' locs' (Nx.same hw hz).2.1 hI')
    | 26, _, hkx =>
      refine lv_tableIn (off := 951) (tgt := 984) F.1 F.2.1 dl_33 (by omega) (by omega) (by rw [hkx]; rfl) (by decide) ?_
      exact l_case (w) (fun v => v = envyV w (xs (i + 1)) (xs (i + 2)) (xs (i + 3))) (mdX := md_X11_envy) (mdM := md_X12_envy) F hX hbl (Nat.not_le.mpr hbl) hl hi hL hcs hI (by decide) cs_envy lx_envy mk_X11_envy rfl lm_envy mk_X12_envy rfl (by decide) (by decide) (fun σ hn hR => envy_C (a1 := xs (i + 1)) (a2 := xs (i + 2)) (a3 := xs (i + 3)) hn (by decide) hR hw) (fun σ hn hM => envy_M (a1 := xs (i + 1)) (a2 := xs (i + 2)) (a3 := xs (i + 3)) hn (by decide) hM hw) (fun v v' h h' => h.trans h'.symm) (Nx.same hw hz) (fun σ' H' locs' hI' => hk _ σ' n cells slots H' locs' (Nx.same hw hz).2.1 hI')
    | 27, _, hkx =>
      refine lv_tableIn (off := 994) (tgt := 1027) F.1 F.2.1 dl_33 (by omega) (by omega) (by rw [hkx]; rfl) (by decide) ?_
      exact l_case (w) (fun v => v = enviesV w (xs (i + 1)) (xs (i + 2))) (mdX := md_X11_envies) (mdM := md_X12_envies) F hX hbl (Nat.not_le.mpr hbl) hl hi hL hcs hI (by decide) cs_envies lx_envies mk_X11_envies rfl lm_envies mk_X12_envies rfl (by decide) (by decide) (fun σ hn hR => envies_C (a1 := xs (i + 1)) (a2 := xs (i + 2)) hn (by decide) hR hw) (fun σ hn hM => envies_M (a1 := xs (i + 1)) (a2 := xs (i + 2)) hn (by decide) hM hw) (fun v v' h h' => h.trans h'.symm) (Nx.same hw hz) (fun σ' H' locs' hI' => hk _ σ' n cells slots H' locs' (Nx.same hw hz).2.1 hI')
    | 28, _, hkx =>
      refine lv_tableIn (off := 1027) (tgt := 1060) F.1 F.2.1 dl_33 (by omega) (by omega) (by rw [hkx]; rfl) (by decide) ?_
      exact l_case (w) (fun v => v = wasteV w (xs (i + 1)) (xs (i + 2))) (mdX := md_X11_waste) (mdM := md_X12_waste) F hX hbl (Nat.not_le.mpr hbl) hl hi hL hcs hI (by decide) cs_waste lx_waste mk_X11_waste rfl lm_waste mk_X12_waste rfl (by decide) (by decide) (fun σ hn hR => waste_C (a1 := xs (i + 1)) (a2 := xs (i + 2)) hn (by decide) hR hw) (fun σ hn hM => waste_M (a1 := xs (i + 1)) (a2 := xs (i + 2)) hn (by decide) hM hw) (fun v v' h h' => h.trans h'.symm) (Nx.same hw hz) (fun σ' H' locs' hI' => hk _ σ' n cells slots H' locs' (Nx.same hw hz).2.1 hI')
    | 29, _, hkx =>
      refine lv_tableIn (off := 1060) (tgt := 1093) F.1 F.2.1 dl_33 (by omega) (by omega) (by rw [hkx]; rfl) (by decide) ?_
      exact l_case (w) (fun v => v = shareV w (xs (i + 1))) (mdX := md_X11_share) (mdM := md_X12_share) F hX hbl (Nat.not_le.mpr hbl) hl hi hL hcs hI (by decide) cs_share lx_share mk_X11_share rfl lm_share mk_X12_share rfl (by decide) (by decide) (fun σ hn hR => share_C (a := xs (i + 1)) hn (by decide) hR hw) (fun σ hn hM => share_M (a := xs (i + 1)) hn (by decide) hM hw) (fun v v' h h' => h.trans h'.symm) (Nx.same hw hz) (fun σ' H' locs' hI' => hk _ σ' n cells slots H' locs' (Nx.same hw hz).2.1 hI')
    | 30, _, hkx =>
      refine lv_tableIn (off := 1083) (tgt := 1116) F.1 F.2.1 dl_33 (by omega) (by omega) (by rw [hkx]; rfl) (by decide) ?_
      exact l_case (w) (fun v => v = gainV w (xs (i + 1)) (xs (i + 2))) (mdX := md_X11_gain) (mdM := md_X12_gain) F hX hbl (Nat.not_le.mpr hbl) hl hi hL hcs hI (by decide) cs_gain lx_gain mk_X11_gain rfl lm_gain mk_X12_gain rfl (by decide) (by decide) (fun σ hn hR => gain_C (a1 := xs (i + 1)) (a2 := xs (i + 2)) hn (by decide) hR hw) (fun σ hn hM => gain_M (a1 := xs (i + 1)) (a2 := xs (i + 2)) hn (by decide) hM hw) (fun v v' h h' => h.trans h'.symm) (Nx.same hw hz) (fun σ' H' locs' hI' => hk _ σ' n cells slots H' locs' (Nx.same hw hz).2.1 hI')
    | 31, _, hkx =>
      refine lv_tableIn (off := 1116) (tgt := 1149) F.1 F.2.1 dl_33 (by omega) (by omega) (by rw [hkx]; rfl) (by decide) ?_
      exact l_case (w) (fun v => v = rankV w (xs (i + 1)) (xs (i + 2))) (mdX := md_X11_rank) (mdM := md_X12_rank) F hX hbl (Nat.not_le.mpr hbl) hl hi hL hcs hI (by decide) cs_rank lx_rank mk_X11_rank rfl lm_rank mk_X12_rank rfl (by decide) (by decide) (fun σ hn hR => rank_C (a1 := xs (i + 1)) (a2 := xs (i + 2)) hn (by decide) hR hw) (fun σ hn hM => rank_M (a1 := xs (i + 1)) (a2 := xs (i + 2)) hn (by decide) hM hw) (fun v v' h h' => h.trans h'.symm) (Nx.same hw hz) (fun σ' H' locs' hI' => hk _ σ' n cells slots H' locs' (Nx.same hw hz).2.1 hI')
    | 32, _, hkx =>
      refine lv_tableIn (off := 1149) (tgt := 1182) F.1 F.2.1 dl_33 (by omega) (by omega) (by rw [hkx]; rfl) (by decide) ?_
      exact l_case (w) (fun v => tiesA w (xs (i + 1)) v) (mdX := md_X11_ties) (mdM := md_X12_ties) F hX hbl (Nat.not_le.mpr hbl) hl hi hL hcs hI (by decide) cs_ties lx_ties mk_X11_ties rfl lm_ties mk_X12_ties rfl (by decide) (by decide) (fun σ hn hR => ties_C (a := xs (i + 1)) hn (by decide) hR hw) (fun σ hn hM => ties_M (a := xs (i + 1)) hn (by decide) hM hw) (fun v v' h h' => tiesA.uq hw h h') (Nx.same hw hz) (fun σ' H' locs' hI' => hk _ σ' n cells slots H' locs' (Nx.same hw hz).2.1 hI')
    | 33, _, hkx =>
      refine lv_tableIn (off := 1172) (tgt := 1205) F.1 F.2.1 dl_33 (by omega) (by omega) (by rw [hkx]; rfl) (by decide) ?_
      exact l_case (w) (fun v => edgeA w (xs (i + 1)) (xs (i + 2)) v) (mdX := md_X11_edge) (mdM := md_X12_edge) F hX hbl (Nat.not_le.mpr hbl) hl hi hL hcs hI (by decide) cs_edge lx_edge mk_X11_edge rfl lm_edge mk_X12_edge rfl (by decide) (by decide) (fun σ hn hR => edge_C (a1 := xs (i + 1)) (a2 := xs (i + 2)) hn (by decide) hR hw) (fun σ hn hM => edge_M (a1 := xs (i + 1)) (a2 := xs (i + 2)) hn (by decide) hM hw) (fun v v' h h' => edgeA.uq hw h h') (Nx.same hw hz) (fun σ' H' locs' hI' => hk _ σ' n cells slots H' locs' (Nx.same hw hz).2.1 hI')
    | 34, _, hkx =>
      refine lv_tableIn (off := 1205) (tgt := 1238) F.1 F.2.1 dl_33 (by omega) (by omega) (by rw [hkx]; rfl) (by decide) ?_
      exact l_case (w) (fun v => v = fewV w (xs (i + 1)) (xs (i + 2)) (xs (i + 3))) (mdX := md_X11_few) (mdM := md_X12_few) F hX hbl (Nat.not_le.mpr hbl) hl hi hL hcs hI (by decide) cs_few lx_few mk_X11_few rfl lm_few mk_X12_few rfl (by decide) (by decide) (fun σ hn hR => few_C (a1 := xs (i + 1)) (a2 := xs (i + 2)) (a3 := xs (i + 3)) hn (by decide) hR hw) (fun σ hn hM => few_M (a1 := xs (i + 1)) (a2 := xs (i + 2)) (a3 := xs (i + 3)) hn (by decide) hM hw) (fun v v' h h' => h.trans h'.symm) (Nx.same hw hz) (fun σ' H' locs' hI' => hk _ σ' n cells slots H' locs' (Nx.same hw hz).2.1 hI')
    | 35, _, hkx =>
      refine lv_tableIn (off := 1248) (tgt := 1281) F.1 F.2.1 dl_33 (by omega) (by omega) (by rw [hkx]; rfl) (by decide) ?_
      exact l_case (w) (fun v => v = judgeV w) (mdX := md_X11_judge) (mdM := md_X12_judge) F hX hbl (Nat.not_le.mpr hbl) hl hi hL hcs hI (by decide) cs_judge lx_judge mk_X11_judge rfl lm_judge mk_X12_judge rfl (by decide) (by decide) (fun σ hn hR => judge_C  hn (by decide) hR hw) (fun σ hn hM => judge_M  hn (by decide) hM hw) (fun v v' h h' => h.trans h'.symm) (Nx.same hw hz) (fun σ' H' locs' hI' => hk _ σ' n cells slots H' locs' (Nx.same hw hz).2.1 hI')
    | 36, _, hkx =>
      refine lv_tableIn (off := 1261) (tgt := 1294) F.1 F.2.1 dl_33 (by omega) (by omega) (by rw [hkx]; rfl) (by decide) ?_
      exact l_case (w) (fun v => v = countV w (xs (i + 1))) (mdX := md_X11_count) (mdM := md_X12_count) F hX hbl (Nat.not_le.mpr hbl) hl hi hL hcs hI (by decide) cs_count lx_count mk_X11_count rfl lm_count mk_X12_count rfl (by decide) (by decide) (fun σ hn hR => count_C (a := xs (i + 1)) hn (by decide) hR hw) (fun σ hn hM => count_M (a := xs (i + 1)) hn (by decide) hM hw) (fun v v' h h' => h.trans h'.symm) (Nx.same hw hz) (fun σ' H' locs' hI' => hk _ σ' n cells slots H' locs' (Nx.same hw hz).2.1 hI')
    | k + 37, h, _ => exact absurd h (by omega)
theorem l_head {b L i : Nat} {xs : Nat → Int32} {w : Wd} (F : Fx p M_L s m #[Value.ref b] meth c) (hX : va_X b L xs s s.heap) (hbl : b < s.heap.size) (hL : L ≤ 3072) (hi3 : i ≤ 3072) (hI : LI (G0 D s.heap.size K cA) (fun q => s.heap.size ≤ q) s w σ n cells slots H locs) (hl : lv_has lsA 4 [(0, .ref b), (1, .ref ((G0 D s.heap.size K cA).2.1 0)), (2, .ref ((G0 D s.heap.size K cA).2.1 11)), (3, .int (nI i))])
    (hk : i + 6 ≤ L → W p l e room_1 s m #[Value.ref b] below meth c H locs cells slots (lw_Z below #[Value.ref b] s) (F0 m 27 lsA [])) : W p l e room_1 s m #[Value.ref b] below meth c H locs cells slots (lw_Z below #[Value.ref b] s) (F0 m 18 lsA []) := by
  have hC := hI.2.2.2.2.2.2.2
  refine lv_iload_n F.1 F.2.1 dl_18 rfl (lv_at hl 3 rfl) ?_
  refine lv_aload_n F.1 F.2.1 dl_19 rfl (lv_at hl 0 rfl) ?_
  refine va_slen F.1 F.2.1 hX hbl (Nat.not_le.mpr hbl) hC.2.2.2.1 dl_20 ?_
  refine lv_bipush (v := 6) F.1 F.2.1 dl_21 (by decide) ?_
  refine lv_isub F.1 F.2.1 dl_23 ?_
  have eL : (Int32.ofNat L - 6).toInt = (L : Int) - 6 := by
    have h1 : (Int32.ofNat L).toInt = (L : Int) := nI_toInt (n := L) (by omega)
    rw [Int32.toInt_sub, h1, show (6 : Int32).toInt = 6 by decide, Int.bmod_eq_of_le (by omega) (by omega)]
  refine lv_icmp_gt (tgt := 1323) F.1 F.2.1 dl_24 (by decide) (fun h => ?_) (fun h => ?_)
  · have h1 := hI.1.P
    have h2 := hI.2.2.2.2.1
    have h3 := hI.2.2.2.2.2.1
    have h4 := hI.2.2.2.2.2.2.1
    refine va_forget (fun q hq => hC.2.2.2.1.2.2 q hq) ?_
    refine W.widen (k := 60000) (n := 8922250) (by omega) (by omega) ?_
    refine lv_iconst (v := 1) F.1 F.2.1 dl_1323 (by decide) ?_
    exact lw_ret F.1 F.2.1 F.2.2.2.1 F.2.2.2.2.1 dl_1324
  · rw [lt_ti, eL, nI_toInt (by omega)] at h
    exact hk (by omega)
theorem l_loop {b L : Nat} {xs : Nat → Int32} (F : Fx p M_L s m #[Value.ref b] meth c) (ex : ExI s) (hX : va_X b L xs s s.heap) (hbl : b < s.heap.size) (hL : L ≤ 3072) : ∀ (f i : Nat) (w : Wd) (σ : St) (n cells slots : Nat) (H : Heap) (locs : List Loc) (lsA : Array Slot), L < i + 6 * f → i ≤ 3072 → w.ver ≤ i + 1 → LI (G0 D s.heap.size K cA) (fun q => s.heap.size ≤ q) s w σ n cells slots H locs → lv_has lsA 4 [(0, .ref b), (1, .ref ((G0 D s.heap.size K cA).2.1 0)), (2, .ref ((G0 D s.heap.size K cA).2.1 11)), (3, .int (nI i))] → W p l e room_1 s m #[Value.ref b] below meth c H locs cells slots (lw_Z below #[Value.ref b] s) (F0 m 18 lsA []) := by
  intro f
  induction f with
  | zero =>
    intro i w σ n cells slots H locs lsA hf hi3 hver hI hl
    exact l_head F hX hbl hL hi3 hI hl (fun h => absurd h (by omega))
  | succ f ih =>
    intro i w σ n cells slots H locs lsA hf hi3 hver hI hl
    refine l_head F hX hbl hL hi3 hI hl (fun hi6 => ?_)
    refine l_step F ex hX hbl hl hi6 hL (by omega) hI (fun w' σ' n' cells' slots' H' locs' hver' hI' => ?_)
    refine lv_iinc (v := nI (i + 6)) (k := 3) (lv' := [(3, .int (nI (i + 6))), (0, .ref b), (1, .ref ((G0 D s.heap.size K cA).2.1 0)), (2, .ref ((G0 D s.heap.size K cA).2.1 11))]) F.1 F.2.1 dl_1317 hl rfl (by rw [show Int32.ofInt 6 = nI 6 from rfl, nI_add2]) (by decide) rfl (fun ls' hl' => ?_)
    refine lv_goto (tgt := 18) F.1 F.2.1 dl_1320 (by decide) ?_
    exact ih (i + 6) w' σ' n' cells' slots' H' locs' ls' (by omega) (by omega) (by omega) hI' (lv_sub hl' [1, 2, 3, 0] rfl)
end LawLoop
