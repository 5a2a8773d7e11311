/-! ===== the law from its entry ===== -/
theorem wn_X11 : (.instantiable RX11 13 : Cond) ∈ TT := TT_mem 127 (by decide +kernel)
theorem wz_X11 : (.initialized RX11 : Cond) ∈ TT := TT_mem 104 (by decide +kernel)
theorem wm_X11 : (.code yX11_init cX11_init 1 none : Cond) ∈ TT := TT_mem 130 (by decide +kernel)
theorem wi_X11 : (.instanceMethod yX11_init : Cond) ∈ TT := TT_mem 129 (by decide +kernel)
theorem wc_L_7 : (.classLink RL 7 RX11 : Cond) ∈ TT := TT_mem 126 (by decide +kernel)
theorem wq_L_9 : (.methodLink RL 9 yX11_init : Cond) ∈ TT := TT_mem 128 (by decide +kernel)
abbrev fz_X11 : List Value := [.null, .null, .null, .null, .null, .null, .null, .null, .null, .null, .null, .int 0, .int 0]
theorem df_X11 : ∀ j, j < 13 → defaultValue (tyX11 j) = vp_V fz_X11 j := fun j hj => match j, hj with
  | 0, _ => rfl
  | 1, _ => rfl
  | 2, _ => rfl
  | 3, _ => rfl
  | 4, _ => rfl
  | 5, _ => rfl
  | 6, _ => rfl
  | 7, _ => rfl
  | 8, _ => rfl
  | 9, _ => rfl
  | 10, _ => rfl
  | 11, _ => rfl
  | 12, _ => rfl
  | k + 13, h => absurd h (by omega)
theorem wn_X12 : (.instantiable RX12 55 : Cond) ∈ TT := TT_mem 1271 (by decide +kernel)
theorem wz_X12 : (.initialized RX12 : Cond) ∈ TT := TT_mem 116 (by decide +kernel)
theorem wm_X12 : (.code yX12_init cX12_init 1 none : Cond) ∈ TT := TT_mem 1274 (by decide +kernel)
theorem wi_X12 : (.instanceMethod yX12_init : Cond) ∈ TT := TT_mem 1273 (by decide +kernel)
theorem wc_L_10 : (.classLink RL 10 RX12 : Cond) ∈ TT := TT_mem 1270 (by decide +kernel)
theorem wq_L_12 : (.methodLink RL 12 yX12_init : Cond) ∈ TT := TT_mem 1272 (by decide +kernel)
abbrev fz_X12 : List Value := [.int 0, .int 0, .int 0, .int 0, .int 0, .null, .null, .null, .null, .null, .null, .null, .null, .null, .int 0, .int 0, .int 0, .int 0, .int 0, .int 0, .int 0, .int 0, .null, .null, .null, .null, .null, .null, .null, .null, .null, .null, .null, .int 0, .int 0, .null, .null, .int 0, .int 0, .null, .int 0, .int 0, .null, .null, .null, .null, .null, .null, .null, .int 0, .int 0, .null, .null, .null, .null]
theorem df_X12 : ∀ j, j < 55 → defaultValue (tyX12 j) = vp_V fz_X12 j := fun j hj => match j, hj with
  | 0, _ => rfl
  | 1, _ => rfl
  | 2, _ => rfl
  | 3, _ => rfl
  | 4, _ => rfl
  | 5, _ => rfl
  | 6, _ => rfl
  | 7, _ => rfl
  | 8, _ => rfl
  | 9, _ => rfl
  | 10, _ => rfl
  | 11, _ => rfl
  | 12, _ => rfl
  | 13, _ => rfl
  | 14, _ => rfl
  | 15, _ => rfl
  | 16, _ => rfl
  | 17, _ => rfl
  | 18, _ => rfl
  | 19, _ => rfl
  | 20, _ => rfl
  | 21, _ => rfl
  | 22, _ => rfl
  | 23, _ => rfl
  | 24, _ => rfl
  | 25, _ => rfl
  | 26, _ => rfl
  | 27, _ => rfl
  | 28, _ => rfl
  | 29, _ => rfl
  | 30, _ => rfl
  | 31, _ => rfl
  | 32, _ => rfl
  | 33, _ => rfl
  | 34, _ => rfl
  | 35, _ => rfl
  | 36, _ => rfl
  | 37, _ => rfl
  | 38, _ => rfl
  | 39, _ => rfl
  | 40, _ => rfl
  | 41, _ => rfl
  | 42, _ => rfl
  | 43, _ => rfl
  | 44, _ => rfl
  | 45, _ => rfl
  | 46, _ => rfl
  | 47, _ => rfl
  | 48, _ => rfl
  | 49, _ => rfl
  | 50, _ => rfl
  | 51, _ => rfl
  | 52, _ => rfl
  | 53, _ => rfl
  | 54, _ => rfl
  | k + 55, h => absurd h (by omega)
section Entry
variable {p : Program} {l : Launch} {e : Env} {s : State} {m : MethodId} {args : Array Value} {below : List Frame} {meth : Method} {c : Code} {Q : State → Prop}
variable {G : Gx} {A : Nat → Prop} {sz b : Nat} {ls : Array Slot}
theorem ic_M (l : Launch) (G : Gx) (h0 sz : Nat) : Ic l G.1 (tyA G) I_X12 rI_X12 [] h0 12 sz fz_X12 (fsM sz) (EsM G) := ic_X12 l G h0 sz
theorem ic_X (l : Launch) (G : Gx) (h0 sz : Nat) : Ic l G.1 (tyA G) I_X11 rI_X11 [] h0 11 sz fz_X11 (fsX sz) (EsX G sz) := ic_X11 l G h0 sz
theorem mk_M {Es0 : List va_E} {H : Heap} {locs : List Loc} (F : Fx p M_L s m args meth c) (ex : ExI s) (hl : lv_has ls 4 [(1, .ref (sz + 0)), (0, .ref b)]) (hlen : Es0.length = 53) (w : Wi G.1 (tyA G) [] sz Es0 A s H locs)
    (kk : ∀ (H : Heap) (locs : List Loc) (ls : Array Slot), Wi G.1 (tyA G) [] sz (Es0 ++ .inr (12, fsM (sz + 53 + 1)) :: EsM G) A s H locs → lv_has ls 4 [(3, .int 0), (2, .ref (sz + 53)), (1, .ref (sz + 0)), (0, .ref b)] → W p l e room_1 s m args below meth c H locs 88 36988 Q (F0 m 18 ls [])) : W p l e room_1 s m args below meth c H locs 53 6039 Q (F0 m 8 ls []) := by
  have hb0 : ∀ q ∈ ([] : va_W), q.1 < sz := fun q hq => absurd hq List.not_mem_nil
  refine i_newc F inT_12 tyX12 tyX12_ok wc_L_10 wn_X12 wz_X12 w (ci := 12) rfl (fs := fz_X12) df_X12 hlen.symm (Nat.le_of_ble_eq_true rfl) (Nat.le_of_ble_eq_true rfl) dl_8 (fun H w => ?_)
  refine lv_dup F.1 F.2.1 dl_11 rfl ?_
  refine i_call (index := 0) (k := 0) (Es := Es0) (rest := [.ref (sz + Es0.length)]) (as := []) F ex hl.1 (ic_M l G _ _) wm_X12 rfl (fun hS hp => va_runI (As := []) hS (ic_M l G _ _) (cwI 0 hS.2.2.2.2 (GoodIn_M wm_X12) rfl rfl rfl (hS.2.2.2.2 _ wz_X12) (hS.2.2.2.2 _ wq_L_12) (hS.2.2.2.2 _ wi_X12) rfl (by decide +kernel) ⟨Nat.le_of_ble_eq_true rfl, Nat.le_of_ble_eq_true rfl⟩) hp rfl rfl hl.1 rfl (lv_room (Nat.le_of_ble_eq_true rfl)) dl_12 ⟨Nat.le_of_ble_eq_true rfl, Nat.le_of_ble_eq_true rfl⟩) w hb0 (by rw [hlen]) (fun H locs w => ?_)
  rw [hlen] at w ⊢
  refine lv_astore_n (lv' := [(2, .ref (sz + 53)), (1, .ref (sz + 0)), (0, .ref b)]) F.1 F.2.1 dl_15 rfl hl (by decide) rfl (fun ls hl => ?_)
  refine lv_iconst (v := 0) F.1 F.2.1 dl_16 (by decide) ?_
  refine lv_istore_n (lv' := [(3, .int 0), (2, .ref (sz + 53)), (1, .ref (sz + 0)), (0, .ref b)]) F.1 F.2.1 dl_17 rfl hl (by decide) rfl (fun ls hl => ?_)
  exact kk H locs ls w hl
theorem mk_X {H : Heap} {locs : List Loc} (F : Fx p M_L s m args meth c) (ex : ExI s) (hl : lv_has ls 4 [(0, .ref b)]) (w : Wi G.1 (tyA G) [] sz [] A s H locs)
    (kk : ∀ (H : Heap) (locs : List Loc) (ls : Array Slot), Wi G.1 (tyA G) [] sz (.inr (11, fsX (sz + 0 + 1)) :: EsX G (sz + 0 + 1)) A s H locs → lv_has ls 4 [(1, .ref (sz + 0)), (0, .ref b)] → W p l e room_1 s m args below meth c H locs 53 6039 Q (F0 m 8 ls [])) : W p l e room_1 s m args below meth c H locs 0 0 Q (F0 m 0 ls []) := by
  have hb0 : ∀ q ∈ ([] : va_W), q.1 < sz := fun q hq => absurd hq List.not_mem_nil
  refine i_newc F inT_11 tyX11 tyX11_ok wc_L_7 wn_X11 wz_X11 w (ci := 11) rfl (fs := fz_X11) df_X11 rfl (Nat.le_of_ble_eq_true rfl) (Nat.le_of_ble_eq_true rfl) dl_0 (fun H w => ?_)
  refine lv_dup F.1 F.2.1 dl_3 rfl ?_
  refine i_call (index := 0) (k := 0) (Es := []) (rest := [.ref (sz + 0)]) (as := []) F ex hl.1 (ic_X l G _ _) wm_X11 rfl (fun hS hp => va_runI (As := []) hS (ic_X l G _ _) (cwI 0 hS.2.2.2.2 (GoodIn_M wm_X11) rfl rfl rfl (hS.2.2.2.2 _ wz_X11) (hS.2.2.2.2 _ wq_L_9) (hS.2.2.2.2 _ wi_X11) rfl (by decide +kernel) ⟨Nat.le_of_ble_eq_true rfl, Nat.le_of_ble_eq_true rfl⟩) hp rfl rfl hl.1 rfl (lv_room (Nat.le_of_ble_eq_true rfl)) dl_4 ⟨Nat.le_of_ble_eq_true rfl, Nat.le_of_ble_eq_true rfl⟩) w hb0 rfl (fun H locs w => ?_)
  refine lv_astore_n (lv' := [(1, .ref (sz + 0)), (0, .ref b)]) F.1 F.2.1 dl_7 rfl hl (by decide) rfl (fun ls hl => ?_)
  exact kk H locs ls w hl
theorem len_X (a : Nat) (G : Gx) : ((.inr (11, fsX a) : va_E) :: EsX G a).length = 53 := rfl
theorem EsA_eq (G : Gx) (sz : Nat) : ((.inr (11, fsX (sz + 0 + 1)) : va_E) :: EsX G (sz + 0 + 1)) ++ .inr (12, fsM (sz + 53 + 1)) :: EsM G = EsA G sz := by
  rw [Nat.add_zero, List.cons_append, show sz + 53 + 1 = sz + 54 from rfl]
theorem wl_P1 {D : va_G} {K : Nat → Nat} {cA : Nat → ClassId} {H : Heap} (hP : va_P (G0 D sz K cA).1 cls13 ([] ++ iwl sz ((.inr (11, fsX (sz + 0 + 1)) :: EsX (G0 D sz K cA) (sz + 0 + 1)) ++ .inr (12, fsM (sz + 53 + 1)) :: EsM (G0 D sz K cA))) H) : va_P (G0 D sz K cA).1 cls13 (wl (G0 D sz K cA) 88 st0) H := by
  rw [List.nil_append, EsA_eq] at hP
  exact wl_P0 (D := D) (K := K) (cA := cA) hP
theorem hl_conv {D : va_G} {K : Nat → Nat} {cA : Nat → ClassId} (hl : lv_has ls 4 [(3, .int 0), (2, .ref (sz + 53)), (1, .ref (sz + 0)), (0, .ref b)]) : lv_has ls 4 [(0, .ref b), (1, .ref ((G0 D sz K cA).2.1 0)), (2, .ref ((G0 D sz K cA).2.1 11)), (3, .int (nI 0))] := lv_sub hl [3, 2, 1, 0] rfl
theorem wi_0 {D : va_G} {tys : List (ClassId × FieldType)} (hK : va_K D cls13 tys s) : Wi D tys [] s.heap.size [] (fun q => s.heap.size ≤ q) s s.heap [] := ⟨hK, fun k q h => absurd h (by simp [iwl]), ⟨fun i j p q h => absurd h (by simp [iwl]), fun k q h => absurd h (by simp [iwl])⟩, va_S.rf, fun _ h => h, rfl⟩
end Entry
theorem whole_start {p : Program} {e : Env} {s : State} {m : MethodId} {below : List Frame} {meth : Method} {c : Code} (l : Launch) {b L : Nat} {xs : Nat → Int32} (hL : L ≤ 3072) (C0 : lw_At p s m meth c b L xs) : W p l e room_1 s m #[Value.ref b] below meth c s.heap [] 0 0 (lw_Z below #[Value.ref b] s) (entryFrame m ([Value.ref b] : List Value).toArray 4) := by
  obtain ⟨hx, hb, hr, hml, hown, hts, hX, hbl, hlocks, hgv⟩ := id C0
  obtain ⟨D, cA, hK⟩ := K_start hts
  obtain ⟨K, hKC⟩ := KC_start hts hgv
  have ex : ExI s := ExI_start hts
  have F : Fx p M_L s m #[Value.ref b] meth c := ⟨hx, hb, hml, hr, hlocks, hown, fun w hw => hts w (List.mem_filter.mp hw).1⟩
  have hl := lv_entry ([.ref b]) (n := 4) (Nat.le_of_ble_eq_true rfl)
  rw [lg_entry_eq]
  generalize (lg_sl ([.ref b]) ++ List.replicate (4 - (lg_sl ([.ref b])).length) Slot.unset).toArray = ls at hl ⊢
  have hl : lv_has ls 4 [(0, .ref b)] := hl
  refine mk_X (G := G0 D s.heap.size K cA) F ex hl (wi_0 (hK s.heap.size K)) (fun H locs ls w hl => ?_)
  refine mk_M (G := G0 D s.heap.size K cA) F ex hl (len_X _ _) w (fun H locs ls w hl => ?_)
  have hC : Cw (G0 D s.heap.size K cA) 88 st0 (fun q => s.heap.size ≤ q) s H locs := ⟨w.1, wl_P1 w.2.1, wl_D0 (by decide), w.2.2.2.1, fun _ h => h, hKC D cA⟩
  have hI : LI (G0 D s.heap.size K cA) (fun q => s.heap.size ≤ q) s w0 st0 88 88 36988 H locs := ⟨WW_0, HZ_0, RC_0, MG_0, rfl, rfl, rfl, hC⟩
  exact l_loop F ex hX hbl hL (L + 1) 0 w0 st0 88 88 36988 H locs ls (by omega) (by omega) (Nat.le_refl 1) hI (hl_conv hl)
