/-! ===== the rules of fields, arrays and calls ===== -/
section Rules2
variable {X : Cx} {M : MI} {pc : Nat} {ls : List (Option Value)} {st : List Value} {σ : St}
theorem inT_of {ws : List Cond} (ps : List Nat) (h : (ws == ps.filterMap (fun i => lw_tbl[i]?) && ws.all goodWord) = true) : ∀ w ∈ ws, w ∈ TT := by
  intro w hw
  rw [Bool.and_eq_true] at h
  have h2 := List.all_eq_true.mp h.2 w hw
  rw [eq_of_beq h.1] at hw
  obtain ⟨i, -, hi⟩ := List.mem_filterMap.mp hw
  exact List.mem_filter.mpr ⟨List.mem_of_getElem? hi, h2⟩
theorem inT_0 : ∀ w ∈ u_ws RX0 TX0 11, w ∈ TT := inT_of [204, 206, 208, 210, 212, 214, 216, 218, 220, 222, 224] (by decide +kernel)
theorem inT_1 : ∀ w ∈ u_ws RX1 TX1 3, w ∈ TT := inT_of [248, 250, 252] (by decide +kernel)
theorem inT_2 : ∀ w ∈ u_ws RX2 TX2 5, w ∈ TT := inT_of [462, 464, 466, 468, 470] (by decide +kernel)
theorem inT_3 : ∀ w ∈ u_ws RX3 TX3 4, w ∈ TT := inT_of [440, 442, 444, 446] (by decide +kernel)
theorem inT_4 : ∀ w ∈ u_ws RX4 TX4 8, w ∈ TT := inT_of [332, 334, 336, 338, 340, 342, 344, 346] (by decide +kernel)
theorem inT_5 : ∀ w ∈ u_ws RX5 TX5 10, w ∈ TT := inT_of [506, 508, 510, 512, 514, 516, 518, 520, 522, 524] (by decide +kernel)
theorem inT_6 : ∀ w ∈ u_ws RX6 TX6 8, w ∈ TT := inT_of [164, 166, 168, 170, 172, 174, 176, 178] (by decide +kernel)
theorem inT_7 : ∀ w ∈ u_ws RX7 TX7 5, w ∈ TT := inT_of [298, 300, 302, 304, 306] (by decide +kernel)
theorem inT_8 : ∀ w ∈ u_ws RX8 TX8 11, w ∈ TT := inT_of [371, 373, 375, 377, 379, 381, 383, 385, 387, 389, 391] (by decide +kernel)
theorem inT_9 : ∀ w ∈ u_ws RX9 TX9 6, w ∈ TT := inT_of [271, 273, 275, 277, 279, 281] (by decide +kernel)
theorem inT_10 : ∀ w ∈ u_ws RX10 TX10 8, w ∈ TT := inT_of [412, 414, 416, 418, 420, 422, 424, 426] (by decide +kernel)
theorem inT_11 : ∀ w ∈ u_ws RX11 TX11 13, w ∈ TT := inT_of [541, 543, 545, 547, 549, 551, 553, 555, 557, 559, 561, 563, 565] (by decide +kernel)
theorem inT_12 : ∀ w ∈ u_ws RX12 TX12 55, w ∈ TT := inT_of [1331, 1333, 1335, 1337, 1339, 1341, 1343, 1345, 1347, 1349, 1351, 1353, 1355, 1357, 1359, 1361, 1363, 1365, 1367, 1369, 1371, 1373, 1375, 1377, 1379, 1381, 1383, 1385, 1387, 1389, 1391, 1393, 1395, 1397, 1399, 1401, 1403, 1405, 1407, 1409, 1411, 1413, 1415, 1417, 1419, 1421, 1423, 1425, 1427, 1429, 1431, 1433, 1435, 1437, 1439] (by decide +kernel)
theorem inT : ∀ (ci : Nat) (r : vw_C), cls13[ci]? = some r → ∀ w ∈ u_ws r.1 r.2.1 r.2.2, w ∈ TT := by
  intro ci r h
  match ci, h with
  | 0, h => cases h; exact inT_0
  | 1, h => cases h; exact inT_1
  | 2, h => cases h; exact inT_2
  | 3, h => cases h; exact inT_3
  | 4, h => cases h; exact inT_4
  | 5, h => cases h; exact inT_5
  | 6, h => cases h; exact inT_6
  | 7, h => cases h; exact inT_7
  | 8, h => cases h; exact inT_8
  | 9, h => cases h; exact inT_9
  | 10, h => cases h; exact inT_10
  | 11, h => cases h; exact inT_11
  | 12, h => cases h; exact inT_12
  | _ + 13, h => simp at h
/-- a field by its link: the class that looks, the entry, the class's number, the field's place -/
def Fl (own : String) (index ci k : Nat) : Prop := ∃ r : vw_C, cls13[ci]? = some r ∧ k < r.2.2 ∧ (.fieldLink own index r.1 (r.2.1 k).2.1 (r.2.1 k).2.2.1 : Cond) ∈ TT ∧ (r.2.1 k).1 = r.1
theorem Fl.mk {own : String} {index ci k : Nat} (r : vw_C) (hr : cls13[ci]? = some r) (hk : Nat.blt k r.2.2 = true) (i : Nat) (h : (lw_tbl[i]? == some (.fieldLink own index r.1 (r.2.1 k).2.1 (r.2.1 k).2.2.1) && goodWord (.fieldLink own index r.1 (r.2.1 k).2.1 (r.2.1 k).2.2.1)) = true) (h2 : (r.2.1 k).1 = r.1) : Fl own index ci k := ⟨r, hr, Nat.blt_eq.mp hk, TT_mem i h, h2⟩
theorem fs_get {G : Gx} {σ : St} {q ci N k : Nat} (h : k < N) : ((List.range N).map (fv G σ q ci))[k]? = some (fv G σ q ci k) := by simp [h]
theorem e_getI {q ci k index : Nat} (hd : decode M.2.1 pc = .ok (.getfield index, 3)) (hl : Fl M.1.cls index ci k) (ho : Ob X.n q ci) (ht : ir ci k = false) (kk : Ev X M (pc + 3) ls (.int (gI σ q k) :: st) σ) : Ev X M pc ls (.ref q :: st) σ := by
  intro G p l e s m args below meth c H locs A lsA hF hC hL hFr
  obtain ⟨r, hr, hk, hw, hc⟩ := hl
  obtain ⟨⟨N, hkd, r', hr', hN⟩, hq, h20⟩ := ho
  have e : r' = r := by rw [hr] at hr'; exact (Option.some.inj hr').symm
  subst e
  have hv : ((List.range N).map (fv G σ q ci))[k]? = some (.int (gI σ q k)) := by rw [fs_get (by omega)]; simp [fv, ht]
  exact va_get hF.1 hF.2.1 (Ts := TT) (C := r'.1) (T := r'.2.1) (N := r'.2.2) (ci := ci) (ref := r'.1) hF.2.2.2.2.2.2 (inT ci r' hr) hF.2.2.2.2.2.1 hC.1 hC.2.1 q (fs := (List.range N).map (fv G σ q ci)) (by rw [wl_get hq, cell_o hkd h20]) hr k hk (hF.2.2.2.2.2.2 _ hw) (fun x h => by rw [hc] at h; exact h) hv hd (kk G p l e s m args below meth c H locs A lsA hF hC hL hFr)
theorem e_getR {q ci k index : Nat} {y : Nat} (hd : decode M.2.1 pc = .ok (.getfield index, 3)) (hl : Fl M.1.cls index ci k) (ho : Ob X.n q ci) (ht : ir ci k = true) (hy : rf q k = y) (kk : Ev X M (pc + 3) ls (.ref y :: st) σ) : Ev X M pc ls (.ref q :: st) σ := by
  intro G p l e s m args below meth c H locs A lsA hF hC hL hFr
  obtain ⟨r, hr, hk, hw, hc⟩ := hl
  obtain ⟨⟨N, hkd, r', hr', hN⟩, hq, h20⟩ := ho
  have e : r' = r := by rw [hr] at hr'; exact (Option.some.inj hr').symm
  subst e
  subst hy
  have hv : ((List.range N).map (fv G σ q ci))[k]? = some (.ref (G.2.1 (rf q k))) := by rw [fs_get (by omega)]; simp [fv, ht]
  exact va_get hF.1 hF.2.1 (Ts := TT) (C := r'.1) (T := r'.2.1) (N := r'.2.2) (ci := ci) (ref := r'.1) hF.2.2.2.2.2.2 (inT ci r' hr) hF.2.2.2.2.2.1 hC.1 hC.2.1 q (fs := (List.range N).map (fv G σ q ci)) (by rw [wl_get hq, cell_o hkd h20]) hr k hk (hF.2.2.2.2.2.2 _ hw) (fun x h => by rw [hc] at h; exact h) hv hd (kk G p l e s m args below meth c H locs A lsA hF hC hL hFr)
theorem set_fv {G : Gx} {σ : St} {q ci N k : Nat} {v : Int32} (ht : ir ci k = false) : ((List.range N).map (fv G σ q ci)).set k (.int v) = (List.range N).map (fv G (sI σ q k v) q ci) := by
  apply List.ext_getElem?
  intro i
  rw [List.getElem?_set]
  by_cases h : k = i
  · subst h
    by_cases hn : k < N
    · simp [hn, fv, ht, gI_sI_same]
    · simp [hn]
  · rw [if_neg h]
    by_cases hn : i < N
    · rw [fs_get hn, fs_get hn]
      simp only [fv]
      rw [gI_sI_ne (fun z => h z.2.symm)]
    · simp [hn]
def tyC : List (Nat → FieldType) := [tyX0, tyX1, tyX2, tyX3, tyX4, tyX5, tyX6, tyX7, tyX8, tyX9, tyX10, tyX11, tyX12]
theorem tyC_ok : ∀ (ci : Nat) (r : vw_C), cls13[ci]? = some r → ∃ ty, tyC[ci]? = some ty ∧ ∀ k, k < r.2.2 → parseFieldDescriptor (r.2.1 k).2.2.1 = some (ty k) := by
  intro ci r h
  match ci, h with
  | 0, h => cases h; exact ⟨_, rfl, tyX0_ok⟩
  | 1, h => cases h; exact ⟨_, rfl, tyX1_ok⟩
  | 2, h => cases h; exact ⟨_, rfl, tyX2_ok⟩
  | 3, h => cases h; exact ⟨_, rfl, tyX3_ok⟩
  | 4, h => cases h; exact ⟨_, rfl, tyX4_ok⟩
  | 5, h => cases h; exact ⟨_, rfl, tyX5_ok⟩
  | 6, h => cases h; exact ⟨_, rfl, tyX6_ok⟩
  | 7, h => cases h; exact ⟨_, rfl, tyX7_ok⟩
  | 8, h => cases h; exact ⟨_, rfl, tyX8_ok⟩
  | 9, h => cases h; exact ⟨_, rfl, tyX9_ok⟩
  | 10, h => cases h; exact ⟨_, rfl, tyX10_ok⟩
  | 11, h => cases h; exact ⟨_, rfl, tyX11_ok⟩
  | 12, h => cases h; exact ⟨_, rfl, tyX12_ok⟩
  | _ + 13, h => simp at h
theorem nmC_ok : ∀ (ci : Nat) (r : vw_C), cls13[ci]? = some r → ∀ a, a < r.2.2 → ∀ b, b < r.2.2 → a ≠ b → (r.2.1 a).2.1 ≠ (r.2.1 b).2.1 := by
  intro ci r h
  match ci, h with
  | 0, h => cases h; exact nmX0
  | 1, h => cases h; exact nmX1
  | 2, h => cases h; exact nmX2
  | 3, h => cases h; exact nmX3
  | 4, h => cases h; exact nmX4
  | 5, h => cases h; exact nmX5
  | 6, h => cases h; exact nmX6
  | 7, h => cases h; exact nmX7
  | 8, h => cases h; exact nmX8
  | 9, h => cases h; exact nmX9
  | 10, h => cases h; exact nmX10
  | 11, h => cases h; exact nmX11
  | 12, h => cases h; exact nmX12
  | _ + 13, h => simp at h
/-- a field that may be written: not final, of a type that holds the value -/
def Fp (ci k : Nat) (v : Int32) : Prop := ∃ r : vw_C, cls13[ci]? = some r ∧ (r.2.1 k).2.2.2 = false ∧ ∃ ty, parseFieldDescriptor (r.2.1 k).2.2.1 = some ty ∧ narrow ty (.int v) = .int v ∧ fits ty (.int v) = true
theorem Cw.set {G : Gx} {n : Nat} {σ σ' : St} {A : Nat → Prop} {s : State} {H H1 : Heap} {locs locs1 : List Loc} {q : Nat} {e : va_E} (hC : Cw G n σ A s H locs) (he : cellOf G σ' q = e) (hj : ∀ j, j ≠ q → cellOf G σ' j = cellOf G σ j) (hP : va_P G.1 cls13 ((wl G n σ).set q (G.2.1 q, e)) H1) (hD : va_D A ((wl G n σ).set q (G.2.1 q, e))) (hS : va_S A s.heap H1 locs1) : Cw G n σ' A s H1 locs1 := by
  rw [wl_set he hj] at hP hD
  exact ⟨hC.1, hP, hD, hS, hC.2.2.2.2⟩
theorem sI_other {G : Gx} {σ : St} {q k : Nat} {v : Int32} (j : Nat) (h : j ≠ q) : cellOf G (sI σ q k v) j = cellOf G σ j := cell_congr (gI_row_ne h) rfl (fun _ => rfl)
theorem e_putI {q ci k index : Nat} {v : Int32} (hd : decode M.2.1 pc = .ok (.putfield index, 3)) (hl : Fl M.1.cls index ci k) (ho : Ob X.n q ci) (ht : ir ci k = false) (hp : Fp ci k v) (hm : inMd X.m q k) (kk : Ev X M (pc + 3) ls st (sI σ q k v)) : Ev X M pc ls (.int v :: .ref q :: st) σ := by
  intro G p l e s m args below meth c H locs A lsA hF hC hL hFr
  obtain ⟨r, hr, hk, hw, hc⟩ := hl
  obtain ⟨⟨N, hkd, r', hr', hN⟩, hq, h20⟩ := ho
  obtain ⟨r2, hr2, hfin, ty, hty, hnar, hfit⟩ := hp
  have e : r' = r := by rw [hr] at hr'; exact (Option.some.inj hr').symm
  subst e
  have e : r2 = r' := by rw [hr] at hr2; exact (Option.some.inj hr2).symm
  subst e
  obtain ⟨ty0, hty0, htok⟩ := tyC_ok ci r2 hr
  exact va_put hF.1 hF.2.1 (Ts := TT) (C := r2.1) (T := r2.2.1) (N := r2.2.2) (ci := ci) (ref := r2.1) hF.2.2.2.2.2.2 (inT ci r2 hr) ty0 htok (nmC_ok ci r2 hr) hF.2.2.2.2.2.1 hC.1 hC.2.1 hC.2.2.1 hC.2.2.2.1 q (fs := (List.range N).map (fv G σ q ci)) (by rw [wl_get hq, cell_o hkd h20]) hr k hk (hF.2.2.2.2.2.2 _ hw) (fun x h => by rw [hc] at h; exact h) hfin (v := .int v) hty hnar hfit (by simp; omega) hd
    (fun H1 locs1 hP hD hS => kk G p l e s m args below meth c H1 locs1 A lsA hF (hC.set (σ' := sI σ q k v) (by rw [cell_o hkd h20, set_fv ht]) sI_other hP hD hS) hL (hFr.sI hm))

theorem e_iald {q N : Nat} {i : Int32} (hd : decode M.2.1 pc = .ok (.iaload, 1)) (ha : Ar X.n q 20 N) (hin : vp_in i N) (kk : Ev X M (pc + 1) ls (.int (gI σ q i.toNatClampNeg) :: st) σ) : Ev X M pc ls (.int i :: .ref q :: st) σ := by
  intro G p l e s m args below meth c H locs A lsA hF hC hL hFr
  exact va_iald hF.1 hF.2.1 hC.1 hC.2.1 q 0 (by rw [wl_get ha.2, cell_i ha.1]) rfl hin hd (kk G p l e s m args below meth c H locs A lsA hF hC hL hFr)
theorem e_bald {q N : Nat} {i : Int32} (hd : decode M.2.1 pc = .ok (.baload, 1)) (ha : Ar X.n q 22 N) (hin : vp_in i N) (kk : Ev X M (pc + 1) ls (.int (gI σ q i.toNatClampNeg) :: st) σ) : Ev X M pc ls (.int i :: .ref q :: st) σ := by
  intro G p l e s m args below meth c H locs A lsA hF hC hL hFr
  exact va_bald hF.1 hF.2.1 hC.1 hC.2.1 q 2 (by rw [wl_get ha.2, cell_b ha.1]) rfl hin hd (kk G p l e s m args below meth c H locs A lsA hF hC hL hFr)
theorem e_zald {q N : Nat} {i : Int32} (hd : decode M.2.1 pc = .ok (.baload, 1)) (ha : Ar X.n q 21 N) (hin : vp_in i N) (kk : Ev X M (pc + 1) ls (.int (gI σ q i.toNatClampNeg) :: st) σ) : Ev X M pc ls (.int i :: .ref q :: st) σ := by
  intro G p l e s m args below meth c H locs A lsA hF hC hL hFr
  exact va_zald hF.1 hF.2.1 hC.1 hC.2.1 q 1 (by rw [wl_get ha.2, cell_z ha.1]) rfl hin hd (kk G p l e s m args below meth c H locs A lsA hF hC hL hFr)
theorem e_lald {q N : Nat} {i : Int32} (hd : decode M.2.1 pc = .ok (.laload, 1)) (ha : Ar X.n q 23 N) (hin : vp_in i N) (kk : Ev X M (pc + 1) ls (.long (gL σ q i.toNatClampNeg) :: st) σ) : Ev X M pc ls (.int i :: .ref q :: st) σ := by
  intro G p l e s m args below meth c H locs A lsA hF hC hL hFr
  exact va_lald hF.1 hF.2.1 hC.1 hC.2.1 q 3 (by rw [wl_get ha.2, cell_l ha.1]) rfl hin hd (kk G p l e s m args below meth c H locs A lsA hF hC hL hFr)
theorem e_alen {q ty N : Nat} (hd : decode M.2.1 pc = .ok (.arraylength, 1)) (ha : Ar X.n q ty N) (hty : ty = 20) (kk : Ev X M (pc + 1) ls (.int (Int32.ofNat N) :: st) σ) : Ev X M pc ls (.ref q :: st) σ := by
  intro G p l e s m args below meth c H locs A lsA hF hC hL hFr
  subst hty
  exact va_alen hF.1 hF.2.1 hC.1 hC.2.1 q 0 (x := (N, .inl (gI σ q))) (by rw [wl_get ha.2, cell_i ha.1]) rfl rfl hd (kk G p l e s m args below meth c H locs A lsA hF hC hL hFr)
theorem upd_sI {σ : St} {q k : Nat} {v : Int32} : upd (gI σ q) k v = gI (sI σ q k v) q := by
  funext b; simp only [upd, gI, sI, up2]; by_cases h : b = k <;> simp [h]
theorem updL_sL {σ : St} {q k : Nat} {v : Int64} : vp_updL (gL σ q) k v = gL (sL σ q k v) q := by
  funext b; simp only [vp_updL, gL, sL, up2]; by_cases h : b = k <;> simp [h]
theorem e_iast {q N : Nat} {i x : Int32} (hd : decode M.2.1 pc = .ok (.iastore, 1)) (ha : Ar X.n q 20 N) (hin : vp_in i N) (hm : inMd X.m q i.toNatClampNeg) (kk : Ev X M (pc + 1) ls st (sI σ q i.toNatClampNeg x)) : Ev X M pc ls (.int x :: .int i :: .ref q :: st) σ := by
  intro G p l e s m args below meth c H locs A lsA hF hC hL hFr
  exact va_iast hF.1 hF.2.1 hC.1 hC.2.1 hC.2.2.1 hC.2.2.2.1 q 0 (by rw [wl_get ha.2, cell_i ha.1]) rfl hin hd
    (fun H1 locs1 hP hD hS => kk G p l e s m args below meth c H1 locs1 A lsA hF (hC.set (σ' := sI σ q i.toNatClampNeg x) (by rw [cell_i ha.1, upd_sI]) sI_other hP hD hS) hL (hFr.sI hm))
theorem e_bast {q N : Nat} {i x : Int32} (hd : decode M.2.1 pc = .ok (.bastore, 1)) (ha : Ar X.n q 22 N) (hin : vp_in i N) (hm : inMd X.m q i.toNatClampNeg) (kk : Ev X M (pc + 1) ls st (sI σ q i.toNatClampNeg (vp_nar .byte x))) : Ev X M pc ls (.int x :: .int i :: .ref q :: st) σ := by
  intro G p l e s m args below meth c H locs A lsA hF hC hL hFr
  exact va_bast hF.1 hF.2.1 hC.1 hC.2.1 hC.2.2.1 hC.2.2.2.1 q 2 (by rw [wl_get ha.2, cell_b ha.1]) rfl hin hd
    (fun H1 locs1 hP hD hS => kk G p l e s m args below meth c H1 locs1 A lsA hF (hC.set (σ' := sI σ q i.toNatClampNeg (vp_nar .byte x)) (by rw [cell_b ha.1, upd_sI]) sI_other hP hD hS) hL (hFr.sI hm))
theorem e_zast {q N : Nat} {i x : Int32} (hd : decode M.2.1 pc = .ok (.bastore, 1)) (ha : Ar X.n q 21 N) (hin : vp_in i N) (hm : inMd X.m q i.toNatClampNeg) (kk : Ev X M (pc + 1) ls st (sI σ q i.toNatClampNeg (vp_nar .boolean x))) : Ev X M pc ls (.int x :: .int i :: .ref q :: st) σ := by
  intro G p l e s m args below meth c H locs A lsA hF hC hL hFr
  exact va_zast hF.1 hF.2.1 hC.1 hC.2.1 hC.2.2.1 hC.2.2.2.1 q 1 (by rw [wl_get ha.2, cell_z ha.1]) rfl hin hd
    (fun H1 locs1 hP hD hS => kk G p l e s m args below meth c H1 locs1 A lsA hF (hC.set (σ' := sI σ q i.toNatClampNeg (vp_nar .boolean x)) (by rw [cell_z ha.1, upd_sI]) sI_other hP hD hS) hL (hFr.sI hm))
theorem sL_other {G : Gx} {σ : St} {q k : Nat} {v : Int64} (j : Nat) (h : j ≠ q) : cellOf G (sL σ q k v) j = cellOf G σ j := cell_congr rfl (gL_row_ne h) (fun _ => rfl)
theorem e_last {q N : Nat} {i : Int32} {x : Int64} (hd : decode M.2.1 pc = .ok (.lastore, 1)) (ha : Ar X.n q 23 N) (hin : vp_in i N) (hm : inMd X.m q i.toNatClampNeg) (kk : Ev X M (pc + 1) ls st (sL σ q i.toNatClampNeg x)) : Ev X M pc ls (.long x :: .int i :: .ref q :: st) σ := by
  intro G p l e s m args below meth c H locs A lsA hF hC hL hFr
  exact va_last hF.1 hF.2.1 hC.1 hC.2.1 hC.2.2.1 hC.2.2.2.1 q 3 (by rw [wl_get ha.2, cell_l ha.1]) rfl hin hd
    (fun H1 locs1 hP hD hS => kk G p l e s m args below meth c H1 locs1 A lsA hF (hC.set (σ' := sL σ q i.toNatClampNeg x) (by rw [cell_l ha.1, updL_sL]) sL_other hP hD hS) hL (hFr.sL hm))
theorem e_aldP {i : Int32} {q : Nat} (hd : decode M.2.1 pc = .ok (.aaload, 1)) (hn : FIX ≤ X.n) (hin : vp_in i 8) (hq : gR σ i.toNatClampNeg = some q) (kk : Ev X M (pc + 1) ls (.ref q :: st) σ) : Ev X M pc ls (.int i :: .ref 18 :: st) σ := by
  intro G p l e s m args below meth c H locs A lsA hF hC hL hFr
  have ha : Ar X.n 18 24 8 := Ar.fx hn ⟨rfl, by decide⟩
  refine va_aldq hF.1 hF.2.1 hC.1 hC.2.1 18 4 (by rw [wl_get ha.2, cell_r ha.1]) rfl hin hd ?_
  have := kk G p l e s m args below meth c H locs A lsA hF hC hL hFr
  simpa [hq, va_rf, conc] using this
theorem cell_sR {G : Gx} {σ : St} {k : Nat} {v : Nat} : cellOf G (sR σ k (some v)) 18 = .inl (G.2.2 24, 8, .inr (.inr (.inr (.inr (va_up (fun j => (gR σ j).map G.2.1) k (some (G.2.1 v))))))) := by
  rw [cell_r (N := 8) rfl]
  have : (fun j => Option.map G.2.1 (gR (sR σ k (some v)) j)) = va_up (fun j => (gR σ j).map G.2.1) k (some (G.2.1 v)) := by
    funext j; simp only [va_up, gR_sR]; by_cases h : j = k <;> simp [h]
  rw [this]
theorem kd24 {j : Nat} (h : (kd j).1 = 24) : j = 18 := by
  by_cases hp : j < P0
  · have h2 : ∀ j, j < P0 → (kd j).1 = 24 → j = 18 := by decide +kernel
    exact h2 j hp h
  · unfold kd at h
    rw [if_neg hp] at h
    have : ∀ c, c < 5 → (kdP c).1 ≠ 24 := by decide
    exact absurd h (this _ (Nat.mod_lt _ (by decide)))
theorem e_astP {i : Int32} {v : Nat} (hd : decode M.2.1 pc = .ok (.aastore, 1)) (hn : FIX ≤ X.n) (hin : vp_in i 8) (hv : IsP X.n v) (hm : inMd X.m 18 i.toNatClampNeg) (kk : Ev X M (pc + 1) ls st (sR σ i.toNatClampNeg (some v))) : Ev X M pc ls (.ref v :: .int i :: .ref 18 :: st) σ := by
  intro G p l e s m args below meth c H locs A lsA hF hC hL hFr
  have ha : Ar X.n 18 24 8 := Ar.fx hn ⟨rfl, by decide⟩
  obtain ⟨⟨N, hkd, r', hr', hN⟩, hq, h20⟩ := Ob.p hv
  exact va_astq hF.1 hF.2.1 hC.1 hC.2.1 hC.2.2.1 hC.2.2.2.1 18 4 v 5 (r := (RX5, TX5, 10)) (by rw [wl_get ha.2, cell_r ha.1]) rfl (vs := (List.range N).map (fv G σ v 5)) (by rw [wl_get hq, cell_o hkd h20]) rfl hin hd
    (fun H1 locs1 hP hD hS => kk G p l e s m args below meth c H1 locs1 A lsA hF (hC.set (σ' := sR σ i.toNatClampNeg (some v)) cell_sR (fun j h => cell_congr rfl rfl (fun z => absurd (kd24 z) h)) hP hD hS) hL (hFr.sR hm))

end Rules2
