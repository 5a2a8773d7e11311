/-! ===== the start: where each cell lies, what it holds, the first world ===== -/
def posT : List Nat := [0, 1, 7, 9, 11, 16, 18, 23, 38, 44, 46, 53, 2, 3, 4, 5, 6, 8, 10, 12, 13, 14, 15, 17, 19, 20, 21, 22, 24, 25, 26, 27, 28, 29, 39, 40, 41, 42, 43, 45, 47, 54, 55, 56, 57, 58, 59, 60, 61, 62, 63, 64, 65, 66, 67, 68, 69, 70, 71, 72, 73, 74, 75, 76, 77, 78, 79, 80, 81, 82, 83, 84, 85, 86, 87, 30, 31, 32, 33, 34, 35, 36, 37, 48, 49, 50, 51, 52]
def ini0 (q k : Nat) : Int32 := match q with
  | 0 => if k = 12 then (-1) else 0
  | 1 => if k = 1 then 4 else 0
  | 5 => if k = 4 then (-1) else 0
  | 6 => if k = 3 then 5 else 0
  | 11 => if k = 3 then 4 else if k = 4 then 5 else if k = 19 then (-1) else if k = 20 then 1 else if k = 38 then (-1) else 0
  | _ => 0
def adr (sz : Nat) (K : Nat → Nat) (q : Nat) : Nat := if q < 88 then sz + posT.getD q 0 else if q < 2000 then sz + q else K (q - 2000)
def G0 (D : va_G) (sz : Nat) (K : Nat → Nat) (cA : Nat → ClassId) : Gx := (D, adr sz K, cA)
def st0 : St := (ini0, fun _ _ => 0, fun _ => none)
abbrev fsM (sz : Nat) : List Value := [.int 0, .int 0, .int 0, .int 4, .int 5, .ref (sz + 0), .ref (sz + 1), .ref (sz + 2), .ref (sz + 3), .ref (sz + 4), .ref (sz + 5), .ref (sz + 6), .ref (sz + 7), .ref (sz + 8), .int 0, .int 0, .int 0, .int 0, .int 0, .int (-1), .int 1, .int 0, .ref (sz + 9), .ref (sz + 10), .ref (sz + 11), .ref (sz + 12), .ref (sz + 13), .ref (sz + 14), .ref (sz + 15), .ref (sz + 16), .ref (sz + 17), .ref (sz + 18), .ref (sz + 19), .int 0, .int 0, .ref (sz + 20), .ref (sz + 21), .int 0, .int (-1), .ref (sz + 22), .int 0, .int 0, .ref (sz + 23), .ref (sz + 24), .ref (sz + 25), .ref (sz + 26), .ref (sz + 27), .ref (sz + 28), .ref (sz + 29), .int 0, .int 0, .ref (sz + 30), .ref (sz + 31), .ref (sz + 32), .ref (sz + 33)]
abbrev EsM (G : Gx) : List va_E := [aI G 10, aI G 10, aI G 10, aI G 10, aI G 20, aI G 20, aI G 8, aI G 8, aI G 8, aI G 10, aI G 160, aI G 160, aI G 160, aI G 160, aI G 5000, aI G 5000, aL G 64, aL G 6, aY G 400, aY G 400, aB G 9216, aI G 9216, aI G 10, aI G 8, aI G 10, aI G 610, aI G 10, aI G 10, aI G 10, aI G 10, aI G 8, aB G 80, aI G 64, aI G 8]
abbrev EsA (G : Gx) (sz : Nat) : List va_E := .inr (11, fsX (sz + 1)) :: (EsX G (sz + 1) ++ .inr (12, fsM (sz + 54)) :: EsM G)
set_option maxRecDepth 100000 in
theorem st_cells (D : va_G) (sz : Nat) (K : Nat → Nat) (cA : Nat → ClassId) : ∀ k, k < 88 → k ≠ 33 → (EsA (G0 D sz K cA) sz)[posT.getD k 0]? = some (cellOf (G0 D sz K cA) st0 k) := fun k h h33 => match k, h, h33 with
  | 0, _, _ => rfl
  | 1, _, _ => rfl
  | 2, _, _ => rfl
  | 3, _, _ => rfl
  | 4, _, _ => rfl
  | 5, _, _ => rfl
  | 6, _, _ => rfl
  | 7, _, _ => rfl
  | 8, _, _ => rfl
  | 9, _, _ => rfl
  | 10, _, _ => rfl
  | 11, _, _ => rfl
  | 12, _, _ => rfl
  | 13, _, _ => rfl
  | 14, _, _ => rfl
  | 15, _, _ => rfl
  | 16, _, _ => rfl
  | 17, _, _ => rfl
  | 18, _, _ => rfl
  | 19, _, _ => rfl
  | 20, _, _ => rfl
  | 21, _, _ => rfl
  | 22, _, _ => rfl
  | 23, _, _ => rfl
  | 24, _, _ => rfl
  | 25, _, _ => rfl
  | 26, _, _ => rfl
  | 27, _, _ => rfl
  | 28, _, _ => rfl
  | 29, _, _ => rfl
  | 30, _, _ => rfl
  | 31, _, _ => rfl
  | 32, _, _ => rfl
  | 33, _, h => absurd rfl h
  | 34, _, _ => rfl
  | 35, _, _ => rfl
  | 36, _, _ => rfl
  | 37, _, _ => rfl
  | 38, _, _ => rfl
  | 39, _, _ => rfl
  | 40, _, _ => rfl
  | 41, _, _ => rfl
  | 42, _, _ => rfl
  | 43, _, _ => rfl
  | 44, _, _ => rfl
  | 45, _, _ => rfl
  | 46, _, _ => rfl
  | 47, _, _ => rfl
  | 48, _, _ => rfl
  | 49, _, _ => rfl
  | 50, _, _ => rfl
  | 51, _, _ => rfl
  | 52, _, _ => rfl
  | 53, _, _ => rfl
  | 54, _, _ => rfl
  | 55, _, _ => rfl
  | 56, _, _ => rfl
  | 57, _, _ => rfl
  | 58, _, _ => rfl
  | 59, _, _ => rfl
  | 60, _, _ => rfl
  | 61, _, _ => rfl
  | 62, _, _ => rfl
  | 63, _, _ => rfl
  | 64, _, _ => rfl
  | 65, _, _ => rfl
  | 66, _, _ => rfl
  | 67, _, _ => rfl
  | 68, _, _ => rfl
  | 69, _, _ => rfl
  | 70, _, _ => rfl
  | 71, _, _ => rfl
  | 72, _, _ => rfl
  | 73, _, _ => rfl
  | 74, _, _ => rfl
  | 75, _, _ => rfl
  | 76, _, _ => rfl
  | 77, _, _ => rfl
  | 78, _, _ => rfl
  | 79, _, _ => rfl
  | 80, _, _ => rfl
  | 81, _, _ => rfl
  | 82, _, _ => rfl
  | 83, _, _ => rfl
  | 84, _, _ => rfl
  | 85, _, _ => rfl
  | 86, _, _ => rfl
  | 87, _, _ => rfl
  | k + 88, h, _ => absurd h (by omega)
theorem arrV_ext {cI : ClassId} {N : Nat} {f g : Nat → Value} (h : ∀ j, j < N → f j = g j) : arrV cI N f = arrV cI N g := by
  have e : (fun j : Fin N => f j.val) = fun j : Fin N => g j.val := funext fun j => h j.val j.isLt
  unfold arrV; rw [e]
theorem posT_lt : ∀ k, k < 88 → posT.getD k 0 < 88 := by decide +kernel
theorem posT_inj : ∀ i, i < 88 → ∀ j, j < 88 → posT.getD i 0 = posT.getD j 0 → i = j := by decide +kernel
theorem adr_lo {sz : Nat} {K : Nat → Nat} {q : Nat} (h : q < 88) : adr sz K q = sz + posT.getD q 0 := if_pos h
theorem adr_hi {sz : Nat} {K : Nat → Nat} {q : Nat} (h : 88 ≤ q) (h2 : q < 2000) : adr sz K q = sz + q := by
  unfold adr; rw [if_neg (by omega), if_pos h2]
theorem wl_D0 {D : va_G} {sz : Nat} {K : Nat → Nat} {cA : Nat → ClassId} {n : Nat} {σ : St} (hn : n ≤ 2000) : va_D (fun q => sz ≤ q) (wl (G0 D sz K cA) n σ) := by
  have e0 : ∀ (i : Nat) (q : Nat × va_E), (wl (G0 D sz K cA) n σ)[i]? = some q → i < n ∧ q.1 = adr sz K i := by
    intro i q h
    by_cases hi : i < n
    · rw [wl_get hi] at h; cases h; exact ⟨hi, rfl⟩
    · simp [wl, hi] at h
  refine ⟨fun i j x y hx hy hxy => ?_, fun k x hx => ?_⟩
  · obtain ⟨hi, ei⟩ := e0 _ _ hx
    obtain ⟨hj, ej⟩ := e0 _ _ hy
    rw [ei, ej] at hxy
    by_cases h1 : i < 88
    · have p1 := posT_lt i h1
      rw [adr_lo h1] at hxy
      by_cases h2 : j < 88
      · rw [adr_lo h2] at hxy
        exact posT_inj i h1 j h2 (by omega)
      · rw [adr_hi (by omega) (by omega)] at hxy; omega
    · rw [adr_hi (by omega) (by omega)] at hxy
      by_cases h2 : j < 88
      · have p2 := posT_lt j h2
        rw [adr_lo h2] at hxy; omega
      · rw [adr_hi (by omega) (by omega)] at hxy; omega
  · obtain ⟨hi, ei⟩ := e0 _ _ hx
    rw [ei]
    show sz ≤ adr sz K k
    by_cases h1 : k < 88
    · rw [adr_lo h1]; omega
    · rw [adr_hi (by omega) (by omega)]; omega
theorem wl_P0 {D : va_G} {sz : Nat} {K : Nat → Nat} {cA : Nat → ClassId} {H : Heap} (hP : va_P D cls13 (iwl sz (EsA (G0 D sz K cA) sz)) H) : va_P D cls13 (wl (G0 D sz K cA) 88 st0) H := by
  intro k x hx
  have hk : k < 88 := by
    by_cases hk : k < 88
    · exact hk
    · simp [wl, hk] at hx
  rw [wl_get hk] at hx
  cases hx
  show va_at D cls13 (adr sz K k, cellOf (G0 D sz K cA) st0 k) H
  rw [adr_lo hk]
  by_cases h33 : k = 33
  · subst h33
    have h1 := hP 29 (sz + 29, aG (G0 D sz K cA) (sz + 1 + 29)) (by rw [iwl_get]; rfl)
    have h1 : H[sz + 29]? = some (arrV (cA 25) 8 (fun j => va_rf (some (sz + 1 + 29 + j)))) := h1
    show H[sz + 29]? = some (arrV (cA 25) 8 (fun j => va_rf (some (adr sz K (GONE0 + j)))))
    rw [h1]
    congr 1
  · refine hP (posT.getD k 0) (sz + posT.getD k 0, cellOf (G0 D sz K cA) st0 k) ?_
    rw [iwl_get, st_cells D sz K cA k hk h33]; rfl
def w0 : Wd := (0, 0, 0, 4, 5, fun _ => 0, fun _ => 0, fun _ => 0, fun _ => 0, fun _ => 0, fun _ => 0, fun _ => 0, fun _ => 0, fun _ => 0, fun _ => [], false, 0, fun _ => 0, -1, 1)
theorem WW_0 : WW w0 := by
  refine ⟨by decide, by decide, by decide, by decide, by decide, fun l => Nat.zero_le _, fun l hl => absurd hl (Nat.not_lt_zero _), fun k hk => absurd hk (Nat.not_lt_zero _), fun l => Nat.zero_le _, fun l => Nat.zero_le _, fun l => show 0 < 1024 by decide, fun l => show 0 < 2 ^ 0 by decide, fun r => WR_nil, by decide, fun l => show 0 < 256 by decide, fun l _ => ⟨rfl, rfl⟩⟩
theorem HZ_0 : HZ w0 := fun _ _ => rfl
theorem MG_0 : MG st0 w0 := by
  refine ⟨⟨rfl, rfl, rfl, rfl, rfl, fun l _ => ⟨rfl, rfl, rfl, rfl⟩, fun k hk => absurd hk (Nat.not_lt_zero _), fun j _ => ⟨rfl, rfl, rfl⟩, fun r _ => ⟨rfl, fun i s h => ?_, fun t o h => ?_⟩, rfl, rfl, fun i hi => absurd hi (Nat.not_lt_zero _), by decide, rfl, 0, Nat.zero_le _, rfl⟩, rfl, fun _ r hr => absurd hr (Nat.not_lt_zero _)⟩
  · have h : ([] : List Stm)[i]? = some s := h
    simp at h
  · have h : ([] : List Op)[t]? = some o := h
    simp at h
theorem RC_0 : RC st0 88 w0 := by
  refine ⟨⟨⟨rfl, rfl, rfl, fun l _ => ⟨rfl, rfl, rfl⟩, fun l hl => absurd hl (Nat.not_lt_zero _), fun l _ _ => ⟨rfl, rfl⟩⟩, rfl, fun j hj => absurd hj (Nat.not_lt_zero _), fun i j hi => absurd hi (Nat.not_lt_zero _)⟩, ⟨⟨rfl, rfl⟩, rfl, fun l _ => rfl⟩, ⟨⟨rfl, fun i hi => absurd hi (Nat.not_lt_zero _)⟩, ⟨⟨by decide, by decide, by decide⟩, ⟨rfl, by decide, fun i c h => ?_⟩⟩, rfl, by decide⟩⟩
  have h : ([] : List Int)[i]? = some c := h
  simp at h
section Start
variable {s : State} {b : Nat}
theorem ExI_start (hts : ∀ w ∈ lw_tbl, w.before #[Value.ref b] s = true) : ExI s := ⟨va_AO.of (hts (.arrayOver (.object RX5)) (List.mem_of_getElem? (i := 234) (by decide +kernel))), AG.of (hts (.arrayOver (.array .int)) (List.mem_of_getElem? (i := 356) (by decide +kernel))), va_Nw.of rfl (hts nI1 (List.mem_of_getElem? (i := 136) (by decide +kernel))), va_Nw.of rfl (hts nI2 (List.mem_of_getElem? (i := 257) (by decide +kernel)))⟩
theorem K_start (hts : ∀ w ∈ lw_tbl, w.before #[Value.ref b] s = true) : ∃ (D : va_G) (cA : Nat → ClassId), ∀ (sz : Nat) (K : Nat → Nat), va_K D cls13 (tyA (G0 D sz K cA)) s := by
  have htT : ∀ w ∈ TT, w.before #[Value.ref b] s = true := fun w hw => hts w (List.mem_filter.mp hw).1
  have hi : ∀ (c : Nat) (q : vw_C), cls13[c]? = some q → (Cond.instantiable q.1 q.2.2).before #[Value.ref b] s = true := fun c q hq => match c, hq with
    | 0, hq => by cases hq; exact hts (.instantiable RX0 11) (List.mem_of_getElem? (i := 183) (by decide +kernel))
    | 1, hq => by cases hq; exact hts (.instantiable RX1 3) (List.mem_of_getElem? (i := 228) (by decide +kernel))
    | 2, hq => by cases hq; exact hts (.instantiable RX2 5) (List.mem_of_getElem? (i := 450) (by decide +kernel))
    | 3, hq => by cases hq; exact hts (.instantiable RX3 4) (List.mem_of_getElem? (i := 430) (by decide +kernel))
    | 4, hq => by cases hq; exact hts (.instantiable RX4 8) (List.mem_of_getElem? (i := 310) (by decide +kernel))
    | 5, hq => by cases hq; exact hts (.instantiable RX5 10) (List.mem_of_getElem? (i := 474) (by decide +kernel))
    | 6, hq => by cases hq; exact hts (.instantiable RX6 8) (List.mem_of_getElem? (i := 135) (by decide +kernel))
    | 7, hq => by cases hq; exact hts (.instantiable RX7 5) (List.mem_of_getElem? (i := 285) (by decide +kernel))
    | 8, hq => by cases hq; exact hts (.instantiable RX8 11) (List.mem_of_getElem? (i := 350) (by decide +kernel))
    | 9, hq => by cases hq; exact hts (.instantiable RX9 6) (List.mem_of_getElem? (i := 256) (by decide +kernel))
    | 10, hq => by cases hq; exact hts (.instantiable RX10 8) (List.mem_of_getElem? (i := 395) (by decide +kernel))
    | 11, hq => by cases hq; exact hts (.instantiable RX11 13) (List.mem_of_getElem? (i := 127) (by decide +kernel))
    | 12, hq => by cases hq; exact hts (.instantiable RX12 55) (List.mem_of_getElem? (i := 1271) (by decide +kernel))
    | c + 13, hq => by simp at hq
  have h1 : ∀ c : Nat, ∃ x : ClassId × (Nat → Nat), ∀ q : vw_C, cls13[c]? = some q → u_Kn s q.1 q.2.1 q.2.2 x.1 x.2 := fun c => by
    cases hc : cls13[c]? with
    | none => exact ⟨(0, fun _ => 0), fun q h => by cases h⟩
    | some q =>
      obtain ⟨cC, iS, h⟩ := u_known (C := q.1) (T := q.2.1) (N := q.2.2) (n := q.2.2) htT (inT c q hc) (hi c q hc)
      exact ⟨(cC, iS), fun q' h' => by cases h'; exact h⟩
  obtain ⟨x, hx⟩ := Classical.axiomOfChoice h1
  obtain ⟨c20, k20, p20, n20, g20, m20⟩ := Cond.arrayClass_spec (hts (.arrayClass .int) (List.mem_of_getElem? (i := 181) (by decide +kernel)))
  obtain ⟨c21, k21, p21, n21, g21, m21⟩ := Cond.arrayClass_spec (hts (.arrayClass .boolean) (List.mem_of_getElem? (i := 527) (by decide +kernel)))
  obtain ⟨c22, k22, p22, n22, g22, m22⟩ := Cond.arrayClass_spec (hts (.arrayClass .byte) (List.mem_of_getElem? (i := 826) (by decide +kernel)))
  obtain ⟨c23, k23, p23, n23, g23, m23⟩ := Cond.arrayClass_spec (hts (.arrayClass .long) (List.mem_of_getElem? (i := 1442) (by decide +kernel)))
  obtain ⟨p24, c24, k24, q24, -, g24, m24, n24⟩ := Cond.arrayOver_spec (hts (.arrayOver (.object RX5)) (List.mem_of_getElem? (i := 234) (by decide +kernel)))
  obtain ⟨p25, c25, k25, q25, -, g25, m25, n25⟩ := arrayOverA_spec (hts (.arrayOver (.array .int)) (List.mem_of_getElem? (i := 356) (by decide +kernel)))
  refine ⟨(fun c => (x c).1, fun c => (x c).2), fun i => if i = 20 then c20 else if i = 21 then c21 else if i = 22 then c22 else if i = 23 then c23 else if i = 24 then c24 else c25, fun sz K => ⟨fun c q hq => hx c q hq, fun k q hq => ?_⟩⟩
  match k, hq with
  | 0, hq => cases hq; exact ⟨fun n z => ⟨(fun k h => by cases h), k20, g20, p20, m20⟩, n20⟩
  | 1, hq => cases hq; exact ⟨fun n z => ⟨(fun k h => by cases h), k21, g21, p21, m21⟩, n21⟩
  | 2, hq => cases hq; exact ⟨fun n z => ⟨(fun k h => by cases h), k22, g22, p22, m22⟩, n22⟩
  | 3, hq => cases hq; exact ⟨fun n z => ⟨(fun k h => by cases h), k23, g23, p23, m23⟩, n23⟩
  | 4, hq => cases hq; exact ⟨fun n z => ⟨(fun k h => by cases h), k24, g24, p24, m24⟩, k24, p24, g24, m24, q24, n24⟩
  | 5, hq => cases hq; exact ⟨fun n z => ⟨(fun k h => by cases h), k25, g25, p25, m25⟩, n25⟩
  | k + 6, hq => simp [tyA] at hq
abbrev gvn : List Cond := flatC (Jvm.Cond.and given_1 narrow_1)
abbrev tmS (i : Nat) : Term := .string RX9 (if i = 0 then 66 else 54)
abbrev bsS : List (List Int32) := [kWords, kSigns]
set_option maxRecDepth 100000 in
theorem gv_str : ∀ j, j < 8 → (Cond.eq (.elem (.static RX5 "STRIDES" "[I") (.int (Int32.ofNat j))) (.int (kStrides.getD j 0))) ∈ gvn := by decide +kernel
set_option maxRecDepth 100000 in
theorem gv_el : ∀ i, i < 2 → ∀ j, j < [65, 12].getD i 0 → (Cond.eq (.elem (.field (tmS i) "java/lang/String" "value" "[B") (.int (Int32.ofNat j))) (.int ((bsS.getD i []).getD j 0))) ∈ gvn := by decide +kernel
set_option maxRecDepth 100000 in
theorem gv_ot : ∀ i, i < 2 → (Cond.exactly (tmS i) "java/lang/String") ∈ gvn ∧ (Cond.eq (.field (tmS i) "java/lang/String" "coder" "B") (.int 0)) ∈ gvn ∧ (Cond.arrayOf (.field (tmS i) "java/lang/String" "value" "[B") .byte) ∈ gvn ∧ (Cond.eq (.length (.field (tmS i) "java/lang/String" "value" "[B")) (.int (Int32.ofNat ([65, 12].getD i 0)))) ∈ gvn := by decide +kernel
set_option maxRecDepth 100000 in
theorem gv_ne : (Cond.not (Cond.eq (tmS 0) (tmS 1))) ∈ gvn ∨ (Cond.not (Cond.eq (tmS 1) (tmS 0))) ∈ gvn := by decide +kernel
theorem KC_start (hts : ∀ w ∈ lw_tbl, w.before #[Value.ref b] s = true) (hgv : (Jvm.Cond.and given_1 narrow_1).before #[Value.ref b] s = true) : ∃ K : Nat → Nat, ∀ (D : va_G) (cA : Nat → ClassId), KC (G0 D s.heap.size K cA) (fun q => s.heap.size ≤ q) s := by
  have hs := flat_of_before _ hgv
  have hA : ∀ a : Nat, a < s.heap.size → ¬ (fun q => s.heap.size ≤ q) a := fun a h => Nat.not_le.mpr h
  obtain ⟨t4, ht4, hT4⟩ := va_Tof (tm := .static RX5 "STRIDES" "[I") (ty := .int) (N := 8) (f := fun j => .int (kStrides.getD j 0)) (A := fun q => s.heap.size ≤ q) (by decide) (hs _ (by decide +kernel)) (va_eqt (hs _ (by decide +kernel))) (fun j hj => va_eqt (hs _ (gv_str j hj))) hA
  have z4 := va_Zref (A := fun q => s.heap.size ≤ q) (hts (.laysStatic RX5 "STRIDES" "[I") (List.mem_of_getElem? (i := 923) (by decide +kernel))) (hts (.initialized RX5) (List.mem_of_getElem? (i := 115) (by decide +kernel))) ht4 hA
  obtain ⟨adK, adV, hS, hE⟩ := vk_Sof (args := #[Value.ref b]) (s := s) (N := 2) (tm := tmS) (len := [65, 12]) (byt := bsS) (A := fun q => s.heap.size ≤ q) (fun i hi => by rcases (show i = 0 ∨ i = 1 by omega) with rfl | rfl <;> decide) (fun i hi => hs _ (gv_ot i hi).1) (fun i hi => hs _ (gv_ot i hi).2.1) (fun i hi => hs _ (gv_ot i hi).2.2.1) (fun i hi => hs _ (gv_ot i hi).2.2.2) (fun i hi j hj => hs _ (gv_el i hi j hj)) (fun i j hi hj hij => by
    rcases (show i = 0 ∧ j = 1 ∨ i = 1 ∧ j = 0 by omega) with ⟨rfl, rfl⟩ | ⟨rfl, rfl⟩
    · rcases gv_ne with z | z
      · exact Or.inl (hs _ z)
      · exact Or.inr (hs _ z)
    · rcases gv_ne with z | z
      · exact Or.inr (hs _ z)
      · exact Or.inl (hs _ z)) hA
  have zc := va_Zof (A := fun q => s.heap.size ≤ q) (hts (.laysStatic RJ0 "COMPACT_STRINGS" "Z") (List.mem_of_getElem? (i := 671) (by decide +kernel))) (hts (.initialized RJ0) (List.mem_of_getElem? (i := 118) (by decide +kernel))) (va_eqi (z := 1) (hs _ (by decide +kernel))) hA
  have zf := va_Zqof (C := RJ3) (n := "SIOOBE_FORMATTER") (d := "Ljava/util/function/BiFunction;") (A := fun q => s.heap.size ≤ q) (hts (.laysStatic RJ3 "SIOOBE_FORMATTER" "Ljava/util/function/BiFunction;") (List.mem_of_getElem? (i := 679) (by decide +kernel))) (hts (.initialized RJ3) (List.mem_of_getElem? (i := 120) (by decide +kernel))) (hs _ (by decide +kernel)) hA
  have r0 := vk_R.of (hts (.stringRef RX9 66 "add  neverif   or   and  not  has  counthoursfirstlast gaps purse") (List.mem_of_getElem? (i := 661) (by decide +kernel))) (hE 0 (by decide))
  have r1 := vk_R.of (hts (.stringRef RX9 54 ";+-*/()[]<>=") (List.mem_of_getElem? (i := 713) (by decide +kernel))) (hE 1 (by decide))
  have nw : ∀ w ∈ nestW, va_Nw w s := by
    intro w hw
    simp only [nestW, List.mem_cons, List.not_mem_nil, or_false] at hw
    rcases hw with e | e | e | e | e | e | e <;> subst e
    · exact va_Nw.of rfl (hts _ (List.mem_of_getElem? (i := 597) (by decide +kernel)))
    · exact va_Nw.of rfl (hts _ (List.mem_of_getElem? (i := 847) (by decide +kernel)))
    · exact va_Nw.of rfl (hts _ (List.mem_of_getElem? (i := 974) (by decide +kernel)))
    · exact va_Nw.of rfl (hts _ (List.mem_of_getElem? (i := 1063) (by decide +kernel)))
    · exact va_Nw.of rfl (hts _ (List.mem_of_getElem? (i := 1152) (by decide +kernel)))
    · exact va_Nw.of rfl (hts _ (List.mem_of_getElem? (i := 1230) (by decide +kernel)))
    · exact va_Nw.of rfl (hts _ (List.mem_of_getElem? (i := 1244) (by decide +kernel)))
  obtain ⟨t5, v5, hv5, zf⟩ : ∃ (t5 : Nat) (v : Value), (v = .null ∨ v = .ref 2005) ∧ va_Z RJ3 "SIOOBE_FORMATTER" "Ljava/util/function/BiFunction;" (match v with | .ref _ => .ref t5 | v => v) (fun q => s.heap.size ≤ q) s s.heap := by
    rcases zf with z | ⟨t, z⟩
    · exact ⟨0, .null, Or.inl rfl, z⟩
    · exact ⟨t, .ref 2005, Or.inr rfl, z⟩
  refine ⟨fun i => if i = 0 then adK 0 else if i = 1 then adK 1 else if i = 2 then adV 0 else if i = 3 then adV 1 else if i = 4 then t4 else t5, fun D cA => ⟨nw, z4, hT4, ⟨fun i hi => ?_, fun i j hi hj hij => ?_⟩, r0, r1, zc, v5, hv5, ?_⟩⟩
  · rcases (show i = 0 ∨ i = 1 by omega) with rfl | rfl
    · exact hS.1 0 (by decide)
    · exact hS.1 1 (by decide)
  · rcases (show i = 0 ∨ i = 1 by omega) with rfl | rfl <;> rcases (show j = 0 ∨ j = 1 by omega) with rfl | rfl
    · rfl
    · exact hS.2 0 1 (by decide) (by decide) hij
    · exact hS.2 1 0 (by decide) (by decide) hij
    · rfl
  · rcases hv5 with rfl | rfl
    · exact zf
    · exact zf
end Start
