/-! ===== one more person: cells are made ===== -/
section WRules
variable {p : Program} {l : Launch} {e : Env} {R : Room} {s : State} {m : MethodId} {args : Array Value} {below : List Frame} {meth : Method} {c : Code} {H : Heap} {locs : List Loc} {cells slots : Nat} {Q : State → Prop}
variable {G : Gx} {n : Nat} {σ : St} {A : Nat → Prop} {pc : Nat} {lsA : Array Slot} {rest : List Value} {M : MI}
theorem w_getI {q ci k index : Nat} (F : Fx p M s m args meth c) (hC : Cw G n σ A s H locs) (hd : decode M.2.1 pc = .ok (.getfield index, 3)) (hl : Fl M.1.cls index ci k) (ho : Ob n q ci) (ht : ir ci k = false) (kk : W p l e R s m args below meth c H locs cells slots Q (F0 m (pc + 3) lsA (.int (gI σ q k) :: rest))) : W p l e R s m args below meth c H locs cells slots Q (F0 m pc lsA (.ref (G.2.1 q) :: rest)) := by
  obtain ⟨r, hr, hk, hw, hc⟩ := hl
  obtain ⟨⟨N, hkd, r', hr', hN⟩, hq, h20⟩ := ho
  have e : r' = r := by rw [hr] at hr'; exact (Option.some.inj hr').symm
  subst e
  have hv : ((List.range N).map (fv G σ q ci))[k]? = some (.int (gI σ q k)) := by rw [fs_get (by omega)]; simp [fv, ht]
  exact va_get F.1 F.2.1 (Ts := TT) (C := r'.1) (T := r'.2.1) (N := r'.2.2) (ci := ci) (ref := r'.1) F.2.2.2.2.2.2 (inT ci r' hr) F.2.2.2.2.2.1 hC.1 hC.2.1 q (fs := (List.range N).map (fv G σ q ci)) (by rw [wl_get hq, cell_o hkd h20]) hr k hk (F.2.2.2.2.2.2 _ hw) (fun x h => by rw [hc] at h; exact h) hv hd kk
theorem w_getR {q ci k index y : Nat} (F : Fx p M s m args meth c) (hC : Cw G n σ A s H locs) (hd : decode M.2.1 pc = .ok (.getfield index, 3)) (hl : Fl M.1.cls index ci k) (ho : Ob n q ci) (ht : ir ci k = true) (hy : rf q k = y) (kk : W p l e R s m args below meth c H locs cells slots Q (F0 m (pc + 3) lsA (.ref (G.2.1 y) :: rest))) : W p l e R s m args below meth c H locs cells slots Q (F0 m pc lsA (.ref (G.2.1 q) :: rest)) := by
  obtain ⟨r, hr, hk, hw, hc⟩ := hl
  obtain ⟨⟨N, hkd, r', hr', hN⟩, hq, h20⟩ := ho
  have e : r' = r := by rw [hr] at hr'; exact (Option.some.inj hr').symm
  subst e
  subst hy
  have hv : ((List.range N).map (fv G σ q ci))[k]? = some (.ref (G.2.1 (rf q k))) := by rw [fs_get (by omega)]; simp [fv, ht]
  exact va_get F.1 F.2.1 (Ts := TT) (C := r'.1) (T := r'.2.1) (N := r'.2.2) (ci := ci) (ref := r'.1) F.2.2.2.2.2.2 (inT ci r' hr) F.2.2.2.2.2.1 hC.1 hC.2.1 q (fs := (List.range N).map (fv G σ q ci)) (by rw [wl_get hq, cell_o hkd h20]) hr k hk (F.2.2.2.2.2.2 _ hw) (fun x h => by rw [hc] at h; exact h) hv hd kk
theorem w_putI {q ci k index : Nat} {v : Int32} (F : Fx p M s m args meth c) (hC : Cw G n σ A s H locs) (hd : decode M.2.1 pc = .ok (.putfield index, 3)) (hl : Fl M.1.cls index ci k) (ho : Ob n q ci) (ht : ir ci k = false) (hp : Fp ci k v) (kk : ∀ H1 locs1, Cw G n (sI σ q k v) A s H1 locs1 → W p l e R s m args below meth c H1 locs1 cells slots Q (F0 m (pc + 3) lsA rest)) : W p l e R s m args below meth c H locs cells slots Q (F0 m pc lsA (.int v :: .ref (G.2.1 q) :: rest)) := by
  obtain ⟨r, hr, hk, hw, hc⟩ := hl
  obtain ⟨⟨N, hkd, r', hr', hN⟩, hq, h20⟩ := ho
  obtain ⟨r2, hr2, hfin, ty, hty, hnar, hfit⟩ := hp
  have e : r' = r := by rw [hr] at hr'; exact (Option.some.inj hr').symm
  subst e
  have e : r2 = r' := by rw [hr] at hr2; exact (Option.some.inj hr2).symm
  subst e
  obtain ⟨ty0, hty0, htok⟩ := tyC_ok ci r2 hr
  exact va_put F.1 F.2.1 (Ts := TT) (C := r2.1) (T := r2.2.1) (N := r2.2.2) (ci := ci) (ref := r2.1) F.2.2.2.2.2.2 (inT ci r2 hr) ty0 htok (nmC_ok ci r2 hr) F.2.2.2.2.2.1 hC.1 hC.2.1 hC.2.2.1 hC.2.2.2.1 q (fs := (List.range N).map (fv G σ q ci)) (by rw [wl_get hq, cell_o hkd h20]) hr k hk (F.2.2.2.2.2.2 _ hw) (fun x h => by rw [hc] at h; exact h) hfin (v := .int v) hty hnar hfit (by simp; omega) hd
    (fun H1 locs1 hP hD hS => kk H1 locs1 (hC.set (σ' := sI σ q k v) (by rw [cell_o hkd h20, set_fv ht]) sI_other hP hD hS))
theorem w_astP {i : Int32} {v : Nat} (F : Fx p M s m args meth c) (hC : Cw G n σ A s H locs) (hd : decode M.2.1 pc = .ok (.aastore, 1)) (hn : FIX ≤ n) (hin : vp_in i 8) (hv : IsP n v) (kk : ∀ H1 locs1, Cw G n (sR σ i.toNatClampNeg (some v)) A s H1 locs1 → W p l e R s m args below meth c H1 locs1 cells slots Q (F0 m (pc + 1) lsA rest)) : W p l e R s m args below meth c H locs cells slots Q (F0 m pc lsA (.ref (G.2.1 v) :: .int i :: .ref (G.2.1 18) :: rest)) := by
  have ha : Ar n 18 24 8 := Ar.fx hn ⟨rfl, by decide⟩
  obtain ⟨⟨N, hkd, r', hr', hN⟩, hq, h20⟩ := Ob.p hv
  exact va_astq F.1 F.2.1 hC.1 hC.2.1 hC.2.2.1 hC.2.2.2.1 18 4 v 5 (r := (RX5, TX5, 10)) (by rw [wl_get ha.2, cell_r ha.1]) rfl (vs := (List.range N).map (fv G σ v 5)) (by rw [wl_get hq, cell_o hkd h20]) rfl hin hd
    (fun H1 locs1 hP hD hS => kk H1 locs1 (hC.set (σ' := sR σ i.toNatClampNeg (some v)) cell_sR (fun j h => cell_congr rfl rfl (fun z => absurd (kd24 z) h)) hP hD hS))
theorem Ca.of {sz : Nat} {rm : Room} {as : List Value} {P : Int32 → Heap → Prop} (hy : plainName M.1.cls = true) (hn : (entL as).length ≤ M.2.2.1)
    (h : ∀ (p : Program) (e : Env) (s : State) (m : MethodId) (args : Array Value) (below : List Frame) (meth : Method) (c : Code) (lsA : Array Slot), Fx p M s m args meth c → ExI s → Cw G n σ A s s.heap [] → s.heap.size = sz → lv_has lsA M.2.2.1 (lv_args 0 (as.map (conc G))) → W p l e rm s m args below meth c s.heap [] 0 0 (MQ below (QcA A P) args s rm.cells rm.slots A) (F0 m 0 lsA [])) : Ca l G A n sz M rm as σ P := by
  refine Met.ofW (cc := M.2.1) (maxL := M.2.2.1) (ret := M.2.2.2) hy rfl ?_
  intro p e s mm args below meth c s₁ B hml hv
  obtain ⟨⟨rfl, hK, hP, hD, hA, hKC⟩, hex, hz⟩ := hv
  have hts := atoms_spec (ws := wsM M) B.pre
  have hl := lv_entry (as.map (conc G)) (n := M.2.2.1) (by rw [entL_len]; exact hn)
  rw [lg_entry_eq]
  generalize (lg_sl (as.map (conc G)) ++ List.replicate (M.2.2.1 - (lg_sl (as.map (conc G))).length) Slot.unset).toArray = lsA at hl ⊢
  exact h p e s mm _ below meth c lsA ⟨B.exec, B.bytes, hml, B.returns, B.notSynchronized, findClass_of_methodNamed B.named, fun w hw => hts w (List.mem_cons_of_mem _ hw)⟩ hex ⟨hK, hP, hD, va_S.rf, hA, hKC⟩ hz hl
theorem w_retA {P : Int32 → Heap → Prop} {v : Int32} (F : Fx p M s m args meth c) (hr : M.2.2.2 = some .int) (hS : va_S A s.heap H locs) (h : P v H) (hd : decode M.2.1 pc = .ok (.ireturn, 1)) : W p l e R s m args below meth c H locs cells slots (MQ below (QcA A P) args s cells slots A) (F0 m pc lsA [.int v]) := by
  have hlk := F.2.2.2.2.1
  exact W.iret F.1 F.2.1 (F.2.2.2.1.trans hr) (fun t ht hW => ⟨⟨v, v, rfl, rfl, by show P v t.heap; rw [ht]; exact h⟩, hS.F ht⟩) hS.2.2 hd hlk
end WRules
/-- the cells of a new person, behind the n that are there -/
def sP (σ : St) (n : Nat) (a1 a2 : Int32) : St := (fun q k => if q < n then σ.1 q k else if q = n ∧ k = 0 then a1 else if q = n ∧ k = 1 then a2 else 0, σ.2.1, σ.2.2)
def sN (σ : St) (n P : Nat) (a1 a2 : Int32) : St := sI (sR (sP σ n a1 a2) P (some n)) 3 2 (nI (P + 1))
theorem gI_sP_lt {σ : St} {n q k : Nat} {a1 a2 : Int32} (h : q < n) : gI (sP σ n a1 a2) q k = gI σ q k := by
  show (if q < n then _ else _) = _
  rw [if_pos h]; rfl
theorem gI_sP_ge {σ : St} {n q k : Nat} {a1 a2 : Int32} (h : n ≤ q) : gI (sP σ n a1 a2) q k = if q = n ∧ k = 0 then a1 else if q = n ∧ k = 1 then a2 else 0 := by
  show (if q < n then _ else _) = _
  rw [if_neg (by omega)]
theorem wl_push {G : Gx} {n sz : Nat} {σ : St} {a1 a2 : Int32} (hn : FIX ≤ n) (h5 : (n - P0) % 5 = 0) (hg : ∀ c, c < 5 → G.2.1 (n + c) = sz + c) : wl G (n + 5) (sP σ n a1 a2) = wl G n σ ++ iwl sz [.inr (5, [.int a1, .int a2, .int 0, .ref (sz + 1 + 0), .int 0, .int 0, .ref (sz + 1 + 1), .ref (sz + 1 + 2), .int 0, .ref (sz + 1 + 3)]), aI G 400, aI G 1024, aB G 1024, aI G 1024] := by
  have hP : P0 ≤ n := by simp only [FIX, P0] at *; omega
  have h88 : 83 ≤ n := hP
  have k0 : kd (n + 0) = (5, 10) := kd_per (c := 0) hP h5 (by decide)
  have k1 : kd (n + 1) = (20, 400) := kd_per (c := 1) hP h5 (by decide)
  have k2 : kd (n + 2) = (20, 1024) := kd_per (c := 2) hP h5 (by decide)
  have k3 : kd (n + 3) = (21, 1024) := kd_per (c := 3) hP h5 (by decide)
  have k4 : kd (n + 4) = (20, 1024) := kd_per (c := 4) hP h5 (by decide)
  have z : ∀ c, 0 < c → gI (sP σ n a1 a2) (n + c) = fun _ => 0 := fun c hc => by
    funext k
    rw [gI_sP_ge (by omega), if_neg (by omega), if_neg (by omega)]
  have r3 : rf n 3 = n + 1 := by unfold rf; rw [if_neg (by omega)]; rfl
  have r6 : rf n 6 = n + 2 := by unfold rf; rw [if_neg (by omega)]; rfl
  have r7 : rf n 7 = n + 3 := by unfold rf; rw [if_neg (by omega)]; rfl
  have r9 : rf n 9 = n + 4 := by unfold rf; rw [if_neg (by omega)]; rfl
  have g0 : ∀ k, gI (sP σ n a1 a2) n k = if k = 0 then a1 else if k = 1 then a2 else 0 := fun k => by
    rw [gI_sP_ge (Nat.le_refl _)]; simp
  have e0 : cellOf G (sP σ n a1 a2) (n + 0) = .inr (5, [.int a1, .int a2, .int 0, .ref (sz + 1 + 0), .int 0, .int 0, .ref (sz + 1 + 1), .ref (sz + 1 + 2), .int 0, .ref (sz + 1 + 3)]) := by
    rw [cell_o k0 (by decide)]
    have f3 : G.2.1 (rf n 3) = sz + 1 + 0 := by rw [r3]; exact hg 1 (by decide)
    have f6 : G.2.1 (rf n 6) = sz + 1 + 1 := by rw [r6]; exact hg 2 (by decide)
    have f7 : G.2.1 (rf n 7) = sz + 1 + 2 := by rw [r7]; exact hg 3 (by decide)
    have f9 : G.2.1 (rf n 9) = sz + 1 + 3 := by rw [r9]; exact hg 4 (by decide)
    show Sum.inr (5, [fv G (sP σ n a1 a2) n 5 0, fv G (sP σ n a1 a2) n 5 1, fv G (sP σ n a1 a2) n 5 2, fv G (sP σ n a1 a2) n 5 3, fv G (sP σ n a1 a2) n 5 4, fv G (sP σ n a1 a2) n 5 5, fv G (sP σ n a1 a2) n 5 6, fv G (sP σ n a1 a2) n 5 7, fv G (sP σ n a1 a2) n 5 8, fv G (sP σ n a1 a2) n 5 9]) = _
    have vI : ∀ k, ir 5 k = false → fv G (sP σ n a1 a2) n 5 k = .int (if k = 0 then a1 else if k = 1 then a2 else 0) := fun k hk => by
      unfold fv; rw [if_neg (by rw [hk]; decide), g0]
    have vR : ∀ k, ir 5 k = true → fv G (sP σ n a1 a2) n 5 k = .ref (G.2.1 (rf n k)) := fun k hk => by
      unfold fv; rw [if_pos hk]
    rw [vI 0 rfl, vI 1 rfl, vI 2 rfl, vR 3 rfl, vI 4 rfl, vI 5 rfl, vR 6 rfl, vR 7 rfl, vI 8 rfl, vR 9 rfl, f3, f6, f7, f9]
    rfl
  have e1 : cellOf G (sP σ n a1 a2) (n + 1) = aI G 400 := by rw [cell_i k1, z 1 (by decide)]
  have e2 : cellOf G (sP σ n a1 a2) (n + 2) = aI G 1024 := by rw [cell_i k2, z 2 (by decide)]
  have e3 : cellOf G (sP σ n a1 a2) (n + 3) = aB G 1024 := by rw [cell_z k3, z 3 (by decide)]
  have e4 : cellOf G (sP σ n a1 a2) (n + 4) = aI G 1024 := by rw [cell_i k4, z 4 (by decide)]
  unfold wl
  rw [List.range_add, List.map_append]
  congr 1
  · refine List.map_congr_left (fun q hq => ?_)
    have hq : q < n := List.mem_range.mp hq
    rw [cell_congr (σ := σ) (σ' := sP σ n a1 a2) (funext fun k => gI_sP_lt hq) rfl (fun _ => rfl)]
  · show [(G.2.1 (n + 0), cellOf G (sP σ n a1 a2) (n + 0)), (G.2.1 (n + 1), cellOf G (sP σ n a1 a2) (n + 1)), (G.2.1 (n + 2), cellOf G (sP σ n a1 a2) (n + 2)), (G.2.1 (n + 3), cellOf G (sP σ n a1 a2) (n + 3)), (G.2.1 (n + 4), cellOf G (sP σ n a1 a2) (n + 4))] = _
    rw [e0, e1, e2, e3, e4, hg 0 (by decide), hg 1 (by decide), hg 2 (by decide), hg 3 (by decide), hg 4 (by decide)]
    rfl
abbrev M_X1_add : MI := (yX1_add, cX1_add, 3, some .int)
abbrev M_X11_person : MI := (yX11_person, cX11_person, 3, some .int)
theorem mk_X1_add : Mv M_X1_add 2 := ⟨⟨TT_mem 617 (by decide +kernel), TT_mem 107 (by decide +kernel), by decide +kernel, by decide⟩, TT_mem 615 (by decide +kernel), TT_mem 616 (by decide +kernel)⟩
theorem mk_X11_person : Mv M_X11_person 2 := ⟨⟨TT_mem 607 (by decide +kernel), TT_mem 104 (by decide +kernel), by decide +kernel, by decide⟩, TT_mem 605 (by decide +kernel), TT_mem 606 (by decide +kernel)⟩
theorem ml_X11_134 : (.methodLink RX11 134 yX1_add : Cond) ∈ TT := TT_mem 614 (by decide +kernel)
theorem wc_X1_19 : (.classLink RX1 9 RX5 : Cond) ∈ TT := TT_mem 233 (by decide +kernel)
theorem wq_X1_25 : (.methodLink RX1 25 yX5_init : Cond) ∈ TT := TT_mem 618 (by decide +kernel)
theorem fpI_1_2 (v : Int32) : Fp 1 2 v := ⟨(RX1, TX1, 3), rfl, rfl, .int, by decide +kernel, rfl, rfl⟩
abbrev rA_add : Room := { frames := 2, cells := 5, slots := 3482, locals := 60 }
abbrev rA_person : Room := { frames := 40, cells := 5, slots := 3482, locals := 2000 }
set_option maxRecDepth 100000 in
set_option maxHeartbeats 2000000 in
theorem add_A {l : Launch} {G : Gx} {A : Nat → Prop} {n sz P : Nat} {σ : St} {a1 a2 : Int32} (hn : FIX ≤ n) (h5 : (n - P0) % 5 = 0) (hP8 : P < 8) (h3 : gI σ 3 2 = nI P) (hg : ∀ c, c < 5 → G.2.1 (n + c) = sz + c) : Ca l G A n sz M_X1_add rA_add [.ref 3, .int a1, .int a2] σ (fun v H1 => v = nI P ∧ va_P G.1 cls13 (wl G (n + 5) (sN σ n P a1 a2)) H1) := by
  have hn3 : 83 ≤ n := by simp only [FIX] at hn; omega
  refine Ca.of (by decide) (Nat.le_of_ble_eq_true rfl) (fun p e s m args below meth c lsA F ex hC hz hl => ?_)
  have hl : lv_has lsA 3 [(0, .ref (G.2.1 3)), (1, .int a1), (2, .int a2)] := hl
  refine lv_aload_n F.1 F.2.1 dX1_add_0 rfl (lv_at hl 0 rfl) ?_
  refine w_getI F hC dX1_add_1 fl_X1_21 (ob_3 hn) rfl ?_
  refine lv_bipush (v := 8) F.1 F.2.1 dX1_add_4 (by decide) ?_
  refine lv_icmp_lt (tgt := 11) F.1 F.2.1 dX1_add_6 (by decide) (fun c1 => ?_) (fun c1 => absurd (show gI σ 3 2 < 8 by rw [h3]; exact nI_lt (b := 8) hP8 (by decide)) c1)
  refine lv_aload_n F.1 F.2.1 dX1_add_11 rfl (lv_at hl 0 rfl) ?_
  refine w_getR (y := 18) F hC dX1_add_12 fl_X1_11 (ob_3 hn) rfl rfl ?_
  refine lv_aload_n F.1 F.2.1 dX1_add_15 rfl (lv_at hl 0 rfl) ?_
  refine w_getI F hC dX1_add_16 fl_X1_21 (ob_3 hn) rfl ?_
  have w : Wi G.1 (tyA G) (wl G n σ) sz [] A s s.heap [] := ⟨hC.1, by rw [show iwl sz [] = [] from rfl, List.append_nil]; exact hC.2.1, by rw [show iwl sz [] = [] from rfl, List.append_nil]; exact hC.2.2.1, hC.2.2.2.1, fun q hq => hC.2.2.2.2.1 q (by rw [hz]; exact hq), hz⟩
  have hb : ∀ q ∈ wl G n σ, q.1 < sz := fun q hq => by
    obtain ⟨k, hk⟩ := List.getElem?_of_mem hq
    have := (hC.2.1 k q hk).lt
    rw [hz] at this; exact this
  refine i_newc F inT_5 tyX5 tyX5_ok wc_X1_19 wn_X5 wz_X5 w (ci := 5) rfl (fs := [.int 0, .int 0, .int 0, .null, .int 0, .int 0, .null, .null, .int 0, .null]) df_X5 rfl (Nat.le_of_ble_eq_true rfl) (Nat.le_of_ble_eq_true rfl) dX1_add_19 (fun H w => ?_)
  have w : Wi G.1 (tyA G) (wl G n σ) sz [.inr (5, [.int 0, .int 0, .int 0, .null, .int 0, .int 0, .null, .null, .int 0, .null])] A s H [] := w
  refine lv_dup F.1 F.2.1 dX1_add_22 rfl ?_
  refine lv_iload_n F.1 F.2.1 dX1_add_23 rfl (lv_at hl 1 rfl) ?_
  refine lv_iload_n F.1 F.2.1 dX1_add_24 rfl (lv_at hl 2 rfl) ?_
  refine i_call (index := 0) (k := 0) (Es := []) (rest := [.ref (sz + 0), .int (gI σ 3 2), .ref (G.2.1 18)]) (as := [.int a1, .int a2]) F ex hl.1 (ic_X5 l G _ _ a1 a2) wm_X5 rfl (fun hS hp => va_runI (As := [.int a1, .int a2]) hS (ic_X5 l G _ _ a1 a2) (cwI 2 hS.2.2.2.2 (GoodIn_M wm_X5) rfl rfl rfl (hS.2.2.2.2 _ wz_X5) (hS.2.2.2.2 _ wq_X1_25) (hS.2.2.2.2 _ wi_X5) rfl (by decide +kernel) ⟨Nat.le_of_ble_eq_true rfl, Nat.le_of_ble_eq_true rfl⟩) hp rfl rfl hl.1 rfl (lv_room (Nat.le_of_ble_eq_true rfl)) dX1_add_25 ⟨Nat.le_of_ble_eq_true rfl, Nat.le_of_ble_eq_true rfl⟩) w hb rfl (fun H locs w => ?_)
  have w : Wi G.1 (tyA G) (wl G n σ) sz [.inr (5, [.int a1, .int a2, .int 0, .ref (sz + 1 + 0), .int 0, .int 0, .ref (sz + 1 + 1), .ref (sz + 1 + 2), .int 0, .ref (sz + 1 + 3)]), aI G 400, aI G 1024, aB G 1024, aI G 1024] A s H locs := w
  obtain ⟨w1, w2, w3, w4, -, -⟩ := w
  rw [← wl_push hn h5 hg] at w2 w3
  have hC1 : Cw G (n + 5) (sP σ n a1 a2) A s H locs := ⟨w1, w2, w3, w4, hC.2.2.2.2⟩
  have e0 : sz + 0 = G.2.1 n := (hg 0 (by decide)).symm
  rw [e0]
  have hin : vp_in (gI σ 3 2) 8 := by rw [h3]; exact vp_in_nI hP8 (by decide)
  have hn5 : FIX ≤ n + 5 := by omega
  refine w_astP (i := gI σ 3 2) (v := n) F hC1 dX1_add_28 hn5 hin ⟨by simp only [FIX, P0] at *; omega, h5, Nat.le_refl _⟩ (fun H locs hC2 => ?_)
  rw [h3, nI_clamp (by omega)] at hC2
  have q3 : gI (sR (sP σ n a1 a2) P (some n)) 3 2 = nI P := by
    show gI (sP σ n a1 a2) 3 2 = nI P
    rw [gI_sP_lt (by omega)]; exact h3
  refine lv_aload_n F.1 F.2.1 dX1_add_29 rfl (lv_at hl 0 rfl) ?_
  refine lv_dup F.1 F.2.1 dX1_add_30 rfl ?_
  refine w_getI F hC2 dX1_add_31 fl_X1_21 (ob_3 hn5) rfl ?_
  refine lv_iconst (v := 1) F.1 F.2.1 dX1_add_34 (by decide) ?_
  refine lv_iadd F.1 F.2.1 dX1_add_35 ?_
  rw [q3, show nI P + 1 = nI (P + 1) from (nI_succ P).symm]
  refine w_putI F hC2 dX1_add_36 fl_X1_21 (ob_3 hn5) rfl (fpI_1_2 _) (fun H locs hC3 => ?_)
  refine lv_aload_n F.1 F.2.1 dX1_add_39 rfl (lv_at hl 0 rfl) ?_
  refine w_getI F hC3 dX1_add_40 fl_X1_21 (ob_3 hn5) rfl ?_
  refine lv_iconst (v := 1) F.1 F.2.1 dX1_add_43 (by decide) ?_
  refine lv_isub F.1 F.2.1 dX1_add_44 ?_
  rw [gI_sI_same, show nI (P + 1) - 1 = nI P from by rw [nI_succ]; simp]
  exact w_retA F rfl hC3.2.2.2.1 ⟨rfl, hC3.2.1⟩ dX1_add_45
set_option maxRecDepth 100000 in
set_option maxHeartbeats 2000000 in
theorem person_A {l : Launch} {G : Gx} {A : Nat → Prop} {n sz P : Nat} {σ : St} {a1 a2 : Int32} (hn : FIX ≤ n) (h5 : (n - P0) % 5 = 0) (hP8 : P < 8) (h3 : gI σ 3 2 = nI P) (hg : ∀ c, c < 5 → G.2.1 (n + c) = sz + c) (h1 : fn_X11_isPurse a1 ≠ 0) (h2 : fn_X11_isBundle a2 ≠ 0) : Ca l G A n sz M_X11_person rA_person [.ref 0, .int a1, .int a2] σ (fun v H1 => v = nI P ∧ va_P G.1 cls13 (wl G (n + 5) (sN σ n P a1 a2)) H1) := by
  refine Ca.of (by decide) (Nat.le_of_ble_eq_true rfl) (fun p e s m args below meth c lsA F ex hC hz hl => ?_)
  have hl : lv_has lsA 3 [(0, .ref (G.2.1 0)), (1, .int a1), (2, .int a2)] := hl
  refine lv_iload_n F.1 F.2.1 dX11_person_0 rfl (lv_at hl 1 rfl) ?_
  refine w_callS (d := 1) (M' := M_X11_isPurse) (as := [.int a1]) (rest := []) F hC hl.1 dX11_person_1 ml_X11_128 mk_X11_isPurse rfl (Nat.le_of_ble_eq_true rfl) ⟨Nat.le_of_ble_eq_true rfl, Nat.le_of_ble_eq_true rfl⟩ ⟨Nat.zero_le _, Nat.zero_le _⟩ sp_X11_isPurse (fun v σ1 H1 locs1 hq hf hC => ?_)
  obtain ⟨v, rfl, rfl, rfl⟩ := hq
  refine lv_if_eq (tgt := 14) F.1 F.2.1 dX11_person_4 (by decide) (fun c1 => absurd c1 h1) (fun c1 => ?_)
  refine lv_iload_n F.1 F.2.1 dX11_person_7 rfl (lv_at hl 2 rfl) ?_
  refine w_callS (d := 1) (M' := M_X11_isBundle) (as := [.int a2]) (rest := []) F hC hl.1 dX11_person_8 ml_X11_131 mk_X11_isBundle rfl (Nat.le_of_ble_eq_true rfl) ⟨Nat.le_of_ble_eq_true rfl, Nat.le_of_ble_eq_true rfl⟩ ⟨Nat.zero_le _, Nat.zero_le _⟩ sp_X11_isBundle (fun v σ2 H2 locs2 hq hf hC => ?_)
  obtain ⟨v, rfl, rfl, rfl⟩ := hq
  refine lv_if_ne (tgt := 16) F.1 F.2.1 dX11_person_11 (by decide) (fun c1 => ?_) (fun c1 => absurd c1 h2)
  refine lv_aload_n F.1 F.2.1 dX11_person_16 rfl (lv_at hl 0 rfl) ?_
  refine w_getR (y := 3) F hC dX11_person_17 fl_X11_30 (ob_0 hn) rfl rfl ?_
  refine lv_iload_n F.1 F.2.1 dX11_person_20 rfl (lv_at hl 1 rfl) ?_
  refine lv_iload_n F.1 F.2.1 dX11_person_21 rfl (lv_at hl 2 rfl) ?_
  refine W_sz (fun hup => ?_)
  have hz2 : H2.size = sz := by have := hC.2.2.2.1.1; omega
  refine w_callA (rm := rA_add) (M' := M_X1_add) (as := [.int a1, .int a2]) (rest := []) (q := 3) F ex hC hl.1 dX11_person_22 ml_X11_134 mk_X1_add (ob_3 hn) rfl rfl rfl (Nat.le_of_ble_eq_true rfl) ⟨Nat.le_of_ble_eq_true rfl, Nat.le_of_ble_eq_true rfl⟩ ⟨Nat.le_of_ble_eq_true rfl, Nat.le_of_ble_eq_true rfl⟩ (by rw [hz2]; exact add_A hn h5 hP8 h3 hg) (fun v H1 locs1 hP hS => ?_)
  exact w_retA F rfl hS hP dX11_person_25
/-- a person who isn't taken -/
theorem person_no {d n : Nat} {σ : St} {a1 a2 : Int32} (hn : FIX ≤ n) (hd : 2 ≤ d) (h : fn_X11_isPurse a1 ≠ 0 → fn_X11_isBundle a2 ≠ 0 → ¬ gI σ 3 2 < 8) : Cn d n M_X11_person ([], [], [], []) [.ref 0, .int a1, .int a2] σ (liI (fun v σ' => v = -1 ∧ σ' = σ)) := by
  have hadd : ¬ gI σ 3 2 < 8 → Cn (d - 1) n M_X1_add ([], [], [], []) [.ref 3, .int a1, .int a2] σ (liI (fun v σ' => v = -1 ∧ σ = σ')) := fun h8 => by
    refine Cn.of (k0 := 0) (by decide) rfl ?_
    show Ev (d - 1, n, ([], [], [], []), σ, liI _) M_X1_add 0 [some (.ref 3), some (.int a1), some (.int a2)] [] σ
    refine e_aload_n dX1_add_0 rfl rfl ?_
    refine e_getI dX1_add_1 fl_X1_21 (ob_3 hn) rfl ?_
    refine e_bipush (v := 8) dX1_add_4 (by decide) ?_
    refine e_icmp_lt (tgt := 11) dX1_add_6 (by decide) (fun c1 => absurd c1 h8) (fun c1 => ?_)
    refine e_iconst dX1_add_9 ci_m1 ?_
    exact e_iret dX1_add_10 rfl ⟨_, rfl, rfl, rfl⟩
  refine Cn.of (k0 := 0) (by decide) rfl ?_
  show Ev (d, n, ([], [], [], []), σ, liI _) M_X11_person 0 [some (.ref 0), some (.int a1), some (.int a2)] [] σ
  refine e_iload_n dX11_person_0 rfl rfl ?_
  refine e_callS (M' := M_X11_isPurse) (as := [.int a1]) (rest := []) dX11_person_1 ml_X11_128 mk_X11_isPurse rfl (Nat.le_of_ble_eq_true rfl) (show 0 < d by omega) (sp_X11_isPurse) Md_nil (fun v σv hq hf => ?_)
  obtain ⟨v, rfl, rfl, rfl⟩ := hq
  refine e_if_eq (tgt := 14) dX11_person_4 (by decide) (fun c1 => ?_) (fun c1 => ?_)
  · refine e_iconst dX11_person_14 ci_m1 ?_
    exact e_iret dX11_person_15 rfl ⟨_, rfl, rfl, rfl⟩
  · refine e_iload_n dX11_person_7 rfl rfl ?_
    refine e_callS (M' := M_X11_isBundle) (as := [.int a2]) (rest := []) dX11_person_8 ml_X11_131 mk_X11_isBundle rfl (Nat.le_of_ble_eq_true rfl) (show 0 < d by omega) (sp_X11_isBundle) Md_nil (fun v σv hq hf => ?_)
    obtain ⟨v, rfl, rfl, rfl⟩ := hq
    refine e_if_ne (tgt := 16) dX11_person_11 (by decide) (fun c2 => ?_) (fun c2 => ?_)
    · refine e_aload_n dX11_person_16 rfl rfl ?_
      refine e_getR (y := 3) dX11_person_17 fl_X11_30 (ob_0 hn) rfl rfl ?_
      refine e_iload_n dX11_person_20 rfl rfl ?_
      refine e_iload_n dX11_person_21 rfl rfl ?_
      refine e_callV (M' := M_X1_add) (as := [.int a1, .int a2]) (rest := []) dX11_person_22 ml_X11_134 mk_X1_add (ob_3 hn) rfl rfl rfl (Nat.le_of_ble_eq_true rfl) (show 0 < d by omega) (hadd (h c1 c2)) Md_nil (fun v σv hq hf => ?_)
      obtain ⟨v, rfl, rfl, rfl⟩ := hq
      exact e_iret dX11_person_25 rfl ⟨_, rfl, rfl, rfl⟩
    · refine e_iconst dX11_person_14 ci_m1 ?_
      exact e_iret dX11_person_15 rfl ⟨_, rfl, rfl, rfl⟩
