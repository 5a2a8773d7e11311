/-! ===== the model: what is told to it ===== -/
def WH (w : Wd) : Prop := ∀ j, w.P ≤ j → w.hd j = 0
theorem RM.ver {σ : St} {w : Wd} (h : RM σ w) : gI σ 11 20 = nI w.ver := h.2.2.2.2.2.2.2.2.2.2.2.2.2.1
theorem RM.tv {σ : St} {w : Wd} (h : RM σ w) : ∃ v, v ≤ w.ver ∧ gI σ 11 37 = nI v := h.2.2.2.2.2.2.2.2.2.2.2.2.2.2
theorem MG.next {σ : St} {w : Wd} (h : RM σ w) (h38 : gI σ 11 38 = -1) (hv : w.ver < 2 ^ 30) (ht : ∃ v, v < w.ver ∧ gI σ 11 37 = nI v) : MG σ w := by
  refine ⟨h, h38, fun e => ?_⟩
  obtain ⟨v, h1, h2⟩ := ht
  rw [h2, h.ver] at e
  have := (nI_eq (by omega) (by omega)).mp e
  omega
/-! places -/
def setPl (w : Wd) (l x : Nat) : Wd := (w.N, w.P, w.A, w.mo, w.sp, puh w.pl l x, w.fr, w.to, w.a1, w.a2, w.pr, w.pu, w.dn, w.hd, w.ws, w.lie, w.T, w.tp, w.fa, w.ver)
def setSp (w : Wd) (x : Nat) : Wd := (w.N, w.P, w.A, w.mo, x, w.pl, w.fr, w.to, w.a1, w.a2, w.pr, w.pu, w.dn, w.hd, w.ws, w.lie, w.T, w.tp, w.fa, w.ver)
def setHd (w : Wd) (p x : Nat) : Wd := (w.N, w.P, w.A, w.mo, w.sp, w.pl, w.fr, w.to, w.a1, w.a2, w.pr, w.pu, w.dn, puh w.hd p x, w.ws, w.lie, w.T, w.tp, w.fa, w.ver)
def setMo (w : Wd) (x : Nat) : Wd := (w.N, w.P, w.A, x, w.sp, w.pl, w.fr, w.to, w.a1, w.a2, w.pr, w.pu, w.dn, w.hd, w.ws, w.lie, w.T, w.tp, w.fa, w.ver + 1)
def setPu (w : Wd) (p x : Nat) : Wd := (w.N, w.P, w.A, w.mo, w.sp, w.pl, w.fr, w.to, w.a1, w.a2, w.pr, puh w.pu p x, w.dn, w.hd, w.ws, w.lie, w.T, w.tp, w.fa, w.ver + 1)
def addLs (w : Wd) (x y z : Nat) : Wd := (w.N + 1, w.P, w.A, w.mo, w.sp, puh w.pl w.N x, puh w.fr w.N y, puh w.to w.N z, w.a1, w.a2, w.pr, w.pu, w.dn, w.hd, w.ws, w.lie, w.T, w.tp, w.fa, w.ver + 1)
def addAf (w : Wd) (x y : Nat) : Wd := (w.N, w.P, w.A + 1, w.mo, w.sp, w.pl, w.fr, w.to, puh w.a1 w.A x, puh w.a2 w.A y, w.pr, w.pu, w.dn, w.hd, w.ws, w.lie, w.T, w.tp, w.fa, w.ver + 1)
def addPe (w : Wd) (x y : Nat) : Wd := (w.N, w.P + 1, w.A, w.mo, w.sp, w.pl, w.fr, w.to, w.a1, w.a2, w.pr, puh w.pu w.P x, puh w.dn w.P y, w.hd, fun r => if r = w.P then [] else w.ws r, w.lie, w.T, w.tp, w.fa, w.ver + 1)
def placesW (w : Wd) (a1 a2 : Int32) : Wd := if inP a1 w.N ∧ inP a2 10 then setPl w (tn a1) (tn a2) else w
def placesV (w : Wd) (a1 a2 : Int32) : Int32 := if inP a1 w.N ∧ inP a2 10 then 1 else 0
def priceW (w : Wd) (a1 a2 : Int32) : Wd := if inP a1 w.N ∧ inP a2 251 then setPr w (puh w.pr (tn a1) (tn a2)) else w
def priceV (w : Wd) (a1 a2 : Int32) : Int32 := if inP a1 w.N ∧ inP a2 251 then 1 else 0
def stepW (w : Wd) (a : Int32) : Wd := if 1 ≤ a.toInt ∧ a.toInt ≤ 50 then setSp w (tn a) else w
def stepV (a : Int32) : Int32 := if 1 ≤ a.toInt ∧ a.toInt ≤ 50 then 1 else 0
def giveW (w : Wd) (a1 a2 : Int32) : Wd := if inP a1 w.P ∧ inP a2 (2 ^ w.N) then setHd w (tn a1) (tn a2) else w
def giveV (w : Wd) (a1 a2 : Int32) : Int32 := if inP a1 w.P ∧ inP a2 (2 ^ w.N) then 1 else 0
def mostW (w : Wd) (a : Int32) : Wd := if 1 ≤ a.toInt ∧ a.toInt ≤ 6 then setMo w (tn a) else w
def mostV (a : Int32) : Int32 := if 1 ≤ a.toInt ∧ a.toInt ≤ 6 then 1 else 0
def purseW (w : Wd) (a1 a2 : Int32) : Wd := if inP a1 w.P ∧ inP a2 201 then setPu w (tn a1) (tn a2) else w
def purseV (w : Wd) (a1 a2 : Int32) : Int32 := if inP a1 w.P ∧ inP a2 201 then 1 else 0
abbrev lessonG (w : Wd) (a1 a2 a3 : Int32) : Prop := inP a1 10 ∧ inP a2 40 ∧ (a2.toInt < a3.toInt ∧ a3.toInt ≤ 40) ∧ w.N < 10
def lessonW (w : Wd) (a1 a2 a3 : Int32) : Wd := if lessonG w a1 a2 a3 then addLs w (tn a1) (tn a2) (tn a3) else w
def lessonV (w : Wd) (a1 a2 a3 : Int32) : Int32 := if lessonG w a1 a2 a3 then nI w.N else -1
abbrev afterG (w : Wd) (a1 a2 : Int32) : Prop := (inP a1 w.N ∧ inP a2 w.N ∧ a1 ≠ a2 ∧ w.A < 20) ∧ ∀ k, k < w.A → ¬ (w.a1 k = tn a1 ∧ w.a2 k = tn a2)
def afterW (w : Wd) (a1 a2 : Int32) : Wd := if afterG w a1 a2 then addAf w (tn a1) (tn a2) else w
def afterV (w : Wd) (a1 a2 : Int32) : Int32 := if afterG w a1 a2 then nI (w.A + 1) else -1
abbrev personG (w : Wd) (a1 a2 : Int32) : Prop := inP a1 201 ∧ inP a2 1024 ∧ w.P < 8
def personW (w : Wd) (a1 a2 : Int32) : Wd := if personG w a1 a2 then addPe w (tn a1) (tn a2) else w
def personV (w : Wd) (a1 a2 : Int32) : Int32 := if personG w a1 a2 then nI w.P else -1
theorem nI_tn {a : Int32} (h : 0 ≤ a.toInt) : nI (tn a) = a := by
  have := Int32.toInt_lt a
  rw [eq_ti, nI_toInt (by unfold tn; omega)]; unfold tn; omega
theorem inP_tn {a : Int32} {K : Nat} (h : inP a K) : tn a < K ∧ nI (tn a) = a := ⟨by have := h.1; have := h.2; unfold tn; omega, nI_tn h.1⟩
theorem places_M {d n : Nat} {σ : St} {w : Wd} {a1 a2 : Int32} (hn : FIX ≤ n) (hd : 2 ≤ d) (hM : MG σ w) (hw : WW w) : Cn d n M_X12_places md_X12_places [.ref 11, .int a1, .int a2] σ (liI (fun v σ' => v = placesV w a1 a2 ∧ MG σ' (placesW w a1 a2))) := by
  have hN := hw.N
  unfold placesV placesW
  refine S_X12_places hn (by omega) ⟨fun h => ?_, fun h => ⟨fun h2 => ?_, fun h2 => ?_⟩⟩
  · rw [if_neg (fun z => ze.mp h ((less_in hM.1 hw).mpr z.1)), if_neg (fun z => ze.mp h ((less_in hM.1 hw).mpr z.1))]; exact ⟨rfl, hM⟩
  · have g1 := (less_in hM.1 hw).mp h
    have g2 : inP a2 10 := (isIn_in (by decide) (by decide)).mp h2
    obtain ⟨l, hl, rfl⟩ := inP_ex (by omega) g1
    obtain ⟨x, hx, rfl⟩ := inP_ex (by decide) g2
    rw [if_pos ⟨g1, g2⟩, if_pos ⟨g1, g2⟩, tn_nI (by omega), tn_nI (by omega), nI_clamp (by omega)]
    refine ⟨vp_in_nI (by omega) (by decide), rfl, ?_⟩
    obtain ⟨⟨x1, x2, x3, x4, x5, x6, x7, x8, x9, x10, x11, x12, x13, x14, x15⟩, h38, hc⟩ := hM
    have f : ∀ q k, q ≠ 41 → gI (sI σ 41 l (nI x)) q k = gI σ q k := fun q k hq => gI_sI_ne (by omega)
    refine ⟨⟨?_, ?_, ?_, ?_, ?_, fun l' hl' => ?_, fun k hk => ?_, fun j hj => ?_, fun r hr => (x9 r hr).fr (fun q k a b => f q k (by omega)), ?_, ?_, fun i hi => ?_, ?_, ?_, ?_⟩, ?_, fun e r hr => ?_⟩
    · rw [f _ _ (by decide)]; exact x1
    · rw [f _ _ (by decide)]; exact x2
    · rw [f _ _ (by decide)]; exact x3
    · rw [f _ _ (by decide)]; exact x4
    · rw [f _ _ (by decide)]; exact x5
    · rw [f 42 _ (by decide), f 43 _ (by decide), f 44 _ (by decide)]
      refine ⟨?_, (x6 l' hl').2⟩
      rw [gI_sI]
      show _ = nI (puh w.pl l x l')
      by_cases e : l' = l
      · rw [if_pos ⟨rfl, e⟩, e, puh_same]
      · rw [if_neg (fun z => e z.2), puh_ne e]; exact (x6 l' hl').1
    · rw [f 45 _ (by decide), f 46 _ (by decide)]; exact x7 k hk
    · rw [f 47 _ (by decide), f 48 _ (by decide), f 49 _ (by decide)]; exact x8 j hj
    · rw [f _ _ (by decide)]; exact x10
    · rw [f _ _ (by decide)]; exact x11
    · rw [f _ _ (by decide)]; exact x12 i hi
    · rw [f _ _ (by decide)]; exact x13
    · rw [f _ _ (by decide)]; exact x14
    · rw [f _ _ (by decide)]; exact x15
    · rw [f _ _ (by decide)]; exact h38
    · rw [f _ _ (by decide), f _ _ (by decide)] at e
      rw [law_ext (w := w) (w' := setPl w l x) (j := r) rfl rfl rfl rfl rfl rfl rfl rfl rfl rfl, wth_ext (w := w) (w' := setPl w l x) (j := r) rfl rfl rfl rfl rfl]
      exact (hc e r hr).fr (fun k _ _ => ⟨f _ _ (by decide), f _ _ (by decide)⟩)
  · rw [if_neg (fun z => ze.mp h2 ((isIn_in (K := 10) (by decide) (by decide)).mpr z.2)), if_neg (fun z => ze.mp h2 ((isIn_in (K := 10) (by decide) (by decide)).mpr z.2))]; exact ⟨rfl, hM⟩
theorem price_M {d n : Nat} {σ : St} {w : Wd} {a1 a2 : Int32} (hn : FIX ≤ n) (hd : 2 ≤ d) (hM : MG σ w) (hw : WW w) : Cn d n M_X12_price md_X12_price [.ref 11, .int a1, .int a2] σ (liI (fun v σ' => v = priceV w a1 a2 ∧ MG σ' (priceW w a1 a2))) := by
  have hN := hw.N
  unfold priceV priceW
  refine S_X12_price hn (by omega) ⟨fun h => ?_, fun h => ⟨fun h2 => ?_, fun h2 => ?_⟩⟩
  · rw [if_neg (fun z => ze.mp h ((less_in hM.1 hw).mpr z.1)), if_neg (fun z => ze.mp h ((less_in hM.1 hw).mpr z.1))]; exact ⟨rfl, hM⟩
  · have g1 := (less_in hM.1 hw).mp h
    have g2 : inP a2 251 := (isIn_in (by decide) (by decide)).mp h2
    obtain ⟨l, hl, rfl⟩ := inP_ex (by omega) g1
    obtain ⟨x, hx, rfl⟩ := inP_ex (by decide) g2
    rw [if_pos ⟨g1, g2⟩, if_pos ⟨g1, g2⟩, tn_nI (by omega), tn_nI (by omega), nI_clamp (by omega)]
    refine ⟨vp_in_nI (by omega) (by decide), rfl, setPr_MG hM (fun q k hq => gI_sI_ne (by omega)) (fun l' hl' => ?_)⟩
    rw [gI_sI]
    by_cases e : l' = l
    · rw [if_pos ⟨rfl, e⟩, e, puh_same]
    · rw [if_neg (fun z => e z.2), puh_ne e]; exact (hM.1.les l' hl').2.2.2
  · rw [if_neg (fun z => ze.mp h2 ((isIn_in (K := 251) (by decide) (by decide)).mpr z.2)), if_neg (fun z => ze.mp h2 ((isIn_in (K := 251) (by decide) (by decide)).mpr z.2))]; exact ⟨rfl, hM⟩
theorem step_M {d n : Nat} {σ : St} {w : Wd} {a : Int32} (hn : FIX ≤ n) (hd : 1 ≤ d) (hM : MG σ w) (hw : WW w) : Cn d n M_X12_step md_X12_step [.ref 11, .int a] σ (liI (fun v σ' => v = stepV a ∧ MG σ' (stepW w a))) := by
  have o : (1 : Int32).toInt = 1 := by decide
  have s : (50 : Int32).toInt = 50 := by decide
  unfold stepV stepW
  refine S_X12_step hn (by omega) ⟨fun h => ?_, fun h => ?_⟩
  · have g := isIn_ti.mp h
    rw [o, s] at g
    rw [if_pos g, if_pos g]
    refine ⟨rfl, ?_⟩
    have ea := nI_tn (a := a) (by omega)
    obtain ⟨⟨x1, x2, x3, x4, x5, x6, x7, x8, x9, x10, x11, x12, x13, x14, x15⟩, h38, hc⟩ := hM
    have f : ∀ q k, ¬ (q = 11 ∧ k = 4) → gI (sI σ 11 4 a) q k = gI σ q k := fun q k hq => gI_sI_ne (by omega)
    refine ⟨⟨?_, ?_, ?_, ?_, ?_, fun l' hl' => ?_, fun k hk => ?_, fun j hj => ?_, fun r hr => (x9 r hr).fr (fun q k a b => f q k (by omega)), ?_, ?_, fun i hi => ?_, ?_, ?_, ?_⟩, ?_, fun e r hr => ?_⟩
    · rw [f _ _ (by decide)]; exact x1
    · rw [f _ _ (by decide)]; exact x2
    · rw [f _ _ (by decide)]; exact x3
    · rw [f _ _ (by decide)]; exact x4
    · rw [gI_sI_same]; exact ea.symm
    · rw [f 41 _ (by omega), f 42 _ (by omega), f 43 _ (by omega), f 44 _ (by omega)]; exact x6 l' hl'
    · rw [f 45 _ (by omega), f 46 _ (by omega)]; exact x7 k hk
    · rw [f 47 _ (by omega), f 48 _ (by omega), f 49 _ (by omega)]; exact x8 j hj
    · rw [f _ _ (by decide)]; exact x10
    · rw [f _ _ (by decide)]; exact x11
    · rw [f _ _ (by omega)]; exact x12 i hi
    · rw [f _ _ (by decide)]; exact x13
    · rw [f _ _ (by decide)]; exact x14
    · rw [f _ _ (by decide)]; exact x15
    · rw [f _ _ (by decide)]; exact h38
    · rw [f _ _ (by decide), f _ _ (by decide)] at e
      rw [law_ext (w := w) (w' := setSp w (tn a)) (j := r) rfl rfl rfl rfl rfl rfl rfl rfl rfl rfl, wth_ext (w := w) (w' := setSp w (tn a)) (j := r) rfl rfl rfl rfl rfl]
      exact (hc e r hr).fr (fun k _ _ => ⟨f _ _ (by omega), f _ _ (by omega)⟩)
  · have g := isIn_z.mp h
    rw [o, s] at g
    rw [if_neg g, if_neg g]; exact ⟨rfl, hM⟩
theorem most_M {d n : Nat} {σ : St} {w : Wd} {a : Int32} (hn : FIX ≤ n) (hd : 1 ≤ d) (hM : MG σ w) (hw : WW w) (hv : w.ver + 1 < 2 ^ 30) : Cn d n M_X12_most md_X12_most [.ref 11, .int a] σ (liI (fun v σ' => v = mostV a ∧ MG σ' (mostW w a))) := by
  have o : (1 : Int32).toInt = 1 := by decide
  have s : (6 : Int32).toInt = 6 := by decide
  unfold mostV mostW
  refine S_X12_most hn (by omega) ⟨fun h => ?_, fun h => ?_⟩
  · have g := isIn_ti.mp h
    rw [o, s] at g
    rw [if_pos g, if_pos g]
    refine ⟨rfl, ?_⟩
    have ea := nI_tn (a := a) (by omega)
    rw [gI_sI_ne (σ := σ) (j := 11) (by omega), hM.1.ver, nI_1]
    obtain ⟨⟨x1, x2, x3, x4, x5, x6, x7, x8, x9, x10, x11, x12, x13, x14, v, x15, x16⟩, h38, hc⟩ := hM
    have f : ∀ q k, ¬ (q = 11 ∧ (k = 3 ∨ k = 20)) → gI (sI (sI σ 11 3 a) 11 20 (nI (w.ver + 1))) q k = gI σ q k := fun q k hq => by rw [gI_sI_ne (by omega), gI_sI_ne (by omega)]
    refine MG.next ⟨?_, ?_, ?_, ?_, ?_, fun l' hl' => ?_, fun k hk => ?_, fun j hj => ?_, fun r hr => (x9 r hr).fr (fun q k a b => f q k (by omega)), ?_, ?_, fun i hi => ?_, ?_, ?_, v, ?_, ?_⟩ ?_ hv ⟨v, ?_, ?_⟩
    · rw [f _ _ (by decide)]; exact x1
    · rw [f _ _ (by decide)]; exact x2
    · rw [f _ _ (by decide)]; exact x3
    · rw [gI_sI_ne (by omega), gI_sI_same]; exact ea.symm
    · rw [f _ _ (by decide)]; exact x5
    · rw [f 41 _ (by omega), f 42 _ (by omega), f 43 _ (by omega), f 44 _ (by omega)]; exact x6 l' hl'
    · rw [f 45 _ (by omega), f 46 _ (by omega)]; exact x7 k hk
    · rw [f 47 _ (by omega), f 48 _ (by omega), f 49 _ (by omega)]; exact x8 j hj
    · rw [f _ _ (by decide)]; exact x10
    · rw [f _ _ (by decide)]; exact x11
    · rw [f _ _ (by omega)]; exact x12 i hi
    · rw [f _ _ (by decide)]; exact x13
    · rw [gI_sI_same]; rfl
    · show v ≤ w.ver + 1; omega
    · rw [f _ _ (by decide)]; exact x16
    · rw [f _ _ (by decide)]; exact h38
    · show v < w.ver + 1; omega
    · rw [f _ _ (by decide)]; exact x16
  · have g := isIn_z.mp h
    rw [o, s] at g
    rw [if_neg g, if_neg g]; exact ⟨rfl, hM⟩
