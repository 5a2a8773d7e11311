/-! ===== the model: buys, over, square, fit, settle ===== -/
def tn (a : Int32) : Nat := a.toInt.toNat
abbrev inP (a : Int32) (K : Nat) : Prop := 0 ≤ a.toInt ∧ a.toInt < K
theorem tn_nI {j : Nat} (h : j < 2 ^ 31) : tn (nI j) = j := by unfold tn; rw [nI_toInt h]; omega
theorem inP_nI {j K : Nat} (h : j < K) (hK : K < 2 ^ 31) : inP (nI j) K := by unfold inP; rw [nI_toInt (by omega)]; omega
theorem inP_ex {a : Int32} {K : Nat} (hK : K < 2 ^ 31) (h : inP a K) : ∃ j, j < K ∧ a = nI j := ex_nI hK h.1 h.2
theorem inP_iff {a : Int32} {K : Nat} (hK : K < 2 ^ 31) : inP a K ↔ ∃ j, j < K ∧ a = nI j := ⟨inP_ex hK, fun ⟨j, h, e⟩ => by rw [e]; exact inP_nI h hK⟩
theorem pers_in {σ : St} {w : Wd} {a : Int32} (hM : RM σ w) (hw : WW w) : fn_X12_isPerson σ a ≠ 0 ↔ inP a w.P := by
  rw [pers_nI hM hw, inP_iff (by have := hw.P; omega)]
theorem less_in {σ : St} {w : Wd} {a : Int32} (hM : RM σ w) (hw : WW w) : fn_X12_isLesson σ a ≠ 0 ↔ inP a w.N := by
  rw [less_nI hM hw, inP_iff (by have := hw.N; omega)]
theorem isIn_in {a c : Int32} {K : Nat} (hK : K < 2 ^ 31) (hc : c.toInt = (K : Int) - 1) : fn_X12_isIn a 0 c ≠ 0 ↔ inP a K := by
  rw [isIn_nI hK hc, inP_iff hK]
theorem ze {x : Int32} : x = 0 ↔ ¬ x ≠ 0 := ⟨fun h z => z h, fun h => Classical.byContradiction h⟩
/-- the sum of a model's answer with no change -/
def buysV (w : Wd) (a1 a2 : Int32) : Int32 :=
  if inP a1 w.P ∧ inP a2 3 then (if a2 = 0 then nI (buyB w (LM w) (VM w) w.pr (tn a1)) else if a2 = 1 then nI (optC (fun b => costU w.pr b w.N) (buyO w (LM w) (VM w) w.pr (tn a1))) else Int32.ofInt (optV (VM w (tn a1)) (buyO w (LM w) (VM w) w.pr (tn a1)))) else -2000000
def overV (w : Wd) (a : Int32) : Int32 := if inP a w.N then Int32.ofInt (ovN w (tM w) w.pr (tn a)) else -100
def squareV (w : Wd) : Int32 := Int32.ofInt (sqN w (tM w) w.pr)
theorem ofI {x : Int32} {z : Int} (h : x.toInt = z) : x = Int32.ofInt z := by rw [← h, Int32.ofInt_toInt]
theorem buyO_lt {w : Wd} {L : Nat → Nat → Bool} {V : Nat → Nat → Int} {c : Nat → Nat} {p x : Nat} (h : buyO w L V c p = some x) : x < 2 ^ w.N := by
  exact (bestU_lt h).1
theorem buys_M {d n : Nat} {σ : St} {w : Wd} {a1 a2 : Int32} (hn : FIX ≤ n) (hd : 9 ≤ d) (hM : MG σ w) (hw : WW w) : Cn d n M_X12_buys md_X12_buys [.ref 11, .int a1, .int a2] σ (liI (fun v σ' => v = buysV w a1 a2 ∧ MG σ' w)) := by
  have hP := hw.P
  have hpw := pow10 hw.N
  refine S_X12_buys hn (by omega) ⟨fun h => ⟨?_, hM⟩, fun h => ⟨fun h2 => ?_, fun h2 => ⟨?_, hM⟩⟩⟩
  · unfold buysV; rw [if_neg (fun z => ze.mp h ((pers_in hM.1 hw).mpr z.1))]
  · have g1 := (pers_in hM.1 hw).mp h
    have g2 : inP a2 3 := (isIn_in (by decide) (by decide)).mp h2
    obtain ⟨j, hj, rfl⟩ := inP_ex (by omega) g1
    refine ⟨_, told_MT hn (by omega) hM hw, fun σ1 h1 hf1 => ⟨_, buysBy_MT hn (by omega) h1 hw (pr_ok hw) hj, fun v σ2 ⟨b1, b2, b3, b4⟩ hf2 => ⟨fun e => ⟨fun e1 => ⟨?_, b1.g⟩, fun e1 => ⟨?_, b1.g⟩⟩, fun e => ⟨?_, b1.g⟩⟩⟩⟩
    · unfold buysV; rw [if_pos ⟨g1, g2⟩, if_neg e, if_neg e1, tn_nI (by omega)]; exact ofI b4
    · unfold buysV; rw [if_pos ⟨g1, g2⟩, if_neg e, if_pos e1, tn_nI (by omega)]; exact b3
    · unfold buysV; rw [if_pos ⟨g1, g2⟩, if_pos e, tn_nI (by omega), b2]
      exact mx0_opt (fun x hx => by have := buyO_lt hx; omega)
  · unfold buysV; rw [if_neg (fun z => ze.mp h2 ((isIn_in (K := 3) (by decide) (by decide)).mpr z.2))]
theorem over_M {d n : Nat} {σ : St} {w : Wd} {a : Int32} (hn : FIX ≤ n) (hd : 9 ≤ d) (hM : MG σ w) (hw : WW w) : Cn d n M_X12_over md_X12_over [.ref 11, .int a] σ (liI (fun v σ' => v = overV w a ∧ MG σ' w)) := by
  have hN := hw.N
  refine S_X12_over hn (by omega) ⟨fun h => ?_, fun h => ⟨?_, hM⟩⟩
  · have g := (less_in hM.1 hw).mp h
    obtain ⟨j, hj, rfl⟩ := inP_ex (by omega) g
    refine ⟨_, told_MT hn (by omega) hM hw, fun σ1 h1 hf1 => ⟨_, squares_MT hn (by omega) h1 hw (pr_ok hw), fun v σ2 ⟨b1, b2, b3, b4⟩ hf2 => ⟨vp_in_nI (by omega) (by decide), ?_, b1.g⟩⟩⟩
    unfold overV; rw [if_pos g, tn_nI (by omega), nI_clamp (by omega)]; exact ofI (b4 j hj)
  · unfold overV; rw [if_neg (fun z => ze.mp h ((less_in hM.1 hw).mpr z))]
theorem square_M {d n : Nat} {σ : St} {w : Wd} (hn : FIX ≤ n) (hd : 9 ≤ d) (hM : MG σ w) (hw : WW w) : Cn d n M_X12_square md_X12_square [.ref 11] σ (liI (fun v σ' => v = squareV w ∧ MG σ' w)) := by
  refine S_X12_square hn (by omega) ?_
  exact ⟨_, told_MT hn (by omega) hM hw, fun σ1 h1 hf1 => ⟨_, squares_MT hn (by omega) h1 hw (pr_ok hw), fun v σ2 ⟨b1, b2, b3, b4⟩ hf2 => ⟨ofI b2, b1.g⟩⟩⟩
abbrev fitG (w : Wd) (a1 a2 : Int32) : Prop := (1 ≤ a1.toInt ∧ a1.toInt ≤ 60) ∧ (0 ≤ a2.toInt ∧ a2.toInt ≤ 1 ∨ 10 ≤ a2.toInt ∧ a2.toInt ≤ 9 + (w.N : Int))
noncomputable def fitV (w : Wd) (a1 a2 : Int32) : Int32 :=
  if fitG w a1 a2 then (if a2 = 0 then Int32.ofInt (fitS w (tM w) (tn a1)).q else if a2 = 1 then nI (fitS w (tM w) (tn a1)).g else nI ((fitS w (tM w) (tn a1)).b (tn (a2 - 10)))) else -1
theorem in60 {a : Int32} (h : fn_X12_isIn a 1 60 ≠ 0) : ∃ m, a = nI m ∧ 1 ≤ m ∧ m ≤ 60 := by
  have h2 := isIn_ti.mp h
  rw [show (1 : Int32).toInt = 1 by decide, show (60 : Int32).toInt = 60 by decide] at h2
  obtain ⟨m, h3, h4⟩ := ex_nI (K := 61) (by decide) (by omega : 0 ≤ a.toInt) (by omega)
  refine ⟨m, h4, ?_, by omega⟩
  rw [h4, nI_toInt (by omega)] at h2; omega
theorem fit_M {d n : Nat} {σ : St} {w : Wd} {a1 a2 : Int32} (hn : FIX ≤ n) (hd : 10 ≤ d) (hM : MG σ w) (hw : WW w) : Cn d n M_X12_fit md_X12_fit [.ref 11, .int a1, .int a2] σ (liI (fun v σ' => v = fitV w a1 a2 ∧ MG σ' w)) := by
  have hN := hw.N
  have e9 : (9 + gI σ 11 0).toInt = 9 + (w.N : Int) := by
    rw [hM.1.N, ti_add] <;> rw [nI_toInt (by omega), show (9 : Int32).toInt = 9 by decide] <;> omega
  have z : (0 : Int32).toInt = 0 := by decide
  have o : (1 : Int32).toInt = 1 := by decide
  have t : (10 : Int32).toInt = 10 := by decide
  have s : (60 : Int32).toInt = 60 := by decide
  have got : fitG w a1 a2 → fn_X12_isIn a1 1 60 ≠ 0 → ∃ Q3 : St → Prop, Cn (d - 1) n M_X12_fits md_X12_fits [.ref 11, .int a1] σ (liV Q3) ∧ ∀ (σ5 : St), Q3 σ5 → Fr md_X12_fits σ σ5 → ((a2 ≠ 0 → ((a2 ≠ 1 → vp_in (a2 - 10) 10 ∧ (gI σ5 69 (a2 - 10).toNatClampNeg = fitV w a1 a2 ∧ MG σ5 w)) ∧ (a2 = 1 → (gI σ5 11 49 = fitV w a1 a2 ∧ MG σ5 w)))) ∧ (a2 = 0 → (gI σ5 11 50 = fitV w a1 a2 ∧ MG σ5 w))) := by
    intro hg h
    obtain ⟨m, rfl, h1, h2⟩ := in60 h
    refine ⟨_, fits_M hn (by omega) hM hw h2, ?_⟩
    rintro σ5 ⟨⟨c', b1⟩, b2⟩ hf
    have hne : ∀ k : Int32, a2 ≠ k → a2.toInt ≠ k.toInt := fun k hk e => hk (eq_ti.mpr e)
    refine ⟨fun e => ⟨fun e1 => ?_, fun e1 => ⟨?_, b1.g⟩⟩, fun e => ⟨?_, b1.g⟩⟩
    · have q1 := hne _ e
      have q2 := hne _ e1
      have h10 : 10 ≤ a2.toInt ∧ a2.toInt ≤ 9 + (w.N : Int) := by
        rcases hg.2 with x | x
        · omega
        · exact x
      have e10 : (a2 - 10).toInt = a2.toInt - 10 := by rw [ti_sub] <;> rw [t] <;> omega
      obtain ⟨l, hl, el⟩ := ex_nI (K := 10) (by decide) (by omega : 0 ≤ (a2 - 10).toInt) (by omega)
      refine ⟨by rw [el]; exact vp_in_nI (by omega) (by decide), ?_, b1.g⟩
      unfold fitV; rw [if_pos hg, if_neg e, if_neg e1, el, tn_nI (by omega), tn_nI (by omega), nI_clamp (by omega)]
      exact b2.2.2.2.2.2.1 l hl
    · unfold fitV; rw [if_pos hg, if_neg (by rw [e1]; decide), if_pos e1, tn_nI (by omega)]
      exact b2.1
    · unfold fitV; rw [if_pos hg, if_pos e, tn_nI (by omega)]
      exact ofI b2.2.2.2.2.2.2
  refine S_X12_fit hn (by omega) ⟨fun h => ⟨?_, hM⟩, fun h => ⟨fun h2 => ?_, fun h2 => ⟨fun h3 => ?_, fun h3 => ⟨?_, hM⟩⟩⟩⟩
  · unfold fitV; rw [if_neg]; intro x
    have := isIn_z.mp h; rw [o, s] at this; exact this x.1
  · refine got ⟨?_, Or.inl ?_⟩ h
    · have := isIn_ti.mp h; rw [o, s] at this; exact this
    · have := isIn_ti.mp h2; rw [o, z] at this; exact this
  · refine got ⟨?_, Or.inr ?_⟩ h
    · have := isIn_ti.mp h; rw [o, s] at this; exact this
    · have := isIn_ti.mp h3; rw [e9, t] at this; exact this
  · unfold fitV; rw [if_neg]; intro x
    have q1 := isIn_z.mp h2; have q2 := isIn_z.mp h3; rw [o, z] at q1; rw [e9, t] at q2
    rcases x.2 with y | y
    · exact q1 y
    · exact q2 y
/-- the same with other prices -/
def setPr (w : Wd) (f : Nat → Nat) : Wd := (w.N, w.P, w.A, w.mo, w.sp, w.pl, w.fr, w.to, w.a1, w.a2, f, w.pu, w.dn, w.hd, w.ws, w.lie, w.T, w.tp, w.fa, w.ver)
theorem setPr_WW {w : Wd} {f : Nat → Nat} (h : WW w) (h1 : ∀ l, f l ≤ 250) (h2 : ∀ l, w.N ≤ l → f l = 0) : WW (setPr w f) := by
  obtain ⟨x1, x2, x3, x4, x5, x6, x7, x8, x9, x10, x11, x12, x13, x14, x15, x16⟩ := h
  exact ⟨x1, x2, x3, x4, x5, x6, x7, x8, h1, x10, x11, x12, x13, x14, x15, fun l hl => ⟨(x16 l hl).1, h2 l hl⟩⟩
theorem setPr_RM {σ σ' : St} {w : Wd} {f : Nat → Nat} (h : RM σ w) (h1 : ∀ q k, keepM q k → q ≠ 44 → gI σ' q k = gI σ q k) (h2 : ∀ l, l < 10 → gI σ' 44 l = nI (f l)) : RM σ' (setPr w f) := by
  obtain ⟨x1, x2, x3, x4, x5, x6, x7, x8, x9, x10, x11, x12, x13, x14, v, x15, x16⟩ := h
  have f11 : ∀ k, (k ≤ 4 ∨ k = 14 ∨ k = 19 ∨ k = 20 ∨ k = 21 ∨ k = 37) → gI σ' 11 k = gI σ 11 k := fun k hk => h1 11 k (Or.inl ⟨rfl, hk⟩) (by decide)
  have fq : ∀ q k, 41 ≤ q → q ≤ 56 → q ≠ 44 → gI σ' q k = gI σ q k := fun q k a b c => h1 q k (Or.inr (Or.inl ⟨a, b⟩)) c
  refine ⟨?_, ?_, ?_, ?_, ?_, fun l hl => ⟨?_, ?_, ?_, h2 l hl⟩, fun k hk => ⟨?_, ?_⟩, fun j hj => ⟨?_, ?_, ?_⟩, fun r hr => (x9 r hr).fr (fun q k a b => fq q k (by omega) b (by omega)), ?_, ?_, fun i hi => ?_, ?_, ?_, v, x15, ?_⟩
  · rw [f11 0 (by omega)]; exact x1
  · rw [f11 1 (by omega)]; exact x2
  · rw [f11 2 (by omega)]; exact x3
  · rw [f11 3 (by omega)]; exact x4
  · rw [f11 4 (by omega)]; exact x5
  · rw [fq 41 l (by omega) (by omega) (by omega)]; exact (x6 l hl).1
  · rw [fq 42 l (by omega) (by omega) (by omega)]; exact (x6 l hl).2.1
  · rw [fq 43 l (by omega) (by omega) (by omega)]; exact (x6 l hl).2.2.1
  · rw [fq 45 k (by omega) (by omega) (by omega)]; exact (x7 k hk).1
  · rw [fq 46 k (by omega) (by omega) (by omega)]; exact (x7 k hk).2
  · rw [fq 47 j (by omega) (by omega) (by omega)]; exact (x8 j hj).1
  · rw [fq 48 j (by omega) (by omega) (by omega)]; exact (x8 j hj).2.1
  · rw [fq 49 j (by omega) (by omega) (by omega)]; exact (x8 j hj).2.2
  · rw [f11 21 (by omega)]; exact x10
  · rw [f11 14 (by omega)]; exact x11
  · rw [h1 59 i (Or.inr (Or.inr rfl)) (by decide)]; exact x12 i hi
  · rw [f11 19 (by omega)]; exact x13
  · rw [f11 20 (by omega)]; exact x14
  · rw [f11 37 (by omega)]; exact x16
theorem hrsU_ext {w w' : Wd} (h1 : w'.to = w.to) (h2 : w'.fr = w.fr) (b : Nat) : ∀ n, hrsU w' b n = hrsU w b n ∧ fstU w' b n = fstU w b n ∧ lstU w' b n = lstU w b n
  | 0 => ⟨rfl, rfl, rfl⟩
  | n + 1 => by
    obtain ⟨a, c, e⟩ := hrsU_ext h1 h2 b n
    refine ⟨?_, ?_, ?_⟩
    · unfold hrsU; rw [a, h1, h2]
    · unfold fstU; rw [c, h2]
    · unfold lstU; rw [e, h1]
theorem wrd_ext {w w' : Wd} (h0 : w'.N = w.N) (h1 : w'.to = w.to) (h2 : w'.fr = w.fr) {j : Nat} (h3 : w'.pu j = w.pu j) (b : Nat) : wrd w' j b = wrd w j b := by
  funext k
  unfold wrd lst fst0 hrs
  rw [h0, (hrsU_ext h1 h2 b w.N).1, (hrsU_ext h1 h2 b w.N).2.1, (hrsU_ext h1 h2 b w.N).2.2, h3]
theorem wth_ext {w w' : Wd} (h0 : w'.N = w.N) (h1 : w'.to = w.to) (h2 : w'.fr = w.fr) {j r r' : Nat} (h3 : w'.pu j = w.pu j) (h4 : w'.ws r' = w.ws r) : wth w' r' j = wth w r j := by
  funext b
  unfold wth
  rw [wrd_ext h0 h1 h2 h3, h4]
theorem law_ext {w w' : Wd} (h0 : w'.N = w.N) (h1 : w'.to = w.to) (h2 : w'.fr = w.fr) {j r r' : Nat} (h3 : w'.pu j = w.pu j) (h4 : w'.ws r' = w.ws r) (h5 : w'.mo = w.mo) (h6 : w'.A = w.A) (h7 : w'.a1 = w.a1) (h8 : w'.a2 = w.a2) (h9 : w'.dn j = w.dn j) : law w' r' j = law w r j := by
  funext b
  unfold law bar clashB lackB nev
  rw [wrd_ext h0 h1 h2 h3, h0, h1, h2, h4, h5, h6, h7, h8, h9]
theorem setPr_law (w : Wd) (f : Nat → Nat) (r j : Nat) : law (setPr w f) r j = law w r j := law_ext (w := w) (w' := setPr w f) rfl rfl rfl rfl rfl rfl rfl rfl rfl rfl
theorem setPr_wth (w : Wd) (f : Nat → Nat) (r j : Nat) : wth (setPr w f) r j = wth w r j := wth_ext (w := w) (w' := setPr w f) rfl rfl rfl rfl rfl
theorem setPr_MG {σ σ' : St} {w : Wd} {f : Nat → Nat} (h : MG σ w) (h1 : ∀ q k, q ≠ 44 → gI σ' q k = gI σ q k) (h2 : ∀ l, l < 10 → gI σ' 44 l = nI (f l)) : MG σ' (setPr w f) := by
  refine ⟨setPr_RM h.1 (fun q k _ hq => h1 q k hq) h2, by rw [h1 11 38 (by decide)]; exact h.2.1, fun he r hr => ?_⟩
  rw [h1 11 37 (by decide), h1 11 20 (by decide)] at he
  rw [setPr_law, setPr_wth]
  exact (h.2.2 he r hr).fr (fun k _ _ => ⟨h1 _ _ (by decide), h1 _ _ (by decide)⟩)
noncomputable def settleF (w : Wd) (m l : Nat) : Nat := if l < w.N then (fitS w (tM w) m).b l else w.pr l
noncomputable def settleW (w : Wd) (a : Int32) : Wd := if 1 ≤ a.toInt ∧ a.toInt ≤ 60 then setPr w (settleF w (tn a)) else w
def settleV (a : Int32) : Int32 := if 1 ≤ a.toInt ∧ a.toInt ≤ 60 then 1 else 0
theorem settleW_WW {w : Wd} (hw : WW w) (a : Int32) : WW (settleW w a) := by
  unfold settleW
  split
  · refine setPr_WW hw (fun l => ?_) (fun l hl => ?_)
    · unfold settleF; split
      · exact (fitS_ok hw _ _).2 l
      · exact hw.pr l
    · unfold settleF; rw [if_neg (by omega)]; exact (hw.zz l hl).2
  · exact hw
theorem settle_M {d n : Nat} {σ : St} {w : Wd} {a : Int32} (hn : FIX ≤ n) (hd : 10 ≤ d) (hM : MG σ w) (hw : WW w) : Cn d n M_X12_settle md_X12_settle [.ref 11, .int a] σ (liI (fun v σ' => v = settleV a ∧ MG σ' (settleW w a))) := by
  have hN := hw.N
  have o : (1 : Int32).toInt = 1 := by decide
  have s : (60 : Int32).toInt = 60 := by decide
  refine S_X12_settle hn (by omega) ⟨fun h => ?_, fun h => ?_⟩
  · have hg := isIn_ti.mp h
    rw [o, s] at hg
    obtain ⟨m, rfl, h1, h2⟩ := in60 h
    refine ⟨_, fits_M hn (by omega) hM hw h2, ?_⟩
    rintro σ1 ⟨⟨c', b1⟩, b2⟩ hf
    unfold settleV settleW
    rw [if_pos hg, if_pos hg, tn_nI (by omega)]
    have loop : ∀ l, l ≤ w.N → ∀ σ2 : St, (∀ q k, q ≠ 44 → gI σ2 q k = gI σ1 q k) → (∀ l', l' < 10 → gI σ2 44 l' = nI (if l' < l then (fitS w (tM w) m).b l' else w.pr l')) → K_X12_settle_19 d n σ (fun v σ' => v = 1 ∧ MG σ' (setPr w (settleF w m))) σ2 (nI l) := by
      refine up_ind (N := w.N) ?_ ?_
      · intro σ2 q1 q2
        refine B_X12_settle_19 hn (by omega) ⟨fun _ => ⟨rfl, setPr_MG b1.g q1 q2⟩, fun h => absurd (by rw [q1 _ _ (by decide), b1.1.N]; exact nI_le (by omega) (by omega)) h⟩
      · intro l hl ih σ2 q1 q2
        refine B_X12_settle_19 hn (by omega) ⟨fun h => absurd h (by rw [q1 _ _ (by decide), b1.1.N]; exact nI_ge hl (by omega)), fun _ => ⟨vp_in_nI (by omega) (by decide), vp_in_nI (by omega) (by decide), ?_⟩⟩
        rw [nI_clamp (by omega), nI_1, q1 69 l (by decide), b2.2.2.2.2.2.1 l (by omega)]
        refine ih _ (fun q k hq => by rw [gI_sI_ne (by omega)]; exact q1 q k hq) (fun l' hl' => ?_)
        rw [gI_sI]
        by_cases e : l' = l
        · rw [if_pos ⟨rfl, e⟩, if_pos (by omega), e]
        · rw [if_neg (fun z => e z.2), q2 l' hl']
          have e2 : l' < l + 1 ↔ l' < l := by omega
          simp only [e2]
    exact loop 0 (by omega) σ1 (fun _ _ _ => rfl) (fun l hl => by rw [if_neg (by omega)]; exact (b1.1.les l hl).2.2.2)
  · have hg := isIn_z.mp h
    rw [o, s] at hg
    unfold settleV settleW
    rw [if_neg hg, if_neg hg]
    exact ⟨rfl, hM⟩
