/-! ===== the model: its state between calls; dear, why, ties, edge ===== -/
theorem z_ti : (0 : Int32).toInt = 0 := by decide
theorem one_ti : (1 : Int32).toInt = 1 := by decide
theorem ex_nI {a : Int32} {K : Nat} (hK : K < 2 ^ 31) (h1 : 0 ≤ a.toInt) (h2 : a.toInt < K) : ∃ j, j < K ∧ a = nI j := ⟨a.toInt.toNat, by omega, by
  rw [eq_ti, nI_toInt (by omega)]; omega⟩
theorem isIn_ti {a b c : Int32} : fn_X12_isIn a b c ≠ 0 ↔ b.toInt ≤ a.toInt ∧ a.toInt ≤ c.toInt := by
  unfold fn_X12_isIn
  by_cases h1 : a < b
  · rw [if_pos h1]; have := lt_ti.mp h1
    exact ⟨fun h => absurd rfl h, fun h => by omega⟩
  · rw [if_neg h1]
    have h1' : ¬ a.toInt < b.toInt := fun z => h1 (lt_ti.mpr z)
    by_cases h2 : c < a
    · rw [if_pos h2]; have := lt_ti.mp h2
      exact ⟨fun h => absurd rfl h, fun h => by omega⟩
    · rw [if_neg h2]
      have h2' : ¬ c.toInt < a.toInt := fun z => h2 (lt_ti.mpr z)
      exact ⟨fun _ => by omega, fun _ => by decide⟩
theorem isIn_z {a b c : Int32} : fn_X12_isIn a b c = 0 ↔ ¬ (b.toInt ≤ a.toInt ∧ a.toInt ≤ c.toInt) := by
  rw [← isIn_ti]; exact ⟨fun h z => z h, fun h => Classical.byContradiction fun z => h z⟩
theorem isIn_nI {a c : Int32} {K : Nat} (hK : K < 2 ^ 31) (hc : c.toInt = (K : Int) - 1) : fn_X12_isIn a 0 c ≠ 0 ↔ ∃ j, j < K ∧ a = nI j := by
  rw [isIn_ti, hc, z_ti]
  constructor
  · rintro ⟨h1, h2⟩; exact ex_nI hK h1 (by omega)
  · rintro ⟨j, h1, rfl⟩; rw [nI_toInt (by omega)]; omega
theorem pers_nI {σ : St} {w : Wd} {a : Int32} (hM : RM σ w) (hw : WW w) : fn_X12_isPerson σ a ≠ 0 ↔ ∃ j, j < w.P ∧ a = nI j := by
  unfold fn_X12_isPerson
  have := hw.P
  refine isIn_nI (by omega) ?_
  rw [hM.P, ti_sub] <;> rw [nI_toInt (by omega), one_ti] <;> omega
theorem less_nI {σ : St} {w : Wd} {a : Int32} (hM : RM σ w) (hw : WW w) : fn_X12_isLesson σ a ≠ 0 ↔ ∃ j, j < w.N ∧ a = nI j := by
  unfold fn_X12_isLesson
  have := hw.N
  refine isIn_nI (by omega) ?_
  rw [hM.N, ti_sub] <;> rw [nI_toInt (by omega), one_ti] <;> omega
def LM (w : Wd) (p : Nat) : Nat → Bool := law w p p
def VM (w : Wd) (p : Nat) : Nat → Int := wth w p p
theorem VM_ok (w : Wd) : vOk (VM w) := fun p b => by have := wth_rng w p p b; unfold VM; omega
theorem VM_w (w : Wd) : vW (VM w) := fun p b => wth_rng w p p b
/-- the model between calls -/
def MG (σ : St) (w : Wd) : Prop := RM σ w ∧ gI σ 11 38 = -1 ∧ CM σ w
/-- the model with its tables, at a row of prices -/
def MT (σ : St) (w : Wd) (c : Nat → Nat) : Prop := RM σ w ∧ gI σ 11 38 = -1 ∧ TbAll σ w ∧ Now σ c
theorem MT.g {σ : St} {w : Wd} {c : Nat → Nat} (h : MT σ w c) : MG σ w := ⟨h.1, h.2.1, fun _ => h.2.2.1⟩
theorem rw_no {σ : St} {p : Nat} (h : gI σ 11 38 = -1) (hp : p < 2 ^ 31) : rw_ σ p = p := by
  unfold rw_; rw [h]; exact if_neg (optI_ne (x := p) hp)
theorem MT.x {σ : St} {w : Wd} {c : Nat → Nat} (h : MT σ w c) (hw : WW w) : MX σ w (LM w) (VM w) c :=
  ⟨h.1, fun p hp => by rw [rw_no h.2.1 (by have := hw.P; omega)]; exact h.2.2.1 p hp, h.2.2.2⟩
theorem MT.of {σ : St} {w : Wd} {c : Nat → Nat} (h : MX σ w (LM w) (VM w) c) (hw : WW w) (hf : gI σ 11 38 = -1) : MT σ w c :=
  ⟨h.1, hf, fun p hp => by have := h.2.1 p hp; rw [rw_no hf (by have := hw.P; omega)] at this; exact this, h.2.2⟩
theorem MT.st {m : Md} {σ σ' : St} {w : Wd} {c : Nat → Nat} (h : MT σ w c) (hw : WW w) (hf : Fr m σ σ') (ho : okX m = true) : MT σ' w c := by
  have h2 := (h.x hw).st hf ho
  simp only [okX, Bool.and_eq_true] at ho
  exact MT.of h2 hw (by rw [hf.cell ho.2.2.2.2]; exact h.2.1)
theorem told_MT {d n : Nat} {σ : St} {w : Wd} (hn : FIX ≤ n) (hd : 8 ≤ d) (hM : MG σ w) (hw : WW w) : Cn d n M_X12_told md_X12_told [.ref 11] σ (liV (fun σ' => MT σ' w w.pr)) :=
  Cn.wk (told_spec hn hd hM.1 hw hM.2.2) (by
    rintro v σ' ⟨rfl, h0, h1, -, h2⟩ hf
    exact ⟨rfl, h0, by rw [hf.cell (by decide)]; exact hM.2.1, h1, h2⟩)
theorem buysBy_MT {d n : Nat} {σ : St} {w : Wd} {c : Nat → Nat} {p : Nat} (hn : FIX ≤ n) (hd : 2 ≤ d) (hM : MT σ w c) (hw : WW w) (hc : cOk c) (hp : p < w.P) : Cn d n M_X12_buysBy md_X12_buysBy [.ref 11, .int (nI p)] σ (liI (fun v σ' => MT σ' w c ∧ v = optI (buyO w (LM w) (VM w) c p) ∧ gI σ' 11 40 = nI (optC (fun b => costU c b w.N) (buyO w (LM w) (VM w) c p)) ∧ (gI σ' 11 41).toInt = optV (VM w p) (buyO w (LM w) (VM w) c p))) := by
  have hP := hw.P
  refine Cn.wk (buysBy_spec (L := LM w p) (V := VM w p) hn hd hM.1.N hw (by omega) (hM.1.per p (by omega)).1 ?_ (VM_ok w p) hM.2.2.2 hc) ?_
  · rw [rw_no hM.2.1 (by omega)]; exact hM.2.2.1 p hp
  · rintro v σ' ⟨x, rfl, h1, h2, h3⟩ hf
    exact ⟨x, rfl, hM.st hw hf (by decide), h1, h2, h3⟩
theorem lawM {σ : St} {w : Wd} {c : Nat → Nat} {p b : Nat} (hM : MT σ w c) (hw : WW w) (hp : p < w.P) (hb : b < 1024) : pre_X12_isLawful σ (nI p) (nI b) ∧ (fn_X12_isLawful σ (nI p) (nI b) = 0 ↔ LM w p b = false) := by
  have hP := hw.P
  obtain ⟨h1, h2⟩ := isLawful_nI (hM.2.2.1 p hp) (by omega) hb
  refine ⟨h1, ?_⟩
  rw [h2]; unfold LM; cases law w p p b <;> simp
theorem worM {σ : St} {w : Wd} {c : Nat → Nat} {p b : Nat} (hM : MT σ w c) (hw : WW w) (hp : p < w.P) (hb : b < 1024) : pre_X12_worthOf σ (nI p) (nI b) ∧ (fn_X12_worthOf σ (nI p) (nI b)).toInt = VM w p b := by
  have hP := hw.P
  exact worthOf_nI (hM.2.2.1 p hp) (by omega) hb
def optS (o : Option Nat) (m : Nat) : Int32 := match o with
  | none => -1
  | some x => nI x - nI m
/-- dear: what the answer is -/
def dearA (w : Wd) (a v : Int32) : Prop := (¬ ∃ j, j < w.P ∧ a = nI j) ∧ v = -2 ∨ ∃ j, j < w.P ∧ a = nI j ∧ ∃ o, Lst (lbS w.N (LM w j) (VM w j) 0 (optV (VM w j) (buyO w (LM w) (VM w) w.pr j))) (fun b => costU w.pr b w.N) o ∧ v = optS o (w.pu j)
theorem shl_N {σ : St} {w : Wd} (hM : RM σ w) (hw : WW w) : (1 : Int32) <<< (gI σ 11 0 &&& 31) = nI (2 ^ w.N) := by
  exact shlN hM.N hw
theorem cost_le {c : Nat → Nat} {b N : Nat} (hc : cOk c) (hN : N ≤ 10) : costU c b N ≤ 10000000 := Nat.le_trans (costU_le (M := 1000000) (fun i hi => hc i (by omega))) (by omega)
theorem pr_ok {w : Wd} (hw : WW w) : cOk w.pr := fun l _ => by have := hw.pr l; omega
/-- a scan for the least, a step on -/
theorem nI_lef {a b : Nat} (ha : a < 2 ^ 31) (hb : b < 2 ^ 31) : nI a ≤ nI b ↔ a ≤ b := by
  rw [le_ti, nI_toInt ha, nI_toInt hb]; omega
def scS (N : Nat) (L : Nat → Bool) (V : Nat → Int) (a : Nat) (y : Int) (b z : Nat) : Prop := z < b ∧ lbS N L V a y z
theorem scS_no {N : Nat} {L : Nat → Bool} {V : Nat → Int} {a : Nat} {y : Int} {b : Nat} {c : Nat → Nat} {o : Option Nat} (h : Lst (scS N L V a y b) c o) (hn : ¬ lbS N L V a y b) : Lst (scS N L V a y (b + 1)) c o :=
  h.ext (fun z => ⟨fun q => ⟨by have := q.1; omega, q.2⟩, fun q => ⟨by
    rcases Nat.lt_or_ge z b with k | k
    · exact k
    · exact absurd (by rw [show z = b by have := q.1; omega] at q; exact q.2) hn, q.2⟩⟩)
theorem scS_he {N : Nat} {L : Nat → Bool} {V : Nat → Int} {a : Nat} {y : Int} {b : Nat} (hn : lbS N L V a y b) (z : Nat) : scS N L V a y (b + 1) z ↔ scS N L V a y b z ∨ z = b := by
  constructor
  · rintro ⟨q1, q2⟩
    rcases Nat.lt_or_ge z b with k | k
    · exact Or.inl ⟨k, q2⟩
    · exact Or.inr (by omega)
  · rintro (⟨q1, q2⟩ | rfl)
    · exact ⟨by omega, q2⟩
    · exact ⟨by omega, hn⟩
theorem scS_ub {N : Nat} {L : Nat → Bool} {V : Nat → Int} {a : Nat} {y : Int} {b : Nat} {c : Nat → Nat} {v : Nat} (hc : cOk c) (hN : N ≤ 10) (h : Lst (scS N L V a y b) (fun b => costU c b N) (some v)) : v ≤ 10000000 := by
  obtain ⟨⟨z, -, rfl⟩, -⟩ := h
  exact cost_le hc hN
theorem scS_end {N : Nat} {L : Nat → Bool} {V : Nat → Int} {a : Nat} {y : Int} {c : Nat → Nat} {o : Option Nat} (h : Lst (scS N L V a y (2 ^ N)) c o) : Lst (lbS N L V a y) c o :=
  h.ext (fun z => ⟨fun q => q.2, fun q => ⟨q.1, q⟩⟩)
theorem dear_M {d n : Nat} {σ : St} {w : Wd} {a : Int32} (hn : FIX ≤ n) (hd : 9 ≤ d) (hM : MG σ w) (hw : WW w) : Cn d n M_X12_dear md_X12_dear [.ref 11, .int a] σ (liI (fun v σ' => dearA w a v ∧ MG σ' w)) := by
  have hN := hw.N
  have hpw := pow10 hN
  have hP := hw.P
  have hc := pr_ok hw
  refine S_X12_dear hn (by omega) ⟨fun h => ?_, fun h => ⟨Or.inl ⟨fun z => absurd h ((pers_nI hM.1 hw).mpr z), rfl⟩, hM⟩⟩
  obtain ⟨j, hj, rfl⟩ := (pers_nI hM.1 hw).mp h
  generalize hQ : (fun (v : Int32) (σ' : St) => dearA w (nI j) v ∧ MG σ' w) = Q
  refine ⟨_, told_MT hn (by omega) hM hw, fun σ1 h1 _ => ⟨_, buysBy_MT hn (by omega) h1 hw hc hj, fun v σ2 ⟨h2, _, _, hb⟩ _ => ?_⟩⟩
  generalize hy : optV (VM w j) (buyO w (LM w) (VM w) w.pr j) = y at hb
  have loop : ∀ b, b ≤ 2 ^ w.N → ∀ (o : Option Nat) (σ3 : St), MT σ3 w w.pr → (gI σ3 11 41).toInt = y → Lst (scS w.N (LM w j) (VM w j) 0 y b) (fun b => costU w.pr b w.N) o → K_X12_dear_25 d n σ Q σ3 (nI j) (optI o) (nI b) := by
    refine up_ind (N := 2 ^ w.N) ?_ ?_
    · intro o σ3 h3 hb3 hL
      refine B_X12_dear_25 hn (by omega) ⟨fun _ => ⟨fun hx => ⟨vp_in_nI (by omega) (by decide), ?_⟩, fun hx => ?_⟩, fun h => absurd (by rw [shl_N h3.1 hw]; exact nI_le (Nat.le_refl _) (by omega)) h⟩
      · cases o with
        | none => exact absurd rfl hx
        | some x =>
          rw [← hQ, nI_clamp (by omega), (h3.1.per j (by omega)).1]
          exact ⟨Or.inr ⟨j, hj, rfl, some x, by rw [hy]; exact scS_end hL, rfl⟩, h3.g⟩
      · cases o with
        | none =>
          rw [← hQ]
          exact ⟨Or.inr ⟨j, hj, rfl, none, by rw [hy]; exact scS_end hL, rfl⟩, h3.g⟩
        | some x => exact absurd hx (optI_ne (by have := scS_ub hc hN hL; omega))
    · intro b hb1 ih o σ3 h3 hb3 hL
      obtain ⟨l1, l2⟩ := lawM h3 hw hj (b := b) (by omega)
      obtain ⟨w1, w2⟩ := worM h3 hw hj (b := b) (by omega)
      have hcb := cost_le (b := b) hc hN
      refine B_X12_dear_25 hn (by omega) ⟨fun h => absurd (by rw [shl_N h3.1 hw] at h; exact h) (nI_ge hb1 (by omega)), fun _ => ⟨l1, fun hl => ?_, fun hl => ⟨w1, fun hv => ?_, fun hv => ?_⟩⟩⟩
      · rw [nI_1]
        refine ih o σ3 h3 hb3 (scS_no hL ?_)
        rintro ⟨-, q, -⟩; rw [l2.mp hl] at q; cases q
      · rw [nI_1]
        refine ih o σ3 h3 hb3 (scS_no hL ?_)
        rintro ⟨-, -, q, -⟩
        have := le_ti.mp hv
        rw [w2, hb3] at this; omega
      · have hs : lbS w.N (LM w j) (VM w j) 0 y b := by
          refine ⟨hb1, ?_, ?_, by simp⟩
          · cases hz : LM w j b with
            | true => rfl
            | false => exact absurd (l2.mpr hz) hl
          · have : ¬ (fn_X12_worthOf σ3 (nI j) (nI b)).toInt ≤ (gI σ3 11 41).toInt := fun z => hv (le_ti.mpr z)
            rw [w2, hb3] at this; omega
        have hcost := costOf_spec (d := d - 1) hn (by omega) h3.1.N hw h3.2.2.2 hc (b := b) (by omega)
        rw [nI_1]
        refine ⟨fun hx => ⟨_, hcost, ?_⟩, fun hx => ⟨_, hcost, ?_⟩⟩
        · rintro v9 σ8 ⟨rfl, rfl⟩ -
          refine ih (some (costU w.pr b w.N)) σ3 h3 hb3 (hL.step_yes (scS_he hs) (fun v hv => ?_))
          rw [hv] at hx hL
          exact absurd hx (optI_ne (by have := scS_ub hc hN hL; omega))
        · rintro v9 σ8 ⟨rfl, rfl⟩ -
          cases o with
          | none => exact absurd rfl hx
          | some x =>
            have hub := scS_ub hc hN hL
            refine ⟨fun hle => ih (some x) σ3 h3 hb3 (hL.step_no (scS_he hs) ⟨x, rfl, (nI_lef (by omega) (by omega)).mp hle⟩), fun hle => ⟨_, hcost, ?_⟩⟩
            rintro v22 σ21 ⟨rfl, rfl⟩ -
            refine ih (some (costU w.pr b w.N)) σ3 h3 hb3 (hL.step_yes (scS_he hs) (fun v hv => ?_))
            cases hv
            have : ¬ x ≤ costU w.pr b w.N := fun z => hle ((nI_lef (by omega) (by omega)).mpr z)
            omega
  refine loop 0 (Nat.zero_le _) none σ2 h2 (by rw [hb]) (fun z => ?_)
  rintro ⟨h, -⟩; omega
/-- why: what the answer is -/
def whyI (w : Wd) (j l : Nat) (o : Option Nat) : Nat := if (∃ b, buyO w (LM w) (VM w) w.pr j = some b ∧ b.testBit l = true) then 0 else if (∃ b, b < 2 ^ w.N ∧ LM w j b = true ∧ b.testBit l = true) then (if o = none then 2 else 3) else 1
theorem tb_and {b l : Nat} : b &&& 2 ^ l = 2 ^ l ↔ b.testBit l = true := by
  constructor
  · intro h
    have := congrArg (fun x => x.testBit l) h
    simpa [Nat.testBit_and, Nat.testBit_two_pow] using this
  · intro h
    apply Nat.eq_of_testBit_eq
    intro i
    rw [Nat.testBit_and, Nat.testBit_two_pow]
    by_cases e : l = i
    · subst e; simp [h]
    · simp [e]
def whyA (w : Wd) (a1 a2 a3 v : Int32) : Prop := (¬ ((∃ j, j < w.P ∧ a1 = nI j) ∧ (∃ l, l < w.N ∧ a2 = nI l) ∧ (a3 = 0 ∨ a3 = 1))) ∧ v = -1 ∨
  ∃ j l, j < w.P ∧ a1 = nI j ∧ l < w.N ∧ a2 = nI l ∧ ∃ o, Lst (lbS w.N (LM w j) (VM w j) (2 ^ l) (optV (VM w j) (buyO w (LM w) (VM w) w.pr j))) (fun b => costU w.pr b w.N) o ∧
    (a3 = 0 ∧ v = nI (whyI w j l o) ∨ a3 = 1 ∧ v = if whyI w j l o = 3 then optS o (w.pu j) else -1)
theorem isIn01 {a : Int32} : fn_X12_isIn a 0 1 ≠ 0 ↔ a = 0 ∨ a = 1 := by
  rw [isIn_nI (K := 2) (by decide) (by decide)]
  constructor
  · rintro ⟨j, h, rfl⟩
    rcases (show j = 0 ∨ j = 1 by omega) with rfl | rfl
    · exact Or.inl rfl
    · exact Or.inr rfl
  · rintro (rfl | rfl)
    · exact ⟨0, by decide, rfl⟩
    · exact ⟨1, by decide, rfl⟩
theorem why_M {d n : Nat} {σ : St} {w : Wd} {a1 a2 a3 : Int32} (hn : FIX ≤ n) (hd : 9 ≤ d) (hM : MG σ w) (hw : WW w) : Cn d n M_X12_why md_X12_why [.ref 11, .int a1, .int a2, .int a3] σ (liI (fun v σ' => whyA w a1 a2 a3 v ∧ MG σ' w)) := by
  have hN := hw.N
  have hpw := pow10 hN
  have hP := hw.P
  have hc := pr_ok hw
  refine S_X12_why hn (by omega) ⟨fun h => ⟨Or.inl ⟨fun z => absurd h ((pers_nI hM.1 hw).mpr z.1), rfl⟩, hM⟩, fun h => ⟨fun h' => ⟨Or.inl ⟨fun z => absurd h' ((less_nI hM.1 hw).mpr z.2.1), rfl⟩, hM⟩, fun h' => ⟨fun h3 => ?_, fun h3 => ⟨Or.inl ⟨fun z => absurd h3 (isIn01.mpr z.2.2), rfl⟩, hM⟩⟩⟩⟩
  obtain ⟨j, hj, rfl⟩ := (pers_nI hM.1 hw).mp h
  obtain ⟨l, hl, rfl⟩ := (less_nI hM.1 hw).mp h'
  have h3 := isIn01.mp h3
  generalize hQ : (fun (v : Int32) (σ' : St) => whyA w (nI j) (nI l) a3 v ∧ MG σ' w) = Q
  refine ⟨_, told_MT hn (by omega) hM hw, fun σ1 h1 _ => ⟨_, buysBy_MT hn (by omega) h1 hw hc hj, fun v σ2 ⟨h2, hv, _, hb⟩ _ => ?_⟩⟩
  generalize hy : optV (VM w j) (buyO w (LM w) (VM w) w.pr j) = y at hb
  generalize gI σ2 11 41 = y32 at hb
  have hbl : ∀ b, buyO w (LM w) (VM w) w.pr j = some b → b < 1024 := fun b hb => by have := (bestU_lt hb).1; omega
  have loop : ∀ b, b ≤ 2 ^ w.N → ∀ (o : Option Nat) (s : Int32) (σ3 : St), MT σ3 w w.pr → (s = 0 ∧ (∀ z, z < b → LM w j z = true → ¬ z.testBit l = true) ∨ s = 1 ∧ ∃ z, z < 2 ^ w.N ∧ LM w j z = true ∧ z.testBit l = true) → Lst (scS w.N (LM w j) (VM w j) (2 ^ l) y b) (fun b => costU w.pr b w.N) o → K_X12_why_53 d n σ Q σ3 (nI j) (nI l) a3 v y32 s (optI o) (nI b) := by
    refine up_ind (N := 2 ^ w.N) ?_ ?_
    · intro o s σ3 h4 hs hL
      have fin : ∀ x : Int32, (a3 = 0 ∧ x = nI (whyI w j l o) ∨ a3 = 1 ∧ x = if whyI w j l o = 3 then optS o (w.pu j) else -1) → Q x σ3 := by
        intro x hx
        rw [← hQ]
        exact ⟨Or.inr ⟨j, l, hj, rfl, hl, rfl, o, by rw [hy]; exact scS_end hL, hx⟩, h4.g⟩
      have a31 : a3 ≠ 0 → a3 = 1 := fun z => h3.resolve_left z
      have lst : whyI w j l o = 0 → ((a3 ≠ 0 → ((0 : Int32) ≠ 3 → Q (-1) σ3) ∧ ((0 : Int32) = 3 → vp_in (nI j) 8 ∧ Q (optI o - gI σ3 47 (nI j).toNatClampNeg) σ3)) ∧ (a3 = 0 → Q 0 σ3)) := fun e => ⟨fun z => ⟨fun _ => fin _ (Or.inr ⟨a31 z, by rw [e]; rfl⟩), fun q => absurd q (by decide)⟩, fun z => fin _ (Or.inl ⟨z, by rw [e]; rfl⟩)⟩
      have rest : ¬ (∃ b, buyO w (LM w) (VM w) w.pr j = some b ∧ b.testBit l = true) → ((s ≠ 0 → ((optI o ≠ -1 → ((a3 ≠ 0 → (((3 : Int32) ≠ 3 → Q (-1) σ3) ∧ ((3 : Int32) = 3 → vp_in (nI j) 8 ∧ Q (optI o - (gI σ3 47 (nI j).toNatClampNeg)) σ3))) ∧ (a3 = 0 → Q 3 σ3))) ∧ (optI o = -1 → ((a3 ≠ 0 → (((2 : Int32) ≠ 3 → Q (-1) σ3) ∧ ((2 : Int32) = 3 → vp_in (nI j) 8 ∧ Q (optI o - (gI σ3 47 (nI j).toNatClampNeg)) σ3))) ∧ (a3 = 0 → Q 2 σ3))))) ∧ (s = 0 → ((a3 ≠ 0 → (((1 : Int32) ≠ 3 → Q (-1) σ3) ∧ ((1 : Int32) = 3 → vp_in (nI j) 8 ∧ Q (optI o - (gI σ3 47 (nI j).toNatClampNeg)) σ3))) ∧ (a3 = 0 → Q 1 σ3)))) := by
        intro hno
        refine ⟨fun hs1 => ⟨fun ho => ?_, fun ho => ?_⟩, fun hs0 => ?_⟩
        · have hsm := (hs.resolve_left (fun z => hs1 z.1)).2
          have e : whyI w j l o = 3 := by
            unfold whyI; rw [if_neg hno, if_pos hsm, if_neg (fun z => ho (by rw [z]; rfl))]
          refine ⟨fun z => ⟨fun q => absurd rfl q, fun _ => ⟨vp_in_nI (by omega) (by decide), fin _ (Or.inr ⟨a31 z, ?_⟩)⟩⟩, fun z => fin _ (Or.inl ⟨z, by rw [e]; rfl⟩)⟩
          rw [if_pos e, nI_clamp (by omega), (h4.1.per j (by omega)).1]
          cases o with
          | none => exact absurd rfl ho
          | some x => rfl
        · have hsm := (hs.resolve_left (fun z => hs1 z.1)).2
          have ho' : o = none := by
            cases o with
            | none => rfl
            | some x => exact absurd ho (optI_ne (by have := scS_ub hc hN hL; omega))
          have e : whyI w j l o = 2 := by
            unfold whyI; rw [if_neg hno, if_pos hsm, if_pos ho']
          exact ⟨fun z => ⟨fun _ => fin _ (Or.inr ⟨a31 z, by rw [e]; rfl⟩), fun q => absurd q (by decide)⟩, fun z => fin _ (Or.inl ⟨z, by rw [e]; rfl⟩)⟩
        · have hsm : ¬ ∃ b, b < 2 ^ w.N ∧ LM w j b = true ∧ b.testBit l = true := by
            rcases hs with ⟨-, q⟩ | ⟨q, -⟩
            · rintro ⟨z, z1, z2, z3⟩; exact q z z1 z2 z3
            · rw [q] at hs0; exact absurd hs0 (by decide)
          have e : whyI w j l o = 1 := by
            unfold whyI; rw [if_neg hno, if_neg hsm]
          exact ⟨fun z => ⟨fun _ => fin _ (Or.inr ⟨a31 z, by rw [e]; rfl⟩), fun q => absurd q (by decide)⟩, fun z => fin _ (Or.inl ⟨z, by rw [e]; rfl⟩)⟩
      refine B_X12_why_53 hn (by omega) ⟨fun _ => ⟨fun hx => rest ?_, fun hx => ⟨fun hz => rest ?_, fun hz => lst ?_⟩⟩, fun h => absurd (by rw [shl_N h4.1 hw]; exact nI_le (Nat.le_refl _) (by omega)) h⟩
      · rintro ⟨b, q1, q2⟩
        rw [hv, q1] at hx
        exact optI_ne (by have := hbl b q1; omega) hx
      · rintro ⟨b, q1, q2⟩
        rw [hv, q1] at hz
        have := hold_nI (b := b) (l := l) (by have := hbl b q1; omega) (by omega)
        rw [show optI (some b) = nI b from rfl, this, q2] at hz
        exact absurd hz (by decide)
      · cases ho : buyO w (LM w) (VM w) w.pr j with
        | none => rw [hv, ho] at hx; exact absurd rfl hx
        | some b =>
          unfold whyI
          refine if_pos ⟨b, ho, ?_⟩
          rw [hv, ho] at hz
          have := hold_nI (b := b) (l := l) (by have := hbl b ho; omega) (by omega)
          rw [show optI (some b) = nI b from rfl, this] at hz
          cases q : b.testBit l with
          | true => rfl
          | false => rw [q] at hz; exact absurd rfl hz
    · intro b hb1 ih o s σ3 h4 hs hL
      obtain ⟨l1, l2⟩ := lawM h4 hw hj (b := b) (by omega)
      obtain ⟨w1, w2⟩ := worM h4 hw hj (b := b) (by omega)
      have hcb := cost_le (b := b) hc hN
      have hh := hold_nI (b := b) (l := l) (by omega) (by omega)
      refine B_X12_why_53 hn (by omega) ⟨fun h => absurd (by rw [shl_N h4.1 hw] at h; exact h) (nI_ge hb1 (by omega)), fun _ => ⟨fun hz => ?_, fun hz => ⟨l1, fun hlw => ⟨w1, fun hv => ?_, fun hv => ?_⟩, fun hlw => ?_⟩⟩⟩
      · have ht : ¬ b.testBit l = true := fun q => by rw [hh, q] at hz; exact absurd hz (by decide)
        rw [nI_1]
        refine ih o s σ3 h4 (hs.imp (fun q => ⟨q.1, fun z zb => ?_⟩) id) (scS_no hL (fun q => ht (tb_and.mp q.2.2.2)))
        rcases Nat.lt_or_ge z b with k | k
        · exact q.2 z k
        · intro _; rw [show z = b by omega]; exact ht
      · have ht : b.testBit l = true := by
          cases q : b.testBit l with
          | true => rfl
          | false => rw [hh, q] at hz; exact absurd rfl hz
        have hlt : LM w j b = true := by
          cases q : LM w j b with
          | true => rfl
          | false => exact absurd (l2.mpr q) hlw
        rw [nI_1]
        refine ih o 1 σ3 h4 (Or.inr ⟨rfl, b, hb1, hlt, ht⟩) (scS_no hL (fun q => ?_))
        have := le_ti.mp hv
        have := q.2.2.1
        rw [w2, hb] at *; omega
      · have ht : b.testBit l = true := by
          cases q : b.testBit l with
          | true => rfl
          | false => rw [hh, q] at hz; exact absurd rfl hz
        have hlt : LM w j b = true := by
          cases q : LM w j b with
          | true => rfl
          | false => exact absurd (l2.mpr q) hlw
        have hsb : lbS w.N (LM w j) (VM w j) (2 ^ l) y b := by
          refine ⟨hb1, hlt, ?_, tb_and.mpr ht⟩
          have : ¬ (fn_X12_worthOf σ3 (nI j) (nI b)).toInt ≤ y32.toInt := fun z => hv (le_ti.mpr z)
          rw [w2, hb] at this; omega
        have hcost := costOf_spec (d := d - 1) hn (by omega) h4.1.N hw h4.2.2.2 hc (b := b) (by omega)
        rw [nI_1]
        refine ⟨fun hx => ⟨_, hcost, ?_⟩, fun hx => ⟨_, hcost, ?_⟩⟩
        · rintro v9 σ8 ⟨rfl, rfl⟩ -
          refine ih (some (costU w.pr b w.N)) 1 σ3 h4 (Or.inr ⟨rfl, b, hb1, hlt, ht⟩) (hL.step_yes (scS_he hsb) (fun v hv => ?_))
          rw [hv] at hx hL
          exact absurd hx (optI_ne (by have := scS_ub hc hN hL; omega))
        · rintro v9 σ8 ⟨rfl, rfl⟩ -
          cases o with
          | none => exact absurd rfl hx
          | some x =>
            have hub := scS_ub hc hN hL
            refine ⟨fun hle => ih (some x) 1 σ3 h4 (Or.inr ⟨rfl, b, hb1, hlt, ht⟩) (hL.step_no (scS_he hsb) ⟨x, rfl, (nI_lef (by omega) (by omega)).mp hle⟩), fun hle => ⟨_, hcost, ?_⟩⟩
            rintro v22 σ21 ⟨rfl, rfl⟩ -
            refine ih (some (costU w.pr b w.N)) 1 σ3 h4 (Or.inr ⟨rfl, b, hb1, hlt, ht⟩) (hL.step_yes (scS_he hsb) (fun v hv => ?_))
            cases hv
            have : ¬ x ≤ costU w.pr b w.N := fun z => hle ((nI_lef (by omega) (by omega)).mpr z)
            omega
      · have hlf := l2.mp hlw
        rw [nI_1]
        refine ih o s σ3 h4 (hs.imp (fun q => ⟨q.1, fun z zb => ?_⟩) id) (scS_no hL (fun q => ?_))
        · rcases Nat.lt_or_ge z b with k | k
          · exact q.2 z k
          · intro hz2; rw [show z = b by omega, hlf] at hz2; cases hz2
        · have := q.2.1; rw [hlf] at this; cases this
  refine loop 0 (Nat.zero_le _) none 0 σ2 h2 (Or.inl ⟨rfl, fun z hz => absurd hz (by omega)⟩) (fun z => ?_)
  rintro ⟨h, -⟩; omega
