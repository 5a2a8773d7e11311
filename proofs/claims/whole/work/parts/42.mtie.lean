/-! ===== the model: ties, edge ===== -/
def tieT (w : Wd) (L : Nat → Nat → Bool) (V : Nat → Nat → Int) (c : Nat → Nat) (j x b : Nat) : Bool := L j b && (decide (b ≠ x) && (decide (V j b = V j x) && decide (costU c b w.N ≤ w.pu j)))
def tiesA (w : Wd) (a v : Int32) : Prop := (¬ ∃ j, j < w.P ∧ a = nI j) ∧ v = -1 ∨ ∃ j, j < w.P ∧ a = nI j ∧ v = optI ((buyO w (LM w) (VM w) w.pr j).map (fun x => cntS (tieT w (LM w) (VM w) w.pr j x) (2 ^ w.N)))
theorem one0 (x : Int32) : x + fn_X12_one 0 = x := by
  show x + 0 = x; simp
theorem one1 (k : Nat) : nI k + fn_X12_one 1 = nI (k + 1) := nI_1 k
theorem ties_M {d n : Nat} {σ : St} {w : Wd} {a : Int32} (hn : FIX ≤ n) (hd : 9 ≤ d) (hM : MG σ w) (hw : WW w) : Cn d n M_X12_ties md_X12_ties [.ref 11, .int a] σ (liI (fun v σ' => tiesA w a v ∧ MG σ' w)) := by
  have hN := hw.N
  have hpw := pow10 hN
  have hP := hw.P
  have hc := pr_ok hw
  refine S_X12_ties hn (by omega) ⟨fun h => ?_, fun h => ⟨Or.inl ⟨fun z => absurd h ((pers_nI hM.1 hw).mpr z), rfl⟩, hM⟩⟩
  obtain ⟨j, hj, rfl⟩ := (pers_nI hM.1 hw).mp h
  have hpu := hw.pu j
  generalize hQ : (fun (v : Int32) (σ' : St) => tiesA w (nI j) v ∧ MG σ' w) = Q
  refine ⟨_, told_MT hn (by omega) hM hw, fun σ1 h1 _ => ⟨_, buysBy_MT hn (by omega) h1 hw hc hj, fun v σ2 ⟨h2, hv, _, hb⟩ _ => ?_⟩⟩
  have loop : ∀ b, b ≤ 2 ^ w.N → ∀ (x3 : Int32) (σ3 : St), MT σ3 w w.pr → gI σ3 11 41 = gI σ2 11 41 → (∀ x, buyO w (LM w) (VM w) w.pr j = some x → x3 = nI (cntS (tieT w (LM w) (VM w) w.pr j x) b)) → K_X12_ties_25 d n σ Q σ3 (nI j) v x3 (nI b) := by
    refine up_ind (N := 2 ^ w.N) ?_ ?_
    · intro x3 σ3 h3 hb3 hx
      refine B_X12_ties_25 hn (by omega) ⟨fun _ => ⟨fun hz => ?_, fun hz => ?_⟩, fun h => absurd (by rw [shl_N h3.1 hw]; exact nI_le (Nat.le_refl _) (by omega)) h⟩
      · cases ho : buyO w (LM w) (VM w) w.pr j with
        | none => rw [hv, ho] at hz; exact absurd rfl hz
        | some x =>
          rw [← hQ]
          refine ⟨Or.inr ⟨j, hj, rfl, ?_⟩, h3.g⟩
          rw [ho]; exact hx x ho
      · cases ho : buyO w (LM w) (VM w) w.pr j with
        | none =>
          rw [← hQ]
          refine ⟨Or.inr ⟨j, hj, rfl, ?_⟩, h3.g⟩
          rw [ho]; rfl
        | some x =>
          rw [hv, ho] at hz
          exact absurd hz (optI_ne (by have := (bestU_lt ho).1; omega))
    · intro b hb1 ih x3 σ3 h3 hb3 hx
      obtain ⟨l1, l2⟩ := lawM h3 hw hj (b := b) (by omega)
      obtain ⟨w1, w2⟩ := worM h3 hw hj (b := b) (by omega)
      have hcb := cost_le (b := b) hc hN
      have no : (∀ x, buyO w (LM w) (VM w) w.pr j = some x → tieT w (LM w) (VM w) w.pr j x b = false) → K_X12_ties_25 d n σ Q σ3 (nI j) v (x3 + fn_X12_one 0) (nI b + 1) := by
        intro hf
        rw [one0, nI_1]
        refine ih x3 σ3 h3 hb3 (fun x q => ?_)
        rw [hx x q]; simp only [cntS, hf x q]; rfl
      refine B_X12_ties_25 hn (by omega) ⟨fun h => absurd (by rw [shl_N h3.1 hw] at h; exact h) (nI_ge hb1 (by omega)), fun _ => ⟨fun e => no (fun x q => ?_), fun e => ⟨l1, fun hl => no (fun x q => ?_), fun hl => ⟨_, costOf_spec (d := d - 1) hn (by omega) h3.1.N hw h3.2.2.2 hc (b := b) (by omega), ?_⟩⟩⟩⟩
      · rw [hv, q] at e
        have := (nI_eq (a := b) (b := x) (by omega) (by have := (bestU_lt q).1; omega)).mp e
        unfold tieT; simp [this]
      · unfold tieT; rw [l2.mp hl]; rfl
      · rintro v8 σ7 ⟨rfl, rfl⟩ -
        refine ⟨vp_in_nI (by omega) (by decide), ?_⟩
        rw [nI_clamp (by omega), (h3.1.per j (by omega)).1]
        refine ⟨fun hlt => no (fun x q => ?_), fun hlt => ⟨w1, fun hne => no (fun x q => ?_), fun heq => ?_⟩⟩
        · have h1 := lt_ti.mp hlt
          rw [nI_toInt (by omega), nI_toInt (by omega)] at h1
          unfold tieT; simp [show ¬ costU w.pr b w.N ≤ w.pu j by omega]
        · have : VM w j b ≠ VM w j x := fun z => hne (eq_ti.mpr (by rw [w2, hb3, hb, q]; exact z))
          unfold tieT; simp [this]
        · rw [nI_1]
          have hle : costU w.pr b w.N ≤ w.pu j := by
            rcases Nat.lt_or_ge (w.pu j) (costU w.pr b w.N) with z | z
            · exact absurd (nI_lt z (by omega)) hlt
            · exact z
          refine ih _ σ3 h3 hb3 (fun x q => ?_)
          have hL : LM w j b = true := by
            cases hz : LM w j b with
            | true => rfl
            | false => exact absurd (l2.mpr hz) hl
          have hne : b ≠ x := fun z => e (by rw [hv, q, z]; rfl)
          have hV : VM w j b = VM w j x := by rw [← w2, heq, hb3, hb, q]; rfl
          have ht : tieT w (LM w) (VM w) w.pr j x b = true := by unfold tieT; simp [hL, hne, hV, hle]
          rw [hx x q, one1]; simp only [cntS, ht]; rfl
  exact loop 0 (Nat.zero_le _) 0 σ2 h2 rfl (fun x _ => rfl)
/-- a row with one price changed -/
def setC (c : Nat → Nat) (l v : Nat) : Nat → Nat := fun k => if k = l then v else c k
def edgeT (w : Wd) (j l v : Nat) : Prop := ∃ b, buyO w (LM w) (VM w) (setC w.pr l v) j = some b ∧ b.testBit l = true
def edgeA (w : Wd) (a1 a2 v : Int32) : Prop := (¬ ((∃ j, j < w.P ∧ a1 = nI j) ∧ ∃ l, l < w.N ∧ a2 = nI l)) ∧ v = -1 ∨
  ∃ j l, j < w.P ∧ a1 = nI j ∧ l < w.N ∧ a2 = nI l ∧ ((∀ x, x ≤ 250 → edgeT w j l x) ∧ v = -1 ∨ ∃ x, x ≤ 250 ∧ v = nI x ∧ ¬ edgeT w j l x ∧ ∀ y, y < x → edgeT w j l y)
theorem MT.now {σ : St} {w : Wd} {c c' : Nat → Nat} {l v : Nat} (h : MT σ w c) (hc : ∀ k, k < 10 → c' k = if k = l then v else c k) : MT (sI σ 63 l (nI v)) w c' := by
  refine ⟨h.1.fr (fun q k hk => gI_sI_ne ?_), ?_, fun r hr => (h.2.2.1 r hr).fr (fun k _ _ => ⟨gI_sI_ne (by omega), gI_sI_ne (by omega)⟩), fun k hk => ?_⟩
  · unfold keepM at hk; omega
  · rw [gI_sI_ne (by omega)]; exact h.2.1
  · rw [gI_sI, hc k hk]
    by_cases e : k = l
    · rw [if_pos ⟨rfl, e⟩, if_pos e]
    · rw [if_neg (fun z => e z.2), if_neg e]; exact h.2.2.2 k hk
theorem edge_M {d n : Nat} {σ : St} {w : Wd} {a1 a2 : Int32} (hn : FIX ≤ n) (hd : 9 ≤ d) (hM : MG σ w) (hw : WW w) : Cn d n M_X12_edge md_X12_edge [.ref 11, .int a1, .int a2] σ (liI (fun v σ' => edgeA w a1 a2 v ∧ MG σ' w)) := by
  have hN := hw.N
  have hpw := pow10 hN
  have hP := hw.P
  have hc := pr_ok hw
  refine S_X12_edge hn (by omega) ⟨fun h => ⟨Or.inl ⟨fun z => absurd h ((pers_nI hM.1 hw).mpr z.1), rfl⟩, hM⟩, fun h => ⟨fun h' => ?_, fun h' => ⟨Or.inl ⟨fun z => absurd h' ((less_nI hM.1 hw).mpr z.2), rfl⟩, hM⟩⟩⟩
  obtain ⟨j, hj, rfl⟩ := (pers_nI hM.1 hw).mp h
  obtain ⟨l, hl, rfl⟩ := (less_nI hM.1 hw).mp h'
  generalize hQ : (fun (v : Int32) (σ' : St) => edgeA w (nI j) (nI l) v ∧ MG σ' w) = Q
  refine ⟨_, told_MT hn (by omega) hM hw, fun σ1 h1 _ => ?_⟩
  have loop : ∀ x, x ≤ 251 → ∀ (c : Nat → Nat) (σ3 : St), MT σ3 w c → (∀ k, k ≠ l → c k = w.pr k) → (∀ y, y < x → edgeT w j l y) → K_X12_edge_24 d n σ Q σ3 (nI j) (nI l) (nI x) := by
    refine up_ind (N := 251) ?_ ?_
    · intro c σ3 h3 _ hy
      refine B_X12_edge_24 hn (by omega) ⟨fun _ => ?_, fun h => absurd (by decide) h⟩
      rw [← hQ]
      exact ⟨Or.inr ⟨j, l, hj, rfl, hl, rfl, Or.inl ⟨fun x hx => hy x (by omega), rfl⟩⟩, h3.g⟩
    · intro x hx ih c σ3 h3 hcc hy
      have h4 := h3.now (l := l) (v := x) (c' := setC w.pr l x) (fun k hk => by
        unfold setC
        by_cases e : k = l
        · rw [if_pos e, if_pos e]
        · rw [if_neg e, if_neg e, hcc k e])
      have hcs : cOk (setC w.pr l x) := fun k hk => by
        unfold setC; have := hw.pr k; split <;> omega
      refine B_X12_edge_24 hn (by omega) ⟨fun h => absurd (lt_ti.mp h) ?_, fun _ => ⟨vp_in_nI (by omega) (by decide), ?_⟩⟩
      · rw [nI_toInt (by omega), show (250 : Int32).toInt = 250 by decide]; omega
      rw [nI_clamp (by omega)]
      refine ⟨_, buysBy_MT hn (by omega) h4 hw hcs hj, fun v σ5 ⟨h5, hv, _, _⟩ _ => ?_⟩
      have fin : ¬ edgeT w j l x → Q (nI x) σ5 := fun h => by
        rw [← hQ]
        exact ⟨Or.inr ⟨j, l, hj, rfl, hl, rfl, Or.inr ⟨x, by omega, rfl, h, hy⟩⟩, h5.g⟩
      refine ⟨fun hz => fin ?_, fun hz => ⟨fun hh => ?_, fun hh => fin ?_⟩⟩
      · rintro ⟨b, q1, q2⟩
        rw [hv, q1] at hz
        exact optI_ne (by have := (bestU_lt q1).1; omega) hz
      · rw [nI_1]
        refine ih (setC w.pr l x) σ5 h5 (fun k hk => if_neg hk) (fun y hyx => ?_)
        rcases Nat.lt_or_ge y x with k | k
        · exact hy y k
        · rw [show y = x by omega]
          cases ho : buyO w (LM w) (VM w) (setC w.pr l x) j with
          | none => rw [hv, ho] at hz; exact absurd rfl hz
          | some b =>
            refine ⟨b, ho, ?_⟩
            rw [hv, ho] at hh
            have := hold_nI (b := b) (l := l) (by have := (bestU_lt ho).1; omega) (by omega)
            rw [show optI (some b) = nI b from rfl, this] at hh
            cases q : b.testBit l with
            | true => rfl
            | false => rw [q] at hh; exact absurd rfl hh
      · rintro ⟨b, q1, q2⟩
        rw [hv, q1] at hh
        have := hold_nI (b := b) (l := l) (by have := (bestU_lt q1).1; omega) (by omega)
        rw [show optI (some b) = nI b from rfl, this, q2] at hh
        exact absurd hh (by decide)
  exact loop 0 (by decide) w.pr σ1 h1 (fun k _ => rfl) (fun y h => absurd h (by omega))
