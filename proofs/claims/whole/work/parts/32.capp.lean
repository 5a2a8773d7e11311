/-! ===== the component: the asker applies its code ===== -/
/-- the asker within a text: what it looked at, the pile, the total, the never -/
def AK (σ : St) (w : Wd) (j b : Nat) (s : List Int) (z : Int) (nv : Bool) : Prop := Lk σ w b ∧ gI σ 2 7 = nI (w.pu j) ∧ Stk σ s ∧ (gI σ 2 1).toInt = z ∧ gI σ 2 5 = (if nv = true then 1 else 0)
theorem AK.push {σ σ' : St} {w : Wd} {j b : Nat} {s s' : List Int} {z : Int} {nv : Bool} (h : AK σ w j b s z nv) (hf : Fr md_X0_push σ σ') (hs : Stk σ' s') : AK σ' w j b s' z nv := by
  obtain ⟨⟨l1, l2, l3, l4⟩, h2, -, h4, h5⟩ := h
  refine ⟨⟨?_, ?_, ?_, ?_⟩, ?_, hs, ?_, ?_⟩
  · rw [hf.cell (by decide)]; exact l1
  · rw [hf.cell (by decide)]; exact l2
  · rw [hf.cell (by decide)]; exact l3
  · rw [hf.cell (by decide)]; exact l4
  · rw [hf.cell (by decide)]; exact h2
  · rw [hf.cell (by decide)]; exact h4
  · rw [hf.cell (by decide)]; exact h5
theorem AK.pop {σ σ' : St} {w : Wd} {j b : Nat} {s s' : List Int} {z : Int} {nv : Bool} (h : AK σ w j b s z nv) (hf : Fr md_X0_pop σ σ') (hs : Stk σ' s') : AK σ' w j b s' z nv := h.push (hf.wk (Md_le (by decide))) hs
theorem AK.join {σ σ' : St} {w : Wd} {j b : Nat} {s s' : List Int} {z : Int} {nv : Bool} (h : AK σ w j b s z nv) (hf : Fr md_X0_joinTwo σ σ') (hs : Stk σ' s') : AK σ' w j b s' z nv := h.push (hf.wk (Md_le (by decide))) hs
theorem AK.stk {σ : St} {w : Wd} {j b : Nat} {s : List Int} {z : Int} {nv : Bool} (h : AK σ w j b s z nv) : Stk σ s := h.2.2.1
/-- one step by a kind's number: what it does with pile, total and never -/
def kSt (w : Wd) (j b k : Nat) (s : List Int) (z : Int) (nv : Bool) (s' : List Int) (z' : Int) (nv' : Bool) : Prop :=
  (8 ≤ k ∧ k ≤ 13 ∧ s' = wrd w j b (k - 8) :: s ∧ z' = z ∧ nv' = nv) ∨
  (k = 7 ∧ ∃ (a : Nat) (t : List Int), a < 10 ∧ s = (a : Int) :: t ∧ s' = (if b.testBit a = true then 1 else 0) :: t ∧ z' = z ∧ nv' = nv) ∨
  (k = 6 ∧ ∃ (x : Int) (t : List Int), (x = 0 ∨ x = 1) ∧ s = x :: t ∧ s' = (1 - x) :: t ∧ z' = z ∧ nv' = nv) ∨
  (∃ (x y : Int) (t : List Int), jOk k x y ∧ s = y :: x :: t ∧ s' = jop k x y :: t ∧ z' = z ∧ nv' = nv) ∨
  (k = 1 ∧ ∃ (c x : Int) (t : List Int), s = c :: x :: t ∧ s' = t ∧ (-1000000000 ≤ x ∧ x ≤ 1000000000) ∧ (-1000000 ≤ z ∧ z ≤ 1000000) ∧ z' = (if c ≠ 0 then hlW (z + x) else z) ∧ nv' = nv) ∨
  (k = 2 ∧ ∃ (c : Int) (t : List Int), s = c :: t ∧ s' = t ∧ z' = z ∧ nv' = (nv || decide (c ≠ 0)))
theorem apply_spec {d n k : Nat} {σ : St} {w : Wd} {j b : Nat} {s s' : List Int} {z z' : Int} {nv nv' : Bool} (hn : FIX ≤ n) (hd : 3 ≤ d) (hw : WW w) (hb : b < 1024) (h : AK σ w j b s z nv) (hl : s.length < 60) (hk : kSt w j b k s z nv s' z' nv') :
    Cn d n M_X0_apply md_X0_apply [.ref 2, .int (nI k)] σ (liV (fun σ' => AK σ' w j b s' z' nv')) := by
  have hkl : k < 100 := by
    rcases hk with h | h | h | ⟨x, y, t, h, -⟩ | h | h
    · omega
    · omega
    · omega
    · rcases h with h | h <;> omega
    · omega
    · omega
  have e : (nI k).toInt = k := nI_toInt (by omega)
  obtain ⟨⟨l1, l2, l3, l4⟩, hmo, -, hto, hne⟩ := id h
  have r1 := hrsU_le hw b w.N (Nat.le_refl _)
  have r2 : fst0 w b ≤ 40 := by
    have := fstU_le w b w.N
    unfold fst0; split <;> omega
  have r3 : lst w b ≤ 40 := lstU_le hw b w.N (Nat.le_refl _)
  have r4 := hw.N
  have r5 : hrs w b ≤ 400 := by unfold hrs; omega
  have push1 : ∀ (v : Int32) (sn : List Int), v.toInt :: s = sn → s' = sn → z' = z → nv' = nv → ∃ Q : St → Prop, Cn (d - 1) n M_X0_push md_X0_push [.ref 2, .int v] σ (liV Q) ∧ ∀ σ1, Q σ1 → Fr md_X0_push σ σ1 → AK σ1 w j b s' z' nv' := by
    intro v sn h1 h2 h3 h4
    refine ⟨_, push_spec hn h.stk (by omega), fun σ1 hs hf => ?_⟩
    rw [h2, ← h1, h3, h4]
    exact h.push hf hs
  have joinT : (∃ (x y : Int) (t : List Int), jOk k x y ∧ s = y :: x :: t ∧ s' = jop k x y :: t ∧ z' = z ∧ nv' = nv) → ∃ Q2 : Int32 → St → Prop, Cn (d - 1) n M_X0_pop md_X0_pop [.ref 2] σ (liI Q2) ∧ ∀ (v5 : Int32) (σ4 : St), Q2 v5 σ4 → Fr md_X0_pop σ σ4 → ∃ Q8 : Int32 → St → Prop, Cn (d - 1) n M_X0_pop md_X0_pop [.ref 2] σ4 (liI Q8) ∧ ∀ (v11 : Int32) (σ10 : St), Q8 v11 σ10 → Fr md_X0_pop σ4 σ10 → ∃ Q14 : St → Prop, Cn (d - 1) n M_X0_joinTwo md_X0_joinTwo [.ref 2, .int (nI k), .int v5, .int v11] σ10 (liV Q14) ∧ ∀ (σ16 : St), Q14 σ16 → Fr md_X0_joinTwo σ10 σ16 → AK σ16 w j b s' z' nv' := by
    rintro ⟨x, y, t, hj, rfl, rfl, rfl, rfl⟩
    simp at hl
    refine ⟨_, pop_spec hn h.stk (by simp; omega), ?_⟩
    rintro v5 σ4 ⟨hv5, hs4⟩ hf4
    have h4 := h.pop hf4 hs4
    refine ⟨_, pop_spec hn h4.stk (by omega), ?_⟩
    rintro v11 σ10 ⟨hv11, hs10⟩ hf10
    have h10 := h4.pop hf10 hs10
    refine ⟨_, joinTwo_spec hn (by omega) h10.stk (by omega) hv5 hv11 hj, ?_⟩
    intro σ16 hs16 hf16
    exact h10.join hf16 hs16
  refine S_X0_apply hn (by omega) ?_
  rw [e]
  refine ⟨fun q => ?_, fun q => ?_, fun q => ?_, fun q => ?_, fun q => ?_, fun q => ?_, fun q => ?_, fun q => ?_, fun q => ?_, fun q => ?_, fun q => ?_, fun q => ?_, fun q => ?_, fun q => ?_⟩
  · have hk1 : k = 1 := by omega
    subst hk1
    have hk' : ∃ (c x : Int) (t : List Int), s = c :: x :: t ∧ s' = t ∧ (-1000000000 ≤ x ∧ x ≤ 1000000000) ∧ (-1000000 ≤ z ∧ z ≤ 1000000) ∧ z' = (if c ≠ 0 then hlW (z + x) else z) ∧ nv' = nv := by
      rcases hk with h | h | h | ⟨x, y, t, h, -⟩ | h | h
      · omega
      · omega
      · omega
      · rcases h with h | h <;> omega
      · exact h.2
      · omega
    obtain ⟨c, x, t, rfl, rfl, hx, hz, hz', rfl⟩ := hk'
    simp at hl
    refine ⟨_, pop_spec hn h.stk (by simp; omega), ?_⟩
    rintro v5 σ4 ⟨hv5, hs4⟩ hf4
    have h4 := h.pop hf4 hs4
    have step : ∀ (a : Int32), (a = 0 ↔ c = 0) → ∃ Q27 : Int32 → St → Prop, Cn (d - 1) n M_X0_pop md_X0_pop [.ref 2] σ4 (liI Q27) ∧ ∀ (v30 : Int32) (σ29 : St), Q27 v30 σ29 → Fr md_X0_pop σ4 σ29 → ∃ Q33 : St → Prop, Cn (d - 1) n M_X0_addIf md_X0_addIf [.ref 2, .int a, .int v30] σ29 (liV Q33) ∧ ∀ (σ35 : St), Q33 σ35 → Fr md_X0_addIf σ29 σ35 → AK σ35 w j b s' z' nv' := by
      intro a ha
      refine ⟨_, pop_spec hn h4.stk (by omega), ?_⟩
      rintro v30 σ29 ⟨hv30, hs29⟩ hf29
      have h29 := h4.pop hf29 hs29
      refine ⟨_, addIf_spec hn (by omega) h29.2.2.2.1 hz hv30 hx, ?_⟩
      intro σ35 ht hf35
      obtain ⟨⟨m1, m2, m3, m4⟩, g2, g3, -, g5⟩ := h29
      refine ⟨⟨?_, ?_, ?_, ?_⟩, ?_, ⟨?_, fun i y hy => ?_⟩, ?_, ?_⟩
      · rw [hf35.cell (by decide)]; exact m1
      · rw [hf35.cell (by decide)]; exact m2
      · rw [hf35.cell (by decide)]; exact m3
      · rw [hf35.cell (by decide)]; exact m4
      · rw [hf35.cell (by decide)]; exact g2
      · rw [hf35.cell (by decide)]; exact g3.1
      · rw [hf35.row (by decide)]; exact g3.2 i y hy
      · rw [ht, hz']
        by_cases hc : c = 0
        · rw [if_pos (ha.mpr hc), if_neg (by simp [hc])]
        · rw [if_neg (fun q => hc (ha.mp q)), if_pos hc]
      · rw [hf35.cell (by decide)]; exact g5
    refine ⟨fun h0 => step 0 ⟨fun _ => by rw [← hv5, h0]; rfl, fun _ => rfl⟩, fun h0 => step 1 ⟨fun q => absurd q (by decide), fun q => absurd (eq_ti.mpr (by rw [hv5, q]; rfl)) h0⟩⟩
  · have hk1 : k = 2 := by omega
    subst hk1
    have hk' : ∃ (c : Int) (t : List Int), s = c :: t ∧ s' = t ∧ z' = z ∧ nv' = (nv || decide (c ≠ 0)) := by
      rcases hk with h | h | h | ⟨x, y, t, h, -⟩ | h | h
      · omega
      · omega
      · omega
      · rcases h with h | h <;> omega
      · omega
      · exact h.2
    obtain ⟨c, t, rfl, rfl, rfl, rfl⟩ := hk'
    simp at hl
    refine ⟨_, pop_spec hn h.stk (by omega), ?_⟩
    rintro v5 σ4 ⟨hv5, hs4⟩ hf4
    have h4 := h.pop hf4 hs4
    refine ⟨fun h0 => ?_, fun h0 => ?_⟩
    · have hc : c = 0 := by rw [← hv5, h0]; rfl
      rw [hc]; simpa using h4
    · have hc : c ≠ 0 := fun q => h0 (eq_ti.mpr (by rw [hv5, q]; rfl))
      obtain ⟨⟨m1, m2, m3, m4⟩, g2, g3, g4, g5⟩ := h4
      refine ⟨⟨?_, ?_, ?_, ?_⟩, ?_, ⟨?_, fun i y hy => ?_⟩, ?_, ?_⟩
      · rw [gI_sI_ne (by omega)]; exact m1
      · rw [gI_sI_ne (by omega)]; exact m2
      · rw [gI_sI_ne (by omega)]; exact m3
      · rw [gI_sI_ne (by omega)]; exact m4
      · rw [gI_sI_ne (by omega)]; exact g2
      · rw [gI_sI_ne (by omega)]; exact g3.1
      · rw [gI_sI_ne (by omega)]; exact g3.2 i y hy
      · rw [gI_sI_ne (by omega)]; exact g4
      · rw [gI_sI_same]; simp [hc]
  · have hk1 : k = 3 := by omega
    subst hk1
    exfalso
    rcases hk with h | h | h | ⟨x, y, t, h, -⟩ | h | h
    · omega
    · omega
    · omega
    · rcases h with h | h <;> omega
    · omega
    · omega
  · refine joinT ?_
    have hk1 : k = 4 := by omega
    subst hk1
    rcases hk with h | h | h | h | h | h
    · omega
    · omega
    · omega
    · exact h
    · omega
    · omega
  · refine joinT ?_
    have hk1 : k = 5 := by omega
    subst hk1
    rcases hk with h | h | h | h | h | h
    · omega
    · omega
    · omega
    · exact h
    · omega
    · omega
  · have hk1 : k = 6 := by omega
    subst hk1
    have hk' : ∃ (x : Int) (t : List Int), (x = 0 ∨ x = 1) ∧ s = x :: t ∧ s' = (1 - x) :: t ∧ z' = z ∧ nv' = nv := by
      rcases hk with h | h | h | ⟨x, y, t, h, -⟩ | h | h
      · omega
      · omega
      · exact h.2
      · rcases h with h | h <;> omega
      · omega
      · omega
    obtain ⟨x, t, hx, rfl, rfl, rfl, rfl⟩ := hk'
    simp at hl
    refine ⟨_, pop_spec hn h.stk (by omega), ?_⟩
    rintro v5 σ4 ⟨hv5, hs4⟩ hf4
    have h4 := h.pop hf4 hs4
    refine ⟨_, push_spec hn h4.stk (by omega), ?_⟩
    intro σ5 hs5 hf5
    have o1 : (1 : Int32).toInt = 1 := by decide
    have ev : (1 - v5).toInt = 1 - x := by rw [ti_sub] <;> rw [hv5, o1] <;> omega
    rw [ev] at hs5
    exact h4.push hf5 hs5
  · have hk1 : k = 7 := by omega
    subst hk1
    have hk' : ∃ (a : Nat) (t : List Int), a < 10 ∧ s = (a : Int) :: t ∧ s' = (if b.testBit a = true then 1 else 0) :: t ∧ z' = z ∧ nv' = nv := by
      rcases hk with h | h | h | ⟨x, y, t, h, -⟩ | h | h
      · omega
      · exact h.2
      · omega
      · rcases h with h | h <;> omega
      · omega
      · omega
    obtain ⟨a, t, ha, rfl, rfl, rfl, rfl⟩ := hk'
    simp at hl
    refine ⟨_, pop_spec hn h.stk (by omega), ?_⟩
    rintro v5 σ4 ⟨hv5, hs4⟩ hf4
    have h4 := h.pop hf4 hs4
    have ev : v5 = nI a := eq_ti.mpr (by rw [hv5, nI_toInt (by omega)])
    rw [ev, l1]
    refine ⟨fun h0 => ?_, fun h0 => ?_⟩
    · have ht := (cont_z (by omega) (by omega)).mp h0
      refine ⟨_, push_spec hn h4.stk (by omega), ?_⟩
      intro σ5 hs5 hf5
      rw [if_neg ht]
      exact h4.push hf5 hs5
    · have ht := cont_nz (by omega) (by omega) h0
      refine ⟨_, push_spec hn h4.stk (by omega), ?_⟩
      intro σ5 hs5 hf5
      rw [if_pos ht]
      exact h4.push hf5 hs5
  all_goals try (
    have hk' : 8 ≤ k ∧ k ≤ 13 ∧ s' = wrd w j b (k - 8) :: s ∧ z' = z ∧ nv' = nv := by
      rcases hk with h | h | h | ⟨x, y, t, h, -⟩ | h | h
      · exact h
      · omega
      · omega
      · rcases h with h | h <;> omega
      · omega
      · omega)
  · have hk1 : k = 8 := by omega
    subst hk1
    refine push1 _ _ rfl ?_ hk'.2.2.2.1 hk'.2.2.2.2
    rw [hk'.2.2.1, l1, bitc hb, nI_toInt (by have := popU_le b 10; unfold popc; omega)]; rfl
  · have hk1 : k = 9 := by omega
    subst hk1
    refine push1 _ _ rfl ?_ hk'.2.2.2.1 hk'.2.2.2.2
    rw [hk'.2.2.1, l2, nI_toInt (by omega)]; rfl
  · have hk1 : k = 10 := by omega
    subst hk1
    refine push1 _ _ rfl ?_ hk'.2.2.2.1 hk'.2.2.2.2
    rw [hk'.2.2.1, l3, nI_toInt (by omega)]; rfl
  · have hk1 : k = 11 := by omega
    subst hk1
    refine push1 _ _ rfl ?_ hk'.2.2.2.1 hk'.2.2.2.2
    rw [hk'.2.2.1, l4, nI_toInt (by omega)]; rfl
  · have hk1 : k = 12 := by omega
    subst hk1
    refine push1 _ _ rfl ?_ hk'.2.2.2.1 hk'.2.2.2.2
    have e1 : (gI σ 2 10 - gI σ 2 9).toInt = (lst w b : Int) - fst0 w b := by
      rw [ti_sub] <;> rw [l3, l4, nI_toInt (by omega), nI_toInt (by omega)] <;> omega
    have e2 : ((gI σ 2 10 - gI σ 2 9) - gI σ 2 8).toInt = (lst w b : Int) - fst0 w b - hrs w b := by
      rw [ti_sub] <;> rw [e1, l2, nI_toInt (by omega)] <;> omega
    rw [hk'.2.2.1, e2]; rfl
  · have hk1 : k = 13 := by omega
    subst hk1
    refine push1 _ _ rfl ?_ hk'.2.2.2.1 hk'.2.2.2.2
    have := hw.pu j
    rw [hk'.2.2.1, hmo, nI_toInt (by omega)]; rfl
  · refine joinT ?_
    rcases hk with h | h | h | h | h | h
    · omega
    · omega
    · omega
    · exact h
    · omega
    · omega
