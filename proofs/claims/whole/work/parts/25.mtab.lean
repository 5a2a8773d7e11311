/-! ===== the model: its tables, costs, what somebody buys ===== -/
def rowFree (m : Md) (q : Nat) : Bool := !m.1.contains q && (m.2.1.all (fun c => c.1 != q) && decide (q < P0))
def cellFree (m : Md) (q k : Nat) : Bool := !m.1.contains q && (!m.2.1.contains (q, k) && decide (q < P0))
theorem rowFree_spec {m : Md} {q : Nat} (h : rowFree m q = true) (k : Nat) : ¬ inMd m q k := by
  simp only [rowFree, Bool.and_eq_true, Bool.not_eq_true', decide_eq_true_eq] at h
  obtain ⟨h1, h2, h3⟩ := h
  rintro (z | z | z | z)
  · rw [List.contains_iff_mem.mpr z] at h1; cases h1
  · have := List.all_eq_true.mp h2 _ z; simp at this
  · omega
  · omega
theorem cellFree_spec {m : Md} {q k : Nat} (h : cellFree m q k = true) : ¬ inMd m q k := by
  simp only [cellFree, Bool.and_eq_true, Bool.not_eq_true', decide_eq_true_eq] at h
  obtain ⟨h1, h2, h3⟩ := h
  rintro (z | z | z | z)
  · rw [List.contains_iff_mem.mpr z] at h1; cases h1
  · rw [List.contains_iff_mem.mpr z] at h2; cases h2
  · omega
  · omega
theorem Fr.row {m : Md} {σ σ' : St} (hf : Fr m σ σ') {q : Nat} (h : rowFree m q = true) (k : Nat) : gI σ' q k = gI σ q k := hf.1 q k (rowFree_spec h k)
theorem Fr.cell {m : Md} {σ σ' : St} (hf : Fr m σ σ') {q k : Nat} (h : cellFree m q k = true) : gI σ' q k = gI σ q k := hf.1 q k (cellFree_spec h)
theorem Fr.rowL {m : Md} {σ σ' : St} (hf : Fr m σ σ') {q : Nat} (h : rowFree m q = true) (k : Nat) : gL σ' q k = gL σ q k := hf.2.1 q k (rowFree_spec h k)
/-- a row of the model's tables -/
def TbM (σ : St) (r : Nat) (L : Nat → Bool) (V : Nat → Int) : Prop := ∀ b, b < 1024 → (gI σ 61 (1024 * r + b) = if L b = true then 1 else 0) ∧ (gI σ 62 (1024 * r + b)).toInt = V b
theorem TbM.fr {σ σ' : St} {r : Nat} {L : Nat → Bool} {V : Nat → Int} (h : TbM σ r L V) (h1 : ∀ k, 1024 * r ≤ k → k < 1024 * r + 1024 → gI σ' 61 k = gI σ 61 k ∧ gI σ' 62 k = gI σ 62 k) : TbM σ' r L V := by
  intro b hb
  obtain ⟨q1, q2⟩ := h1 (1024 * r + b) (by omega) (by omega)
  rw [q1, q2]; exact h b hb
theorem TbM.st {m : Md} {σ σ' : St} {r : Nat} {L : Nat → Bool} {V : Nat → Int} (h : TbM σ r L V) (hf : Fr m σ σ') (h1 : (rowFree m 61 && rowFree m 62) = true) : TbM σ' r L V := by
  rw [Bool.and_eq_true] at h1
  exact h.fr (fun k _ _ => ⟨hf.row h1.1 k, hf.row h1.2 k⟩)
theorem nz0 : vp_nar .boolean 0 = 0 := by decide
theorem nz1 : vp_nar .boolean 1 = 1 := by decide
theorem fills_spec {d n : Nat} {σ : St} {w : Wd} {r u j : Nat} (hn : FIX ≤ n) (hd : 6 ≤ d) (hM : RM σ w) (hw : WW w) (hr : r < 9) (hu : u < 9) (hj : j < 8) :
    Cn d n M_X12_fills md_X12_fills [.ref 11, .int (nI r), .int (nI u), .int (nI j)] σ (liV (fun σ' => TbM σ' r (law w u j) (wth w u j) ∧ ∀ k, (k < 1024 * r ∨ 1024 * r + 1024 ≤ k) → gI σ' 61 k = gI σ 61 k ∧ gI σ' 62 k = gI σ 62 k)) := by
  refine S_X12_fills hn (by omega) ?_
  have loop : ∀ b, b ≤ 1024 → ∀ σ1 : St, RM σ1 w → (∀ b', b' < b → (gI σ1 61 (1024 * r + b') = if law w u j b' = true then 1 else 0) ∧ (gI σ1 62 (1024 * r + b')).toInt = wth w u j b') → (∀ k, (k < 1024 * r ∨ 1024 * r + 1024 ≤ k) → gI σ1 61 k = gI σ 61 k ∧ gI σ1 62 k = gI σ 62 k) →
      K_X12_fills_3 d n σ (fun σ' => TbM σ' r (law w u j) (wth w u j) ∧ ∀ k, (k < 1024 * r ∨ 1024 * r + 1024 ≤ k) → gI σ' 61 k = gI σ 61 k ∧ gI σ' 62 k = gI σ 62 k) σ1 (nI r) (nI u) (nI j) (nI b) := by
    refine up_ind (N := 1024) ?_ ?_
    · intro σ1 hM1 h1 h2
      exact B_X12_fills_3 hn (by omega) ⟨fun _ => ⟨h1, h2⟩, fun h => absurd (show (1024 : Int32) ≤ nI 1024 by decide) h⟩
    · intro b hb ih σ1 hM1 h1 h2
      have hv : vp_in (1024 * nI r + nI b) 9216 := by rw [m1024, nI_add]; exact vp_in_nI (by omega) (by decide)
      have hidx : (1024 * nI r + nI b).toNatClampNeg = 1024 * r + b := by rw [m1024, nI_add, nI_clamp (by omega)]
      refine B_X12_fills_3 hn (by omega) ⟨fun h => absurd h (nI_ge (b := 1024) hb (by decide)), fun _ => ⟨_, barsBy_spec hn (by omega) hM1 hw hu hj hb, ?_⟩⟩
      rintro v σ4 rfl hf4
      have hM4 := hM1.st hf4 (by decide)
      have fin : ∀ (z : Int32), (z = if law w u j b = true then 1 else 0) → ∀ v12 σ11, v12.toInt = wth w u j b → Fr md_X12_worthBy (sI σ4 61 (1024 * r + b) z) σ11 → K_X12_fills_3 d n σ (fun σ' => TbM σ' r (law w u j) (wth w u j) ∧ ∀ k, (k < 1024 * r ∨ 1024 * r + 1024 ≤ k) → gI σ' 61 k = gI σ 61 k ∧ gI σ' 62 k = gI σ 62 k) (sI σ11 62 (1024 * r + b) v12) (nI r) (nI u) (nI j) (nI b + 1) := by
        intro z hz v12 σ11 hv12 hf11
        have e61 : ∀ k, gI (sI σ11 62 (1024 * r + b) v12) 61 k = if k = 1024 * r + b then z else gI σ1 61 k := by
          intro k
          rw [gI_sI_ne (by omega), hf11.row (by decide) k, gI_sI, hf4.row (by decide) k]
          simp
        have e62 : ∀ k, gI (sI σ11 62 (1024 * r + b) v12) 62 k = if k = 1024 * r + b then v12 else gI σ1 62 k := by
          intro k
          rw [gI_sI, hf11.row (by decide) k, gI_sI_ne (by omega), hf4.row (by decide) k]
          simp
        rw [nI_1]
        refine ih _ ?_ ?_ ?_
        · refine RM.fr (σ := σ1) hM1 (fun q k hk => ?_)
          rw [gI_sI_ne (by unfold keepM at hk; omega), hf11.1 q k (okK_spec (by decide) hk), gI_sI_ne (by unfold keepM at hk; omega), hf4.1 q k (okK_spec (by decide) hk)]
        · intro b' hb'
          rw [e61, e62]
          by_cases e : b' = b
          · subst e; rw [if_pos rfl, if_pos rfl]; exact ⟨hz, hv12⟩
          · have e' : ¬ 1024 * r + b' = 1024 * r + b := by omega
            rw [if_neg e', if_neg e']; exact h1 b' (by omega)
        · intro k hk
          have e' : ¬ k = 1024 * r + b := by omega
          rw [e61, e62, if_neg e', if_neg e']; exact h2 k hk
      have hM5 : ∀ z, RM (sI σ4 61 (1024 * r + b) z) w := fun z => hM4.fr (fun q k hk => gI_sI_ne (by unfold keepM at hk; omega))
      refine ⟨fun hz => ⟨hv, ?_⟩, fun hz => ⟨hv, ?_⟩⟩
      · have hl : law w u j b = false := by
          rcases Bool.eq_false_or_eq_true (law w u j b) with e | e
          · have := of_decide_eq_true e; rw [this] at hz; exact absurd rfl hz
          · exact e
        rw [hidx, nz0]
        refine ⟨_, worthBy_spec hn (by omega) (hM5 0) hw hu hj hb, ?_⟩
        intro v12 σ11 hv12 hf11
        exact ⟨hv, fin 0 (by rw [hl]; rfl) v12 σ11 hv12 hf11⟩
      · have hbl : bar w u j b < 2 ^ 31 := by unfold bar; repeat' split
                                              all_goals decide
        have hl : law w u j b = true := decide_eq_true ((nI_eq (b := 0) hbl (by decide)).mp hz)
        rw [hidx, nz1]
        refine ⟨_, worthBy_spec hn (by omega) (hM5 1) hw hu hj hb, ?_⟩
        intro v12 σ11 hv12 hf11
        exact ⟨hv, fin 1 (by rw [hl]; rfl) v12 σ11 hv12 hf11⟩
  exact loop 0 (by decide) σ hM (fun b' h => absurd h (by omega)) (fun k _ => ⟨rfl, rfl⟩)
/-- the tables hold what the wishes say, if the version says so -/
def CM (σ : St) (w : Wd) : Prop := gI σ 11 37 = gI σ 11 20 → ∀ r, r < w.P → TbM σ r (law w r r) (wth w r r)
def TbAll (σ : St) (w : Wd) : Prop := ∀ r, r < w.P → TbM σ r (law w r r) (wth w r r)
theorem RM.tab {σ : St} {w : Wd} (h : RM σ w) : RM (sI σ 11 37 (gI σ 11 20)) w := by
  obtain ⟨h1, h2, h3, h4, h5, h6, h7, h8, h9, h10, h11, h12, h13, h14, v, h15, h16⟩ := h
  have f : ∀ q k, ¬ (q = 11 ∧ k = 37) → gI (sI σ 11 37 (gI σ 11 20)) q k = gI σ q k := fun q k hk => gI_sI_ne (by omega)
  refine ⟨?_, ?_, ?_, ?_, ?_, fun l hl => ?_, fun k hk => ?_, fun j hj => ?_, fun r hr => (h9 r hr).fr (fun q k a b => f q k (by omega)), ?_, ?_, fun i hi => ?_, ?_, ?_, w.ver, Nat.le_refl _, ?_⟩
  · rw [f 11 0 (by decide)]; exact h1
  · rw [f 11 1 (by decide)]; exact h2
  · rw [f 11 2 (by decide)]; exact h3
  · rw [f 11 3 (by decide)]; exact h4
  · rw [f 11 4 (by decide)]; exact h5
  · rw [f 41 l (by omega), f 42 l (by omega), f 43 l (by omega), f 44 l (by omega)]; exact h6 l hl
  · rw [f 45 k (by omega), f 46 k (by omega)]; exact h7 k hk
  · rw [f 47 j (by omega), f 48 j (by omega), f 49 j (by omega)]; exact h8 j hj
  · rw [f 11 21 (by decide)]; exact h10
  · rw [f 11 14 (by decide)]; exact h11
  · rw [f 59 i (by omega)]; exact h12 i hi
  · rw [f 11 19 (by decide)]; exact h13
  · rw [f 11 20 (by decide)]; exact h14
  · rw [gI_sI_same]; exact h14
theorem tables_spec {d n : Nat} {σ : St} {w : Wd} (hn : FIX ≤ n) (hd : 7 ≤ d) (hM : RM σ w) (hw : WW w) (hc : CM σ w) :
    Cn d n M_X12_tables md_X12_tables [.ref 11] σ (liV (fun σ' => RM σ' w ∧ TbAll σ' w ∧ gI σ' 11 37 = gI σ' 11 20)) := by
  have hP := hw.P
  refine S_X12_tables hn (by omega) ⟨fun hv => ?_, fun hv => ⟨hM, hc hv, hv⟩⟩
  have loop : ∀ p, p ≤ w.P → ∀ σ1 : St, RM σ1 w → (∀ r, r < p → TbM σ1 r (law w r r) (wth w r r)) → K_X12_tables_14 d n σ (fun σ' => RM σ' w ∧ TbAll σ' w ∧ gI σ' 11 37 = gI σ' 11 20) σ1 (nI p) := by
    refine up_ind (N := w.P) ?_ ?_
    · intro σ1 hM1 h1
      refine B_X12_tables_14 hn (by omega) ⟨fun _ => ⟨hM1.tab, fun r hr => ?_, ?_⟩, fun h => absurd (by rw [hM1.P]; exact nI_le (Nat.le_refl _) (by omega)) h⟩
      · exact (h1 r hr).fr (fun k _ _ => ⟨gI_sI_ne (by omega), gI_sI_ne (by omega)⟩)
      · rw [gI_sI_same, gI_sI_ne (by omega)]
    · intro p hp ih σ1 hM1 h1
      refine B_X12_tables_14 hn (by omega) ⟨fun h => absurd (by rw [hM1.P] at h; exact h) (nI_ge hp (by omega)), fun _ => ⟨_, fills_spec hn (by omega) hM1 hw (r := p) (u := p) (j := p) (by omega) (by omega) (by omega), ?_⟩⟩
      rintro σ4 ⟨hT, hk⟩ hf
      rw [nI_1]
      refine ih σ4 (hM1.st hf (by decide)) (fun r hr => ?_)
      rcases Nat.lt_or_ge r p with z | z
      · exact (h1 r z).fr (fun k a b => hk k (by omega))
      · have e : r = p := by omega
        subst e; exact hT
  exact loop 0 (Nat.zero_le _) σ hM (fun r h => absurd h (by omega))
/-- the row of prices in use -/
def Now (σ : St) (c : Nat → Nat) : Prop := ∀ l, l < 10 → gI σ 63 l = nI (c l)
theorem told_spec {d n : Nat} {σ : St} {w : Wd} (hn : FIX ≤ n) (hd : 8 ≤ d) (hM : RM σ w) (hw : WW w) (hc : CM σ w) :
    Cn d n M_X12_told md_X12_told [.ref 11] σ (liV (fun σ' => RM σ' w ∧ TbAll σ' w ∧ gI σ' 11 37 = gI σ' 11 20 ∧ Now σ' w.pr)) := by
  refine S_X12_told hn (by omega) ⟨_, tables_spec hn (by omega) hM hw hc, ?_⟩
  rintro σ3 ⟨hM3, hT, hv⟩ hf3
  have loop : ∀ l, l ≤ 10 → ∀ σ1 : St, RM σ1 w → TbAll σ1 w → gI σ1 11 37 = gI σ1 11 20 → (∀ l', l' < l → gI σ1 63 l' = nI (w.pr l')) → K_X12_told_6 d n σ (fun σ' => RM σ' w ∧ TbAll σ' w ∧ gI σ' 11 37 = gI σ' 11 20 ∧ Now σ' w.pr) σ1 (nI l) := by
    refine up_ind (N := 10) ?_ ?_
    · intro σ1 hM1 hT1 hv1 h1
      exact B_X12_told_6 hn (by omega) ⟨fun _ => ⟨hM1, hT1, hv1, h1⟩, fun h => absurd (show (10 : Int32) ≤ nI 10 by decide) h⟩
    · intro l hl ih σ1 hM1 hT1 hv1 h1
      have hvp : vp_in (nI l) 10 := vp_in_nI hl (by decide)
      refine B_X12_told_6 hn (by omega) ⟨fun h => absurd h (nI_ge (b := 10) hl (by decide)), fun _ => ⟨hvp, hvp, ?_⟩⟩
      rw [nI_clamp (by omega), (hM1.les l hl).2.2.2, nI_1]
      refine ih _ (hM1.fr (fun q k hk => gI_sI_ne (by unfold keepM at hk; omega))) (fun r hr => (hT1 r hr).fr (fun k _ _ => ⟨gI_sI_ne (by omega), gI_sI_ne (by omega)⟩)) ?_ (fun l' hl' => ?_)
      · rw [gI_sI_ne (by omega), gI_sI_ne (by omega)]; exact hv1
      · rw [gI_sI]
        by_cases e : l' = l
        · subst e; rw [if_pos ⟨rfl, rfl⟩]
        · rw [if_neg (by omega)]; exact h1 l' (by omega)
  exact loop 0 (by decide) σ3 hM3 hT hv (fun l' h => absurd h (by omega))
/-- all prices of a bundle together -/
def costU (c : Nat → Nat) (b : Nat) : Nat → Nat
  | 0 => 0
  | l + 1 => costU c b l + if b.testBit l = true then c l else 0
theorem costU_le {c : Nat → Nat} {b M l : Nat} (h : ∀ i, i < l → c i ≤ M) : costU c b l ≤ M * l := by
  induction l with
  | zero => exact Nat.le_refl _
  | succ l ih =>
    have h1 := ih (fun i hi => h i (by omega))
    have h2 := h l (by omega)
    simp only [costU, Nat.mul_add, Nat.mul_one]; split <;> omega
theorem costOf_spec0 {d n : Nat} {σ : St} {w : Wd} {c : Nat → Nat} {b : Nat} (hn : FIX ≤ n) (hd : 1 ≤ d) (hN : gI σ 11 0 = nI w.N) (hw : WW w) (hc : Now σ c) (hcm : ∀ l, l < w.N → c l ≤ 1000000) (hb : b < 1024) :
    Cn d n M_X12_costOf md_X12_costOf [.ref 11, .int (nI b)] σ (liI (fun v σ' => v = nI (costU c b w.N) ∧ σ = σ')) := by
  have hN10 := hw.N
  refine S_X12_costOf hn hd ?_
  refine up_ind (N := w.N) (P := fun l => K_X12_costOf_4 d n σ (fun v σ' => v = nI (costU c b w.N) ∧ σ = σ') σ (nI b) (nI (costU c b l)) (nI l)) ?_ ?_ 0 (Nat.zero_le _)
  · exact B_X12_costOf_4 hn hd ⟨fun _ => ⟨rfl, rfl⟩, fun h => absurd (by rw [hN]; exact nI_le (Nat.le_refl _) (by omega)) h⟩
  · intro l hl ih
    have hcl : costU c b l ≤ 1000000 * l := costU_le (fun i hi => hcm i (by omega))
    refine B_X12_costOf_4 hn hd ⟨fun h => absurd (by rw [hN] at h; exact h) (nI_ge hl (by omega)), fun _ => ⟨fun z => ?_, fun z => ⟨vp_in_nI (by omega) (by decide), ?_⟩⟩⟩
    · have ht := (hold_z (by omega) (by omega)).mp z
      simp only [costU, if_neg ht, Nat.add_zero] at ih
      rw [Int32.add_zero, nI_1]; exact ih
    · have ht := hold_nz (by omega) (by omega) z
      simp only [costU, if_pos ht] at ih
      rw [nI_clamp (by omega), hc l (by omega), nI_add, nI_1]; exact ih
theorem costOf_spec {d n : Nat} {σ : St} {w : Wd} {c : Nat → Nat} {b : Nat} (hn : FIX ≤ n) (hd : 1 ≤ d) (hN : gI σ 11 0 = nI w.N) (hw : WW w) (hc : Now σ c) (hcm : ∀ l, l < 10 → c l ≤ 1000000) (hb : b < 1024) :
    Cn d n M_X12_costOf md_X12_costOf [.ref 11, .int (nI b)] σ (liI (fun v σ' => v = nI (costU c b w.N) ∧ σ = σ')) := costOf_spec0 hn hd hN hw hc (fun l hl => hcm l (by have := hw.N; omega)) hb
/-! what somebody buys -/
def bestU (L : Nat → Bool) (V : Nat → Int) (c : Nat → Nat) (m : Nat) : Nat → Option Nat
  | 0 => none
  | b + 1 => if L b = true ∧ c b ≤ m ∧ (∀ x, bestU L V c m b = some x → ¬ (V b < V x ∨ V b = V x ∧ c x ≤ c b)) then some b else bestU L V c m b
def optI (o : Option Nat) : Int32 := match o with
  | none => -1
  | some b => nI b
def optC (c : Nat → Nat) (o : Option Nat) : Nat := match o with
  | none => 0
  | some b => c b
def optV (V : Nat → Int) (o : Option Nat) : Int := match o with
  | none => 0
  | some b => V b
theorem bestU_lt {L : Nat → Bool} {V : Nat → Int} {c : Nat → Nat} {m : Nat} : ∀ {k x : Nat}, bestU L V c m k = some x → x < k ∧ L x = true ∧ c x ≤ m
  | 0, x, h => by cases h
  | k + 1, x, h => by
    unfold bestU at h
    split at h
    · rename_i hc
      cases h; exact ⟨by omega, hc.1, hc.2.1⟩
    · have := bestU_lt h; exact ⟨by omega, this.2⟩
theorem optI_ne {x : Nat} (h : x < 2 ^ 31) : ¬ optI (some x) = -1 := by
  intro z
  have : (nI x).toInt = (-1 : Int32).toInt := by rw [show nI x = -1 from z]
  rw [nI_toInt h] at this
  have e : (-1 : Int32).toInt = -1 := by decide
  omega
/-- the row of the tables that stands for somebody -/
def rw_ (σ : St) (p : Nat) : Nat := if nI p = gI σ 11 38 then 8 else p
theorem rowOf_nI (σ : St) (p : Nat) : fn_X12_rowOf σ (nI p) = nI (rw_ σ p) := by
  unfold fn_X12_rowOf rw_; split <;> rfl
theorem isLawful_nI {σ : St} {r b : Nat} {L : Nat → Bool} {V : Nat → Int} (h : TbM σ r L V) (hr : r < 9) (hb : b < 1024) : pre_X12_isLawful σ (nI r) (nI b) ∧ (fn_X12_isLawful σ (nI r) (nI b) = if L b = true then 1 else 0) := by
  have hidx : (1024 * nI r + nI b).toNatClampNeg = 1024 * r + b := by rw [m1024, nI_add, nI_clamp (by omega)]
  unfold pre_X12_isLawful fn_X12_isLawful
  rw [hidx, (h b hb).1]
  refine ⟨⟨by rw [m1024, nI_add]; exact vp_in_nI (by omega) (by decide), by split <;> simp, trivial⟩, rfl⟩
theorem worthOf_nI {σ : St} {r b : Nat} {L : Nat → Bool} {V : Nat → Int} (h : TbM σ r L V) (hr : r < 9) (hb : b < 1024) : pre_X12_worthOf σ (nI r) (nI b) ∧ (fn_X12_worthOf σ (nI r) (nI b)).toInt = V b := by
  have hidx : (1024 * nI r + nI b).toNatClampNeg = 1024 * r + b := by rw [m1024, nI_add, nI_clamp (by omega)]
  unfold pre_X12_worthOf fn_X12_worthOf
  rw [hidx]
  exact ⟨⟨by rw [m1024, nI_add]; exact vp_in_nI (by omega) (by decide), trivial⟩, (h b hb).2⟩
theorem lawful_z {σ : St} {r b : Nat} {L : Nat → Bool} {V : Nat → Int} (h : TbM σ r L V) (hr : r < 9) (hb : b < 1024) : fn_X12_isLawful σ (nI r) (nI b) = 0 ↔ ¬ L b = true := by
  rw [(isLawful_nI h hr hb).2]; by_cases e : L b = true
  · simp [e]
  · simp [e]
theorem shlN {σ : St} {w : Wd} (hN : gI σ 11 0 = nI w.N) (hw : WW w) : (1 : Int32) <<< (gI σ 11 0 &&& 31) = nI (2 ^ w.N) := by
  rw [hN]; exact shl1 (by have := hw.N; omega)
theorem rw_lt {σ : St} {p : Nat} (h : p < 8) : rw_ σ p < 9 := by unfold rw_; split <;> omega
theorem buysBy_spec0 {d n : Nat} {σ : St} {w : Wd} {p : Nat} {L : Nat → Bool} {V : Nat → Int} {c : Nat → Nat} (hn : FIX ≤ n) (hd : 2 ≤ d) (hN : gI σ 11 0 = nI w.N) (hw : WW w) (hp : p < 8) (hpu : gI σ 47 p = nI (w.pu p)) (hT : TbM σ (rw_ σ p) L V) (hV : ∀ b, V b < 2 ^ 31 ∧ -2 ^ 31 ≤ V b) (hc : Now σ c) (hcm : ∀ l, l < w.N → c l ≤ 1000000) :
    Cn d n M_X12_buysBy md_X12_buysBy [.ref 11, .int (nI p)] σ (liI (fun v σ' => v = optI (bestU L V (fun b => costU c b w.N) (w.pu p) (2 ^ w.N)) ∧ gI σ' 11 40 = nI (optC (fun b => costU c b w.N) (bestU L V (fun b => costU c b w.N) (w.pu p) (2 ^ w.N))) ∧ (gI σ' 11 41).toInt = optV V (bestU L V (fun b => costU c b w.N) (w.pu p) (2 ^ w.N)))) := by
  have hN10 := hw.N
  have hpw := pow10 hN10
  have hr : rw_ σ p < 9 := rw_lt hp
  have hpu2 := hw.pu p
  refine S_X12_buysBy hn (by omega) ?_
  rw [rowOf_nI]
  generalize rw_ σ p = r at hT hr
  have key : ∀ (cc : Nat → Nat), cc = (fun b => costU c b w.N) → ∀ b, b ≤ 2 ^ w.N → ∀ σ1 : St, gI σ1 11 0 = nI w.N → gI σ1 47 p = nI (w.pu p) → TbM σ1 r L V → Now σ1 c → gI σ1 11 40 = nI (optC cc (bestU L V cc (w.pu p) b)) → (gI σ1 11 41).toInt = optV V (bestU L V cc (w.pu p) b) →
      K_X12_buysBy_21 d n σ (fun v σ' => v = optI (bestU L V cc (w.pu p) (2 ^ w.N)) ∧ gI σ' 11 40 = nI (optC cc (bestU L V cc (w.pu p) (2 ^ w.N))) ∧ (gI σ' 11 41).toInt = optV V (bestU L V cc (w.pu p) (2 ^ w.N))) σ1 (nI p) (nI r) (optI (bestU L V cc (w.pu p) b)) (nI b) := by
    intro cc hcc
    refine up_ind (N := 2 ^ w.N) ?_ ?_
    · intro σ1 h1 h2 h3 h4 h5 h6
      refine B_X12_buysBy_21 hn (by omega) ⟨fun _ => ⟨rfl, h5, h6⟩, fun h => absurd ?_ h⟩
      rw [shlN h1 hw]; exact nI_le (Nat.le_refl _) (by omega)
    · intro b hb ih σ1 h1 h2 h3 h4 h5 h6
      have hb10 : b < 1024 := by omega
      refine B_X12_buysBy_21 hn (by omega) ⟨fun h => absurd (by rw [shlN h1 hw] at h; exact h) (nI_ge hb (by omega)), fun _ => ⟨(isLawful_nI h3 hr hb10).1, fun hL => ?_, fun hL => ?_⟩⟩
      · have hLb : L b = true := by
          rcases Bool.eq_false_or_eq_true (L b) with e | e
          · exact e
          · exact absurd ((lawful_z h3 hr hb10).mpr (by simp [e])) hL
        refine ⟨_, costOf_spec0 hn (by omega) h1 hw h4 hcm hb10, ?_⟩
        rintro v σ5 ⟨rfl, rfl⟩ _
        have hcb : costU c b w.N ≤ 1000000 * w.N := costU_le (fun i hi => hcm i (by omega))
        have hcc2 : costU c b w.N = cc b := by rw [hcc]
        rw [hcc2] at hcb ⊢
        refine ⟨(worthOf_nI h3 hr hb10).1, vp_in_nI hp (by decide), ?_⟩
        have hwo := (worthOf_nI h3 hr hb10).2
        rw [nI_clamp (by omega), h2, nI_1]
        have skip : ¬ (L b = true ∧ cc b ≤ w.pu p ∧ (∀ x, bestU L V cc (w.pu p) b = some x → ¬ (V b < V x ∨ V b = V x ∧ cc x ≤ cc b))) → K_X12_buysBy_21 d n σ (fun v σ' => v = optI (bestU L V cc (w.pu p) (2 ^ w.N)) ∧ gI σ' 11 40 = nI (optC cc (bestU L V cc (w.pu p) (2 ^ w.N))) ∧ (gI σ' 11 41).toInt = optV V (bestU L V cc (w.pu p) (2 ^ w.N))) σ1 (nI p) (nI r) (optI (bestU L V cc (w.pu p) b)) (nI (b + 1)) := by
          intro hx
          have := ih σ1 h1 h2 h3 h4
          rw [show bestU L V cc (w.pu p) (b + 1) = bestU L V cc (w.pu p) b by rw [bestU, if_neg hx]] at this
          exact this h5 h6
        have take : (L b = true ∧ cc b ≤ w.pu p ∧ (∀ x, bestU L V cc (w.pu p) b = some x → ¬ (V b < V x ∨ V b = V x ∧ cc x ≤ cc b))) → K_X12_buysBy_21 d n σ (fun v σ' => v = optI (bestU L V cc (w.pu p) (2 ^ w.N)) ∧ gI σ' 11 40 = nI (optC cc (bestU L V cc (w.pu p) (2 ^ w.N))) ∧ (gI σ' 11 41).toInt = optV V (bestU L V cc (w.pu p) (2 ^ w.N))) (sI (sI σ1 11 40 (nI (cc b))) 11 41 (fn_X12_worthOf σ1 (nI r) (nI b))) (nI p) (nI r) (nI b) (nI (b + 1)) := by
          intro hx
          have := ih (sI (sI σ1 11 40 (nI (cc b))) 11 41 (fn_X12_worthOf σ1 (nI r) (nI b)))
          rw [show bestU L V cc (w.pu p) (b + 1) = some b by rw [bestU, if_pos hx]] at this
          refine this ?_ ?_ ?_ ?_ ?_ ?_
          · rw [gI_sI_ne (by omega), gI_sI_ne (by omega)]; exact h1
          · rw [gI_sI_ne (by omega), gI_sI_ne (by omega)]; exact h2
          · exact h3.fr (fun k _ _ => ⟨by rw [gI_sI_ne (by omega), gI_sI_ne (by omega)], by rw [gI_sI_ne (by omega), gI_sI_ne (by omega)]⟩)
          · intro l hl; rw [gI_sI_ne (by omega), gI_sI_ne (by omega)]; exact h4 l hl
          · rw [gI_sI_ne (by omega), gI_sI_same]; rfl
          · rw [gI_sI_same]; exact hwo
        refine ⟨fun hm => skip (fun z => ?_), fun hm => ?_⟩
        · have := (nI_ltI (by omega) (by omega)).mp hm; omega
        · have hm' : cc b ≤ w.pu p := by
            rcases Nat.lt_or_ge (w.pu p) (cc b) with z | z
            · exact absurd (nI_lt z (by omega)) hm
            · exact z
          cases hbest : bestU L V cc (w.pu p) b with
          | none =>
            rw [hbest] at h5 h6 skip
            exact ⟨fun _ => take ⟨hLb, hm', fun x hx => by rw [hbest] at hx; cases hx⟩, fun h => absurd rfl h⟩
          | some x =>
            have hx := bestU_lt hbest
            rw [hbest] at h5 h6 skip
            refine ⟨fun h => absurd h (optI_ne (by omega)), fun _ => ?_⟩
            rw [h5]
            have h6' : (gI σ1 11 41).toInt = V x := h6
            have hxm := hx.2.2
            refine ⟨fun hv => skip (fun z => ?_), fun hv => ⟨fun he => ?_, fun he => ⟨fun hk => ?_, fun hk => skip (fun z => ?_)⟩⟩⟩
            · have := lt_ti.mp hv; rw [hwo, h6'] at this
              exact z.2.2 x rfl (Or.inl this)
            · refine take ⟨hLb, hm', fun y hy => ?_⟩
              rw [hbest] at hy; cases hy
              rintro (q | q)
              · exact hv (lt_ti.mpr (by rw [hwo, h6']; exact q))
              · exact he (eq_ti.mpr (by rw [hwo, h6']; exact q.1))
            · refine take ⟨hLb, hm', fun y hy => ?_⟩
              rw [hbest] at hy; cases hy
              have hk' := (nI_ltI (by omega) (by show cc x < 2 ^ 31; omega)).mp hk
              have hk'' : cc b < cc x := hk'
              rintro (q | q)
              · exact hv (lt_ti.mpr (by rw [hwo, h6']; exact q))
              · omega
            · refine z.2.2 x rfl (Or.inr ⟨?_, ?_⟩)
              · have := eq_ti.mp he; rw [hwo, h6'] at this; exact this
              · rcases Nat.lt_or_ge (cc b) (cc x) with q | q
                · exact absurd (nI_lt (b := cc x) q (by omega)) hk
                · exact q
      · have hLb : ¬ L b = true := (lawful_z h3 hr hb10).mp hL
        rw [nI_1]
        have := ih σ1 h1 h2 h3 h4
        rw [show bestU L V cc (w.pu p) (b + 1) = bestU L V cc (w.pu p) b by rw [bestU, if_neg (fun z => hLb z.1)]] at this
        exact this h5 h6
  refine key _ rfl 0 (Nat.zero_le _) _ ?_ ?_ ?_ ?_ ?_ ?_
  · rw [gI_sI_ne (by omega), gI_sI_ne (by omega)]; exact hN
  · rw [gI_sI_ne (by omega), gI_sI_ne (by omega)]; exact hpu
  · exact hT.fr (fun k _ _ => ⟨by rw [gI_sI_ne (by omega), gI_sI_ne (by omega)], by rw [gI_sI_ne (by omega), gI_sI_ne (by omega)]⟩)
  · intro l hl; rw [gI_sI_ne (by omega), gI_sI_ne (by omega)]; exact hc l hl
  · rw [gI_sI_ne (by omega), gI_sI_same]; rfl
  · rw [gI_sI_same]; rfl

theorem buysBy_spec {d n : Nat} {σ : St} {w : Wd} {p : Nat} {L : Nat → Bool} {V : Nat → Int} {c : Nat → Nat} (hn : FIX ≤ n) (hd : 2 ≤ d) (hN : gI σ 11 0 = nI w.N) (hw : WW w) (hp : p < 8) (hpu : gI σ 47 p = nI (w.pu p)) (hT : TbM σ (rw_ σ p) L V) (hV : ∀ b, V b < 2 ^ 31 ∧ -2 ^ 31 ≤ V b) (hc : Now σ c) (hcm : ∀ l, l < 10 → c l ≤ 1000000) :
    Cn d n M_X12_buysBy md_X12_buysBy [.ref 11, .int (nI p)] σ (liI (fun v σ' => v = optI (bestU L V (fun b => costU c b w.N) (w.pu p) (2 ^ w.N)) ∧ gI σ' 11 40 = nI (optC (fun b => costU c b w.N) (bestU L V (fun b => costU c b w.N) (w.pu p) (2 ^ w.N))) ∧ (gI σ' 11 41).toInt = optV V (bestU L V (fun b => costU c b w.N) (w.pu p) (2 ^ w.N)))) := buysBy_spec0 hn hd hN hw hp hpu hT hV hc (fun l hl => hcm l (by have := hw.N; omega))