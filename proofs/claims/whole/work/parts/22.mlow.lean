/-! ===== the model's low methods ===== -/
def popV : Nat → Nat → Nat
  | 0, _ => 0
  | k + 1, v => v % 2 + popV k (v / 2)
theorem popV_z (k : Nat) : popV k 0 = 0 := by
  induction k with
  | zero => rfl
  | succ k ih => simp [popV, ih]
theorem popV_le (k v : Nat) : popV k v ≤ k := by
  induction k generalizing v with
  | zero => exact Nat.le_refl _
  | succ k ih => have := ih (v / 2); simp only [popV]; omega
set_option maxRecDepth 100000 in
theorem popV_popc {b : Nat} (hb : b < 1024) : popV 10 b = popc b := by
  have h : (List.range 1024).all (fun b => popV 10 b == popc b) = true := by decide +kernel
  exact eq_of_beq (List.all_eq_true.mp h b (List.mem_range.mpr hb))
theorem bits_loop {d n : Nat} {σ0 σ : St} {Q : Int32 → St → Prop} : ∀ (k acc v : Nat), v < 2 ^ k → v < 2 ^ 20 → Q (nI (acc + popV k v)) σ → K_X12_bits_4 d n σ0 Q σ (nI acc) (nI v) := by
  intro k
  induction k with
  | zero =>
    intro acc v hv _ hQ
    have : v = 0 := by simpa using hv
    subst this
    exact B_X12_bits_4 ⟨fun _ => by simpa [popV] using hQ, fun h => absurd (show nI 0 ≤ 0 by decide) h⟩
  | succ k ih =>
    intro acc v hv hv2 hQ
    by_cases h0 : v = 0
    · subst h0
      rw [popV_z] at hQ
      exact B_X12_bits_4 ⟨fun _ => hQ, fun h => absurd (show nI 0 ≤ 0 by decide) h⟩
    · refine B_X12_bits_4 ⟨fun h => absurd h (nI_nle (by omega) (by omega)), fun _ => ?_⟩
      rw [pk_andN (n := v) (by omega) 1 (by decide), nI_add, pk_shrN (by omega) ((1 : Int32) &&& 31) 1 (by decide)]
      refine ih _ _ (by rw [Nat.pow_succ] at hv; omega) (by omega) ?_
      rw [show acc + v % 2 ^ 1 + popV k (v / 2 ^ 1) = acc + popV (k + 1) v by simp [popV]; omega]
      exact hQ
theorem bits_spec {d n : Nat} {σ : St} {b : Nat} (hb : b < 1024) : Cn d n M_X12_bits md_X12_bits [.int (nI b)] σ (liI (fun v σ' => v = nI (popc b) ∧ σ = σ')) := by
  refine S_X12_bits (bits_loop 10 0 b hb (by omega) ?_)
  rw [Nat.zero_add, popV_popc hb]
  exact ⟨rfl, rfl⟩
theorem hrsU_le {w : Wd} (hw : WW w) (b l : Nat) (hl : l ≤ w.N) : hrsU w b l ≤ 40 * l := by
  induction l with
  | zero => exact Nat.le_refl _
  | succ l ih =>
    have := ih (by omega)
    have h2 := hw.ft l (by omega)
    simp only [hrsU]; split <;> omega
theorem fstU_le (w : Wd) (b l : Nat) : fstU w b l ≤ 40 := by
  induction l with
  | zero => exact Nat.le_refl _
  | succ l ih => simp only [fstU]; split <;> omega
theorem lstU_le {w : Wd} (hw : WW w) (b l : Nat) (hl : l ≤ w.N) : lstU w b l ≤ 40 := by
  induction l with
  | zero => simp [lstU]
  | succ l ih =>
    have := ih (by omega)
    have h2 := hw.ft l (by omega)
    simp only [lstU]; split <;> omega
theorem l64_ti (x : Int32) : x.toInt64.toInt = x.toInt := Int32.toInt_toInt64 x
theorem wrd_rng {w : Wd} (hw : WW w) {j b k : Nat} : -1000000 ≤ wrd w j b k ∧ wrd w j b k ≤ 1000000 := by
  have h1 := hrsU_le hw b w.N (Nat.le_refl _)
  have h2 := fstU_le w b w.N
  have h3 := lstU_le hw b w.N (Nat.le_refl _)
  have h4 := hw.N
  have h5 : popc b ≤ 10 := popU_le b 10
  have h6 := hw.pu j
  unfold wrd hrs lst fst0 hrs
  split
  · omega
  · split
    · omega
    · split
      · split <;> omega
      · split
        · omega
        · split
          · split <;> omega
          · omega
theorem mnI_nI {a b : Nat} (ha : a < 2 ^ 31) (hb : b < 2 ^ 31) : mnI (nI a) (nI b) = nI (min a b) := by
  apply i32_ext; rw [mnI_ti, nI_toInt ha, nI_toInt hb, nI_toInt (by omega)]; omega
theorem mxI_nI {a b : Nat} (ha : a < 2 ^ 31) (hb : b < 2 ^ 31) : mxI (nI a) (nI b) = nI (max a b) := by
  apply i32_ext; rw [mxI_ti, nI_toInt ha, nI_toInt hb, nI_toInt (by omega)]; omega
/-- the six words lie in the model's row -/
def Wrds (σ : St) (w : Wd) (j b : Nat) : Prop := ∀ k, k < 6 → (gL σ 58 k).toInt = wrd w j b k
theorem asks_end {σ σ5 : St} {w : Wd} {j b : Nat} {v3 v4 v5 vv vp : Int32} (h0 : vv.toInt = wrd w j b 0) (h1 : v3.toInt = wrd w j b 1) (h2 : v4.toInt = wrd w j b 2) (h3 : v5.toInt = wrd w j b 3) (h4 : ((v5 - v4) - v3).toInt = wrd w j b 4) (h5 : vp.toInt = wrd w j b 5) :
    Wrds (sL (sL (sL (sL (sL (sL σ5 58 0 vv.toInt64) 58 1 v3.toInt64) 58 2 v4.toInt64) 58 3 v5.toInt64) 58 4 (((v5 - v4) - v3).toInt64)) 58 5 vp.toInt64) w j b := by
  intro k hk
  rcases (show k = 0 ∨ k = 1 ∨ k = 2 ∨ k = 3 ∨ k = 4 ∨ k = 5 by omega) with h | h | h | h | h | h <;> subst h
  · rw [gL_sL, if_neg (by decide), gL_sL, if_neg (by decide), gL_sL, if_neg (by decide), gL_sL, if_neg (by decide), gL_sL, if_neg (by decide), gL_sL, if_pos ⟨rfl, rfl⟩, l64_ti]; exact h0
  · rw [gL_sL, if_neg (by decide), gL_sL, if_neg (by decide), gL_sL, if_neg (by decide), gL_sL, if_neg (by decide), gL_sL, if_pos ⟨rfl, rfl⟩, l64_ti]; exact h1
  · rw [gL_sL, if_neg (by decide), gL_sL, if_neg (by decide), gL_sL, if_neg (by decide), gL_sL, if_pos ⟨rfl, rfl⟩, l64_ti]; exact h2
  · rw [gL_sL, if_neg (by decide), gL_sL, if_neg (by decide), gL_sL, if_pos ⟨rfl, rfl⟩, l64_ti]; exact h3
  · rw [gL_sL, if_neg (by decide), gL_sL, if_pos ⟨rfl, rfl⟩, l64_ti]; exact h4
  · rw [gL_sL, if_pos ⟨rfl, rfl⟩, l64_ti]; exact h5
theorem asks_spec {d n : Nat} {σ : St} {w : Wd} {j b : Nat} (hn : FIX ≤ n) (hd : 1 ≤ d) (hM : RM σ w) (hw : WW w) (hj : j < 8) (hb : b < 1024) : Cn d n M_X12_asks md_X12_asks [.ref 11, .int (nI j), .int (nI b)] σ (liV (fun σ' => Wrds σ' w j b)) := by
  refine S_X12_asks hn hd ?_
  have hN := hw.N
  have hrl := hrsU_le hw b w.N (Nat.le_refl _)
  have hfl := fstU_le w b w.N
  have hll := lstU_le hw b w.N (Nat.le_refl _)
  refine up_ind (N := w.N) (P := fun l => K_X12_asks_12 d n σ (fun σ' => Wrds σ' w j b) σ (nI j) (nI b) (nI (hrsU w b l)) (nI (fstU w b l)) (nI (lstU w b l)) (nI l)) ?_ ?_ 0 (Nat.zero_le _)
  · refine B_X12_asks_12 hn hd ⟨fun _ => ⟨fun hx => ?_, fun hx => ?_⟩, fun h => absurd (by rw [hM.N]; exact nI_le (Nat.le_refl _) (by omega)) h⟩
    · have hne : hrsU w b w.N ≠ 0 := fun e => hx (by rw [e]; rfl)
      refine ⟨_, bits_spec hb, ?_⟩
      rintro v σ5 ⟨rfl, rfl⟩ _
      refine ⟨vp_in_nI hj (by decide), ?_⟩
      simp only [gI_sL]
      rw [nI_clamp (by omega), (hM.per j hj).1]
      have hpj := hw.pu j
      have hpc : popc b ≤ 10 := popU_le b 10
      refine asks_end (σ := σ) ?_ ?_ ?_ ?_ ?_ ?_
      · rw [nI_toInt (by omega)]; rfl
      · rw [nI_toInt (by omega)]; rfl
      · rw [nI_toInt (by omega)]; simp [wrd, fst0, hrs, hne]
      · rw [nI_toInt (by omega)]; rfl
      · rw [ti_sub, ti_sub] <;> simp only [nI_toInt (show fstU w b w.N < 2 ^ 31 by omega), nI_toInt (show lstU w b w.N < 2 ^ 31 by omega), nI_toInt (show hrsU w b w.N < 2 ^ 31 by omega)] <;> first | omega | skip
        · simp [wrd, fst0, hrs, hne, lst]
        · rw [ti_sub] <;> simp only [nI_toInt (show fstU w b w.N < 2 ^ 31 by omega), nI_toInt (show lstU w b w.N < 2 ^ 31 by omega)] <;> omega
        · rw [ti_sub] <;> simp only [nI_toInt (show fstU w b w.N < 2 ^ 31 by omega), nI_toInt (show lstU w b w.N < 2 ^ 31 by omega)] <;> omega
      · rw [nI_toInt (by omega)]; rfl
    · have hz : hrsU w b w.N = 0 := (nI_eq (b := 0) (by omega) (by decide)).mp hx
      refine ⟨_, bits_spec hb, ?_⟩
      rintro v σ5 ⟨rfl, rfl⟩ _
      refine ⟨vp_in_nI hj (by decide), ?_⟩
      simp only [gI_sL]
      rw [nI_clamp (by omega), (hM.per j hj).1]
      have hpj := hw.pu j
      have hpc : popc b ≤ 10 := popU_le b 10
      refine asks_end (σ := σ) (v4 := 0) ?_ ?_ ?_ ?_ ?_ ?_
      · rw [nI_toInt (by omega)]; rfl
      · rw [nI_toInt (by omega)]; rfl
      · simp [wrd, fst0, hrs, hz]
      · rw [nI_toInt (by omega)]; rfl
      · rw [hz, show nI 0 = 0 from rfl, Int32.sub_zero, Int32.sub_zero, nI_toInt (by omega)]; simp [wrd, fst0, hrs, hz, lst]
      · rw [nI_toInt (by omega)]; rfl
  · intro l hl ih
    have hlt := hw.ft l hl
    have hrl2 := hrsU_le hw b l (by omega)
    have hfl2 := fstU_le w b l
    have hll2 := lstU_le hw b l (by omega)
    have hls := hM.les l (by omega)
    refine B_X12_asks_12 hn hd ⟨fun h => absurd (by rw [hM.N] at h; exact h) (nI_ge hl (by omega)), fun _ => ?_⟩
    refine ⟨fun hz => ?_, fun hz => ?_⟩
    · have ht : b.testBit l = true := by
        rcases Bool.eq_false_or_eq_true (b.testBit l) with e | e
        · exact e
        · exact absurd ((hold_z (by omega) (by omega)).mpr (by simp [e])) hz
      simp only [hrsU, fstU, lstU, if_pos ht] at ih
      have hv : vp_in (nI l) 10 := vp_in_nI (by omega) (by decide)
      refine ⟨hv, hv, hv, hv, ?_⟩
      rw [nI_clamp (by omega), hls.2.1, hls.2.2.1, pk_sub (by omega), nI_add, mnI_nI (by omega) (by omega), mxI_nI (by omega) (by omega), nI_1]
      exact ih
    · have ht : ¬ b.testBit l = true := (hold_z (by omega) (by omega)).mp hz
      simp only [hrsU, fstU, lstU, if_neg ht, Nat.add_zero] at ih
      rw [nI_1]; exact ih
