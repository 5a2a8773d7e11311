/-! ===== the model: takes, takesSign, takesNumber, puts ===== -/
theorem wV_pos {c : Nat} (hc : c < 13) : 0 < wV c ∧ wV c ≤ 483006772069 := by
  rcases wB_tab hc with ⟨-, -, -, -, -, h⟩ | ⟨-, -, -, -, -, h⟩ | ⟨-, -, -, -, -, h⟩ | ⟨-, -, -, -, -, h⟩ | ⟨-, -, -, -, -, h⟩ | ⟨-, -, -, -, -, h⟩ | ⟨-, -, -, -, -, h⟩ | ⟨-, -, -, -, -, h⟩ | ⟨-, -, -, -, -, h⟩ | ⟨-, -, -, -, -, h⟩ | ⟨-, -, -, -, -, h⟩ | ⟨-, -, -, -, -, h⟩ | ⟨-, -, -, -, -, h⟩ <;> rw [h] <;> decide
theorem lN_tI {a : Nat} (h : a < 2 ^ 63) : (lN a).toInt = (a : Int) := lg_ofNat_toInt h
theorem kT_wd {tx : Nat → Nat} {e p c : Nat} (hc : c < 13) (h : kT tx e p = c + 1) : p < e ∧ isL (tx p) = true := by
  unfold kT at h
  split at h
  · rename_i h1
    refine ⟨h1, ?_⟩
    split at h
    · assumption
    · split at h
      · split at h <;> omega
      · split at h
        · rename_i h4; have := isSg_rng h4; omega
        · omega
  · omega
theorem wordU_kT {tx : Nat → Nat} {e p c : Nat} (hp : p ≤ e) (hc : c < 13) : wordU tx e p = wV c ↔ kT tx e p = c + 1 := by
  have hv := wV_pos hc
  by_cases h1 : p < e ∧ isL (tx p) = true
  · have ek : kT tx e p = wK (pkU tx p (rE isL tx e p - p)) := by unfold kT; rw [if_pos h1.1, if_pos h1.2]
    rw [ek, wK_wV hc]
    unfold wordU
    by_cases h7 : rE isL tx e p - p ≤ 7
    · rw [if_pos h7]
    · rw [if_neg h7]
      refine ⟨fun z => by omega, fun z => ?_⟩
      obtain ⟨k, hk⟩ : ∃ k, rE isL tx e p - p = k + 1 := ⟨rE isL tx e p - p - 1, by omega⟩
      have hs := rE_sp (c := isL) (tx := tx) hp
      have g1 := pkU_ge (tx := tx) (p := p) k (fun i hi => hs.2.2.1 (p + i) (by omega) (by omega))
      have g2 : 256 ^ 6 ≤ 256 ^ k := Nat.pow_le_pow_right (by decide) (by omega)
      have g3 : (483006772069 : Nat) < 256 ^ 6 := by decide
      rw [hk] at z
      have := Nat.lt_of_lt_of_le g3 (Nat.le_trans g2 g1)
      omega
  · have e1 : wordU tx e p = 0 := by unfold wordU; rw [rE_stop h1, Nat.sub_self, if_pos (Nat.zero_le _), pkU]
    rw [e1]
    refine ⟨fun z => by omega, fun z => absurd (kT_wd hc z) h1⟩
theorem takes_M {d n : Nat} {σ : St} {tx : Nat → Nat} {e i c : Nat} (hn : FIX ≤ n) (hd : 2 ≤ d) (he : e ≤ 400) (hx : ∀ k, tx k < 256) (hc : c < 13) (hT : TxM σ tx e) (ha : AtM σ tx e i) : Cn d n M_X12_takes md_X12_takes [.ref 11, .long (lN (wV c))] σ (liI (fun v σ' => KT tx e i = c + 1 ∧ v = 1 ∧ AtM σ' tx e (i + 1) ∨ KT tx e i ≠ c + 1 ∧ v = 0 ∧ AtX σ' tx e i)) := by
  refine S_X12_takes hn (by omega) ⟨_, word_M hn (by omega) he hx hT ha, ?_⟩
  rintro v σ1 ⟨rfl, a1, c1⟩ hf
  have hv := wV_pos hc
  have hw := wordU_lt (e := e) (p := sT tx e i) hx
  have ez : lg_cmp (lN (wordU tx e (sT tx e i))) (lN (wV c)) = 0 ↔ KT tx e i = c + 1 := by
    rw [cmp_z, lN_tI (by omega), lN_tI (by omega), ← wordU_kT (sT_le tx e i) hc]; omega
  refine ⟨fun h => ?_, fun h => Or.inr ⟨fun z => h (ez.mpr z), rfl, a1⟩⟩
  have hk := ez.mp h
  obtain ⟨k1, k2⟩ := kT_wd hc hk
  refine Or.inl ⟨hk, rfl, AtM.nx k1 ?_⟩
  rw [gI_sI_same, c1]
  unfold tokE
  rw [if_pos k2]
theorem kT_sign {tx : Nat → Nat} {e p s : Nat} (hs : isSg s = true) : kT tx e p = s ↔ p < e ∧ tx p = s := by
  have h40 := isSg_rng hs
  have hs' := isSg_iff.mp hs
  unfold kT
  split
  · rename_i h1
    split
    · rename_i h2
      have := isL_iff.mp h2
      have := wK_rng (pkU tx p (rE isL tx e p - p))
      omega
    · split
      · rename_i h3
        have := isD_iff.mp h3
        split <;> omega
      · split
        · exact ⟨fun z => ⟨h1, z⟩, fun z => z.2⟩
        · rename_i h4
          refine ⟨fun z => by omega, fun z => ?_⟩
          rw [z.2] at h4; exact absurd hs h4
  · rename_i h1
    refine ⟨fun z => by omega, fun z => absurd z.1 h1⟩
theorem takesSign_M {d n : Nat} {σ : St} {tx : Nat → Nat} {e i s : Nat} (hn : FIX ≤ n) (hd : 1 ≤ d) (he : e ≤ 400) (hx : ∀ k, tx k < 256) (hs : isSg s = true) (hT : TxM σ tx e) (ha : AtM σ tx e i) : Cn d n M_X12_takesSign md_X12_takesSign [.ref 11, .int (nI s)] σ (liI (fun v σ' => KT tx e i = s ∧ v = 1 ∧ AtM σ' tx e (i + 1) ∨ KT tx e i ≠ s ∧ v = 0 ∧ AtX σ' tx e i)) := by
  refine S_X12_takesSign hn hd ⟨_, blanks_M hn he hx hT ha, ?_⟩
  rintro σ1 a1 hf
  have t1 : TxM σ1 tx e := hT.st hf (by decide)
  have hp := sT_le tx e i
  have h40 := isSg_rng hs
  have hs' := isSg_iff.mp hs
  have a1' : gI σ1 11 16 = nI (sT tx e i) := a1
  have ek : KT tx e i = s ↔ sT tx e i < e ∧ tx (sT tx e i) = s := kT_sign hs
  rw [a1', t1.1]
  refine ⟨fun h => Or.inr ⟨fun z => ?_, rfl, a1⟩, fun h => ?_⟩
  · have := (nI_eq (by omega) (by omega)).mp h
    have := (ek.mp z).1
    omega
  · have hlt : sT tx e i < e := by
      have : ¬ sT tx e i = e := fun z => h (by rw [z])
      omega
    have hv : vp_in (nI (sT tx e i)) 400 := vp_in_nI (by omega) (by decide)
    rw [nI_clamp (by omega), t1.2 _ hlt, nI_1]
    have eb : sb8 (tx (sT tx e i)) = nI s ↔ tx (sT tx e i) = s := sb8_is (hx _) (by omega)
    refine ⟨hv, fun g => ?_, fun g => Or.inr ⟨fun z => g (eb.mpr (ek.mp z).2), rfl, a1⟩⟩
    have g1 := eb.mp g
    refine Or.inl ⟨ek.mpr ⟨hlt, g1⟩, rfl, AtM.nx hlt ?_⟩
    rw [gI_sI_same]
    unfold tokE
    rw [g1, if_neg (fun z => by have := isL_iff.mp z; omega), if_neg (fun z => by have := isD_iff.mp z; omega)]
theorem kT_num {tx : Nat → Nat} {e p : Nat} : kT tx e p = 256 ↔ (p < e ∧ isD (tx p) = true) ∧ rE isD tx e p - p ≤ 5 := by
  unfold kT
  split
  · rename_i h1
    split
    · rename_i h2
      have := wK_rng (pkU tx p (rE isL tx e p - p))
      have nD : isD (tx p) = false := by have := isL_iff.mp h2; exact decide_eq_false (by omega)
      refine ⟨fun z => by omega, fun z => ?_⟩
      rw [nD] at z; exact absurd z.1.2 (by decide)
    · split
      · rename_i h3
        split
        · rename_i h4; exact ⟨fun _ => ⟨⟨h1, h3⟩, h4⟩, fun _ => rfl⟩
        · rename_i h4; exact ⟨fun z => by omega, fun z => absurd z.2 h4⟩
      · rename_i h3
        refine ⟨fun z => ?_, fun z => absurd z.1.2 h3⟩
        split at z
        · rename_i h4; have := isSg_rng h4; omega
        · omega
  · rename_i h1
    exact ⟨fun z => by omega, fun z => absurd z.1.1 h1⟩
theorem takesNumber_M {d n : Nat} {σ : St} {tx : Nat → Nat} {e i h : Nat} (hn : FIX ≤ n) (hd : 1 ≤ d) (he : e ≤ 400) (hx : ∀ k, tx k < 256) (hh : h < 2 ^ 31) (hT : TxM σ tx e) (ha : AtM σ tx e i) : Cn d n M_X12_takesNumber md_X12_takesNumber [.ref 11, .int (nI h)] σ (liI (fun v σ' => (KT tx e i = 256 ∧ VT tx e i ≤ h) ∧ v = 1 ∧ gI σ' 11 34 = nI (VT tx e i) ∧ AtM σ' tx e (i + 1) ∨ ¬ (KT tx e i = 256 ∧ VT tx e i ≤ h) ∧ v = 0 ∧ AtX σ' tx e i)) := by
  refine S_X12_takesNumber hn hd ⟨_, blanks_M hn he hx hT ha, ?_⟩
  rintro σ1 a1 hf1
  have t1 : TxM σ1 tx e := hT.st hf1 (by decide)
  have hp := sT_le tx e i
  obtain ⟨b1, b2, b3, b4⟩ := rE_sp (c := isD) (tx := tx) hp
  have a1' : gI σ1 11 16 = nI (sT tx e i) := a1
  have ek : KT tx e i = 256 ↔ (sT tx e i < e ∧ isD (tx (sT tx e i)) = true) ∧ rE isD tx e (sT tx e i) - sT tx e i ≤ 5 := kT_num
  have hgo : sT tx e i < e ∧ isD (tx (sT tx e i)) = true → sT tx e i < rE isD tx e (sT tx e i) := fun z => by
    rw [rE_go z.1 z.2]
    have := (rE_sp (c := isD) (tx := tx) (n := e) (p := sT tx e i + 1) (by omega)).1
    omega
  have ev : sT tx e i < e ∧ isD (tx (sT tx e i)) = true → VT tx e i = nmU tx (sT tx e i) (min (rE isD tx e (sT tx e i) - sT tx e i) 5) := fun z => by
    show vT tx e (sT tx e i) = _
    unfold vT; rw [if_pos z]
  generalize hQ : (fun (v : Int32) (σ' : St) => (KT tx e i = 256 ∧ VT tx e i ≤ h) ∧ v = 1 ∧ gI σ' 11 34 = nI (VT tx e i) ∧ AtM σ' tx e (i + 1) ∨ ¬ (KT tx e i = 256 ∧ VT tx e i ≤ h) ∧ v = 0 ∧ AtX σ' tx e i) = Q
  have vlt : ∀ k, k ≤ 5 → (∀ t, t < k → isD (tx (sT tx e i + t)) = true) → nmU tx (sT tx e i) k < 100000 := fun k hk hD => by
    have h1 : nmU tx (sT tx e i) k < 10 ^ k := nmU_lt k hD
    have h2 : 10 ^ k ≤ 10 ^ 5 := Nat.pow_le_pow_right (by decide) hk
    omega
  have key : ∀ y, y ≤ rE isD tx e (sT tx e i) → sT tx e i ≤ y → ∀ σ2 : St, TxM σ2 tx e → gI σ2 11 16 = nI (sT tx e i) → gI σ2 11 34 = nI (nmU tx (sT tx e i) (min (y - sT tx e i) 5)) → K_X12_takesNumber_14 d n σ Q σ2 (nI h) (nI y) := by
    refine up_ind (P := fun y => sT tx e i ≤ y → ∀ σ2 : St, TxM σ2 tx e → gI σ2 11 16 = nI (sT tx e i) → gI σ2 11 34 = nI (nmU tx (sT tx e i) (min (y - sT tx e i) 5)) → K_X12_takesNumber_14 d n σ Q σ2 (nI h) (nI y)) (fun _ σ2 t2 a2 c2 => ?_) (fun y hy ih hpy σ2 t2 a2 c2 => ?_)
    · have bad : ¬ (KT tx e i = 256 ∧ VT tx e i ≤ h) → Q 0 σ2 := fun z => by rw [← hQ]; exact Or.inr ⟨z, rfl, a2⟩
      have fin : ((nI (rE isD tx e (sT tx e i)) = nI (sT tx e i) → Q 0 σ2) ∧ (¬ nI (rE isD tx e (sT tx e i)) = nI (sT tx e i) → (((5 : Int32) < (nI (rE isD tx e (sT tx e i) - sT tx e i)) → Q 0 σ2) ∧ (¬ (5 : Int32) < (nI (rE isD tx e (sT tx e i) - sT tx e i)) → (((gI σ2 11 34) ≤ nI h → Q 1 (sI σ2 11 16 (nI (rE isD tx e (sT tx e i))))) ∧ (¬ (gI σ2 11 34) ≤ nI h → Q 0 σ2)))))) := by
        refine ⟨fun z => bad (fun w => ?_), fun z => ⟨fun z5 => bad (fun w => ?_), fun z5 => ?_⟩⟩
        · have z' := (nI_eq (by omega) (by omega)).mp z
          have := hgo (ek.mp w.1).1
          omega
        · have := (nI_ltI (a := 5) (by decide) (by omega)).mp z5
          have := (ek.mp w.1).2
          omega
        · have h5 : ¬ 5 < rE isD tx e (sT tx e i) - sT tx e i := fun w => z5 ((nI_ltI (a := 5) (by decide) (by omega)).mpr w)
          have hne : ¬ rE isD tx e (sT tx e i) = sT tx e i := fun w => z (by rw [w])
          have hlt : sT tx e i < e ∧ isD (tx (sT tx e i)) = true := by
            refine ⟨by omega, b3 _ (Nat.le_refl _) (by omega)⟩
          have hk : KT tx e i = 256 := ek.mpr ⟨hlt, by omega⟩
          have hv := ev hlt
          have hb := vlt (min (rE isD tx e (sT tx e i) - sT tx e i) 5) (Nat.min_le_right _ _) (fun t ht => b3 _ (by omega) (by omega))
          rw [c2, ← hv]
          rw [← hv] at hb
          have el : nI (VT tx e i) ≤ nI h ↔ VT tx e i ≤ h := nI_leI (by omega) hh
          refine ⟨fun w => ?_, fun w => bad (fun u => w (el.mpr u.2))⟩
          rw [← hQ]
          refine Or.inl ⟨⟨hk, el.mp w⟩, rfl, by rw [gI_sI_ne (by omega), c2, hv], AtM.nx hlt.1 ?_⟩
          rw [gI_sI_same]
          unfold tokE
          rw [if_neg (not_t (nl_D hlt.2)), if_pos hlt.2]
      refine B_X12_takesNumber_14 hn hd ?_
      rw [t2.1, a2, nI_sub b1]
      refine ⟨fun _ => fin, fun z => ?_⟩
      have hlt : rE isD tx e (sT tx e i) < e := by
        have : ¬ e ≤ rE isD tx e (sT tx e i) := fun w => z ((nI_leI (by omega) (by omega)).mpr w)
        omega
      have hv : vp_in (nI (rE isD tx e (sT tx e i))) 400 := vp_in_nI (by omega) (by decide)
      rw [nI_clamp (by omega), t2.2 _ hlt]
      exact ⟨hv, fun _ => fin, fun w1 => ⟨hv, fun _ => fin, fun w2 => absurd (sb8_Df (hx _) (b4 hlt) w1) w2⟩⟩
    · obtain ⟨s1, s2, s3⟩ := sb8_Dt (b3 y hpy hy)
      have hd' := isD_iff.mp (b3 y hpy hy)
      refine B_X12_takesNumber_14 hn hd ?_
      rw [t2.1, a2, nI_sub hpy, c2]
      refine ⟨fun z => absurd ((nI_leI (by omega) (by omega)).mp z) (by omega), fun z => ?_⟩
      have hv : vp_in (nI y) 400 := vp_in_nI (by omega) (by decide)
      rw [nI_clamp (by omega), t2.2 _ (by omega), nI_1]
      have e5 : (5 : Int32) ≤ nI (y - sT tx e i) ↔ 5 ≤ y - sT tx e i := nI_leI (a := 5) (by decide) (by omega)
      refine ⟨hv, fun w => absurd w s2, fun _ => ⟨hv, fun w => absurd w s3, fun _ => ⟨fun w => ?_, fun w => ⟨hv, ?_⟩⟩⟩⟩
      · have w5 := e5.mp w
        refine ih (by omega) σ2 t2 a2 ?_
        rw [c2, show min (y + 1 - sT tx e i) 5 = min (y - sT tx e i) 5 by omega]
      · have w5 : ¬ 5 ≤ y - sT tx e i := fun u => w (e5.mpr u)
        have hb := vlt (y - sT tx e i) (by omega) (fun t ht => b3 _ (by omega) (by omega))
        refine ih (by omega) _ (t2.w (gI_sI_ne (by omega)) (fun k => gI_sI_ne (by omega))) (by rw [gI_sI_ne (by omega)]; exact a2) ?_
        rw [gI_sI_same, s1, show min (y - sT tx e i) 5 = y - sT tx e i by omega, show (10 : Int32) * nI (nmU tx (sT tx e i) (y - sT tx e i)) = nI (10 * nmU tx (sT tx e i) (y - sT tx e i)) from nI_mul (a := 10) (by omega), nI_add, show nI (10 * nmU tx (sT tx e i) (y - sT tx e i) + tx y) - 48 = nI (10 * nmU tx (sT tx e i) (y - sT tx e i) + tx y - 48) from nI_sub (b := 48) (by omega), show min (y + 1 - sT tx e i) 5 = (y - sT tx e i) + 1 by omega, nmU, show sT tx e i + (y - sT tx e i) = y by omega]
        congr 1; omega
  rw [a1']
  refine key _ b1 (Nat.le_refl _) _ (t1.w (gI_sI_ne (by omega)) (fun k => gI_sI_ne (by omega))) (by rw [gI_sI_ne (by omega)]; exact a1') ?_
  rw [gI_sI_same, Nat.sub_self, Nat.zero_min, nmU]; rfl
/-! steps said so far -/
def OpF (σ : St) (F : Nat → Nat → Int32) : Prop := ∀ q k, (q = 55 ∨ q = 56) → k < 4500 → gI σ q k = F q k
def PsM (σ : St) (F : Nat → Nat → Int32) (C : List Op) : Prop := gI σ 11 18 = nI (4500 + C.length) ∧ (∀ k o, C[k]? = some o → gI σ 55 (4500 + k) = nI o.1 ∧ gI σ 56 (4500 + k) = nI o.2) ∧ OpF σ F
theorem PsM.w {σ σ' : St} {F : Nat → Nat → Int32} {C : List Op} (h : PsM σ F C) (h1 : gI σ' 11 18 = gI σ 11 18) (h2 : ∀ k, gI σ' 55 k = gI σ 55 k) (h3 : ∀ k, gI σ' 56 k = gI σ 56 k) : PsM σ' F C := by
  refine ⟨by rw [h1]; exact h.1, fun k o hk => by rw [h2, h3]; exact h.2.1 k o hk, fun q k hq hk => ?_⟩
  rcases hq with e | e
  · subst e; rw [h2]; exact h.2.2 55 k (Or.inl rfl) hk
  · subst e; rw [h3]; exact h.2.2 56 k (Or.inr rfl) hk
theorem PsM.st {m : Md} {σ σ' : St} {F : Nat → Nat → Int32} {C : List Op} (h : PsM σ F C) (hf : Fr m σ σ') (ho : (cellFree m 11 18 && (rowFree m 55 && rowFree m 56)) = true) : PsM σ' F C := by
  simp only [Bool.and_eq_true] at ho
  exact h.w (hf.cell ho.1) (hf.row ho.2.1) (hf.row ho.2.2)
theorem puts_M {d n : Nat} {σ : St} {F : Nat → Nat → Int32} {C : List Op} {a b : Nat} (hn : FIX ≤ n) (h : PsM σ F C) (hl : C.length < 500) : Cn d n M_X12_puts md_X12_puts [.ref 11, .int (nI a), .int (nI b)] σ (liV (fun σ' => PsM σ' F (C ++ [(a, b)]))) := by
  obtain ⟨h1, h2, h3⟩ := h
  have e : (nI (4500 + C.length)).toNatClampNeg = 4500 + C.length := nI_clamp (by omega)
  have hv : vp_in (nI (4500 + C.length)) 5000 := vp_in_nI (by omega) (by decide)
  refine S_X12_puts hn ?_
  simp (disch := omega) only [gI_sI_ne, gI_sI_same, h1, e, nI_1]
  refine ⟨hv, hv, ?_, fun k o hk => ?_, fun q k hq hk => ?_⟩
  · rw [gI_sI_same, List.length_append]; rfl
  · have e55 : ∀ σ1 σ2 : St, gI (sI (sI σ1 56 (4500 + C.length) (nI b)) 11 18 (nI (4500 + C.length + 1))) 55 (4500 + k) = gI σ1 55 (4500 + k) := fun σ1 σ2 => by rw [gI_sI_ne (by omega), gI_sI_ne (by omega)]
    have e56 : ∀ σ1 : St, gI (sI σ1 11 18 (nI (4500 + C.length + 1))) 56 (4500 + k) = gI σ1 56 (4500 + k) := fun σ1 => gI_sI_ne (by omega)
    rw [e55 _ σ, e56, gI_sI, gI_sI]
    by_cases ek : k = C.length
    · subst ek
      rw [List.getElem?_append_right (Nat.le_refl _), Nat.sub_self] at hk
      simp at hk
      rw [if_pos ⟨rfl, rfl⟩, if_pos ⟨rfl, rfl⟩, ← hk]
      exact ⟨rfl, rfl⟩
    · have hlt : k < C.length := by
        have := (List.getElem?_eq_some_iff.mp hk).1
        rw [List.length_append] at this
        have e1 : [(a, b)].length = 1 := rfl
        omega
      rw [if_neg (by omega), if_neg (by omega), gI_sI_ne (by omega)]
      rw [List.getElem?_append_left hlt] at hk
      exact h2 k o hk
  · rw [gI_sI_ne (by omega), gI_sI_ne (by omega), gI_sI_ne (by omega)]
    exact h3 q k hq hk
