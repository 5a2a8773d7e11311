/-! ===== the model: words, signs, numbers of a text ===== -/
theorem sb8_lo : ∀ x, x < 128 → sb8 x = nI x := by decide +kernel
theorem sb8_hi : ∀ x, x < 256 → 128 ≤ x → (sb8 x).toInt < 0 := by decide +kernel
theorem sb8_is {x s : Nat} (hx : x < 256) (hs : s < 128) : sb8 x = nI s ↔ x = s := by
  rcases Nat.lt_or_ge x 128 with h | h
  · rw [sb8_lo x h, nI_eq (by omega) (by omega)]
  · have := sb8_hi x hx h
    refine ⟨fun z => ?_, fun z => by omega⟩
    rw [z, nI_toInt (by omega)] at this
    omega
theorem sb8_Lt {x : Nat} (h : isL x = true) : sb8 x = nI x ∧ ¬ sb8 x < 97 ∧ ¬ (122 : Int32) < sb8 x := by
  have := isL_iff.mp h
  rw [sb8_lo x (by omega)]
  exact ⟨rfl, fun z => absurd ((nI_ltI (b := 97) (by omega) (by decide)).mp z) (by omega), fun z => absurd ((nI_ltI (a := 122) (by decide) (by omega)).mp z) (by omega)⟩
theorem sb8_Lf {x : Nat} (hx : x < 256) (h : isL x = false) (h2 : ¬ sb8 x < 97) : (122 : Int32) < sb8 x := by
  rcases Nat.lt_or_ge x 128 with g | g
  · rw [sb8_lo x g] at h2 ⊢
    have h3 : ¬ x < 97 := fun z => h2 ((nI_ltI (b := 97) (by omega) (by decide)).mpr z)
    refine (nI_ltI (a := 122) (by decide) (by omega)).mpr ?_
    have h4 : ¬ (97 ≤ x ∧ x ≤ 122) := fun z => by rw [isL_iff.mpr z] at h; cases h
    omega
  · have := sb8_hi x hx g
    exact absurd (lt_ti.mpr (by rw [show (97 : Int32).toInt = 97 by decide]; omega)) h2
theorem sb8_Dt {x : Nat} (h : isD x = true) : sb8 x = nI x ∧ ¬ sb8 x < 48 ∧ ¬ (57 : Int32) < sb8 x := by
  have := isD_iff.mp h
  rw [sb8_lo x (by omega)]
  exact ⟨rfl, fun z => absurd ((nI_ltI (b := 48) (by omega) (by decide)).mp z) (by omega), fun z => absurd ((nI_ltI (a := 57) (by decide) (by omega)).mp z) (by omega)⟩
theorem sb8_Df {x : Nat} (hx : x < 256) (h : isD x = false) (h2 : ¬ sb8 x < 48) : (57 : Int32) < sb8 x := by
  rcases Nat.lt_or_ge x 128 with g | g
  · rw [sb8_lo x g] at h2 ⊢
    have h3 : ¬ x < 48 := fun z => h2 ((nI_ltI (b := 48) (by omega) (by decide)).mpr z)
    refine (nI_ltI (a := 57) (by decide) (by omega)).mpr ?_
    have h4 : ¬ (48 ≤ x ∧ x ≤ 57) := fun z => by rw [isD_iff.mpr z] at h; cases h
    omega
  · have := sb8_hi x hx g
    exact absurd (lt_ti.mpr (by rw [show (48 : Int32).toInt = 48 by decide]; omega)) h2
/-- the model's text -/
def TxM (σ : St) (tx : Nat → Nat) (e : Nat) : Prop := gI σ 11 15 = nI e ∧ ∀ k, k < e → gI σ 60 k = sb8 (tx k)
theorem TxM.w {σ σ' : St} {tx : Nat → Nat} {e : Nat} (h : TxM σ tx e) (h1 : gI σ' 11 15 = gI σ 11 15) (h2 : ∀ k, gI σ' 60 k = gI σ 60 k) : TxM σ' tx e := ⟨by rw [h1]; exact h.1, fun k hk => by rw [h2]; exact h.2 k hk⟩
theorem TxM.st {m : Md} {σ σ' : St} {tx : Nat → Nat} {e : Nat} (h : TxM σ tx e) (hf : Fr m σ σ') (ho : (cellFree m 11 15 && rowFree m 60) = true) : TxM σ' tx e := by
  simp only [Bool.and_eq_true] at ho
  exact h.w (hf.cell ho.1) (hf.row ho.2)
/-- in the blanks before token i; at it -/
def AtM (σ : St) (tx : Nat → Nat) (e i : Nat) : Prop := ∃ p, p ≤ e ∧ gI σ 11 16 = nI p ∧ rE isB tx e p = sT tx e i
def AtX (σ : St) (tx : Nat → Nat) (e i : Nat) : Prop := gI σ 11 16 = nI (sT tx e i)
theorem sT_fix (tx : Nat → Nat) (e i : Nat) : rE isB tx e (sT tx e i) = sT tx e i := rE_stop (fun z => by rw [sT_nb tx e i z.1] at z; exact absurd z.2 (by decide))
theorem AtX.m {σ : St} {tx : Nat → Nat} {e i : Nat} (h : AtX σ tx e i) : AtM σ tx e i := ⟨sT tx e i, sT_le tx e i, h, sT_fix tx e i⟩
theorem AtM.nx {σ : St} {tx : Nat → Nat} {e i : Nat} (h : sT tx e i < e) (ha : gI σ 11 16 = nI (tokE tx e (sT tx e i))) : AtM σ tx e (i + 1) := ⟨_, (tokE_gt h).2, ha, (sT_s h).symm⟩
theorem blanks_M {d n : Nat} {σ : St} {tx : Nat → Nat} {e i : Nat} (hn : FIX ≤ n) (he : e ≤ 400) (hx : ∀ k, tx k < 256) (hT : TxM σ tx e) (ha : AtM σ tx e i) : Cn d n M_X12_blanks md_X12_blanks [.ref 11] σ (liV (fun σ' => AtX σ' tx e i)) := by
  obtain ⟨p, hp, ha, hr⟩ := ha
  have hb := rE_sp (c := isB) (tx := tx) hp
  rw [hr] at hb
  obtain ⟨b1, b2, b3, b4⟩ := hb
  refine S_X12_blanks hn ?_
  generalize hQ : (fun (σ' : St) => AtX σ' tx e i) = Q
  have key : ∀ y, y ≤ sT tx e i → p ≤ y → ∀ σ1 : St, TxM σ1 tx e → gI σ1 11 16 = nI y → K_X12_blanks_0 d n σ Q σ1 := by
    refine up_ind (P := fun y => p ≤ y → ∀ σ1 : St, TxM σ1 tx e → gI σ1 11 16 = nI y → K_X12_blanks_0 d n σ Q σ1) (fun _ σ1 t1 a1 => ?_) (fun y hy ih hpy σ1 t1 a1 => ?_)
    · have fin : Q σ1 := by rw [← hQ]; exact a1
      refine B_X12_blanks_0 hn ?_
      rw [t1.1, a1]
      refine ⟨fun _ => fin, fun z => ?_⟩
      have hlt : sT tx e i < e := by
        have : ¬ e ≤ sT tx e i := fun w => z ((nI_leI (by omega) (by omega)).mpr w)
        omega
      have hv : vp_in (nI (sT tx e i)) 400 := vp_in_nI (by omega) (by decide)
      have nb := b4 hlt
      rw [nI_clamp (by omega), t1.2 _ hlt]
      have n1 : ¬ sb8 (tx (sT tx e i)) = 32 := fun w => by
        have := (sb8_is (s := 32) (hx _) (by decide)).mp w
        rw [this] at nb; exact absurd nb (by decide)
      have n2 : ¬ sb8 (tx (sT tx e i)) = 10 := fun w => by
        have := (sb8_is (s := 10) (hx _) (by decide)).mp w
        rw [this] at nb; exact absurd nb (by decide)
      exact ⟨hv, fun w => absurd w n1, fun _ => ⟨hv, fun _ => fin, fun w => absurd w n2⟩⟩
    · refine B_X12_blanks_0 hn ?_
      rw [t1.1, a1]
      refine ⟨fun z => absurd ((nI_leI (by omega) (by omega)).mp z) (by omega), fun z => ?_⟩
      have hv : vp_in (nI y) 400 := vp_in_nI (by omega) (by decide)
      rw [nI_clamp (by omega), t1.2 _ (by omega), nI_1]
      have nxt : K_X12_blanks_0 d n σ Q (sI σ1 11 16 (nI (y + 1))) := ih (by omega) _ (t1.w (gI_sI_ne (by omega)) (fun k => gI_sI_ne (by omega))) (gI_sI_same _ _ _ _)
      refine ⟨hv, fun _ => nxt, fun n1 => ⟨hv, fun n2 => ?_, fun _ => nxt⟩⟩
      have yb := isB_iff.mp (b3 y hpy hy)
      rcases yb with w | w
      · exact absurd ((sb8_is (s := 32) (hx _) (by decide)).mpr w) n1
      · exact absurd ((sb8_is (s := 10) (hx _) (by decide)).mpr w) n2
  exact key p b1 (Nat.le_refl _) σ hT ha
/-- what the model's word is -/
def wordU (tx : Nat → Nat) (e p : Nat) : Nat := if rE isL tx e p - p ≤ 7 then pkU tx p (rE isL tx e p - p) else 0
theorem pkU_lt {tx : Nat → Nat} {p : Nat} (hx : ∀ k, tx k < 256) : ∀ k, pkU tx p k < 256 ^ k
  | 0 => by rw [pkU]; decide
  | k + 1 => by
    have h1 := pkU_lt (p := p) hx k
    have h2 := hx (p + k)
    rw [pkU, Nat.pow_succ]
    generalize 256 ^ k = z at *
    omega
theorem wordU_lt {tx : Nat → Nat} {e p : Nat} (hx : ∀ k, tx k < 256) : wordU tx e p < 2 ^ 56 := by
  unfold wordU
  split
  · rename_i h
    have h1 := pkU_lt (p := p) hx (rE isL tx e p - p)
    have h2 : 256 ^ (rE isL tx e p - p) ≤ 256 ^ 7 := Nat.pow_le_pow_right (by decide) h
    exact Nat.lt_of_lt_of_le h1 h2
  · decide
theorem lN_bv (a : Nat) : (lN a).toBitVec = BitVec.ofNat 64 a := rfl
theorem lN_pack {a b : Nat} (ha : a < 2 ^ 56) (hb : b < 256) : (lN a <<< ((8 : Int32).toInt64 &&& 63)) ||| (nI b).toInt64 = lN (a * 256 + b) := by
  rw [nI_l (by omega), show ((8 : Int32).toInt64 &&& 63) = 8 by decide]
  apply Int64.toBitVec_inj.mp
  rw [Int64.toBitVec_or, Int64.toBitVec_shiftLeft, lN_bv, lN_bv, lN_bv, show (8 : Int64).toBitVec.smod 64 = 8#64 by decide]
  apply BitVec.eq_of_toNat_eq
  rw [BitVec.shiftLeft_eq', BitVec.toNat_or, BitVec.toNat_shiftLeft, BitVec.toNat_ofNat, BitVec.toNat_ofNat, BitVec.toNat_ofNat, BitVec.toNat_ofNat, show 8 % 2 ^ 64 = 8 by decide, Nat.mod_eq_of_lt (show a < 2 ^ 64 by omega), Nat.mod_eq_of_lt (show b < 2 ^ 64 by omega), Nat.mod_eq_of_lt (show a * 256 + b < 2 ^ 64 by omega), Nat.shiftLeft_eq, Nat.mod_eq_of_lt (show a * 2 ^ 8 < 2 ^ 64 by omega), ← Nat.shiftLeft_eq, ← Nat.shiftLeft_add_eq_or_of_lt (by omega), Nat.shiftLeft_eq]
theorem word_M {d n : Nat} {σ : St} {tx : Nat → Nat} {e i : Nat} (hn : FIX ≤ n) (hd : 1 ≤ d) (he : e ≤ 400) (hx : ∀ k, tx k < 256) (hT : TxM σ tx e) (ha : AtM σ tx e i) : Cn d n M_X12_word md_X12_word [.ref 11] σ (liL (fun v σ' => v = lN (wordU tx e (sT tx e i)) ∧ AtX σ' tx e i ∧ gI σ' 11 33 = nI (rE isL tx e (sT tx e i)))) := by
  refine S_X12_word hn hd ⟨_, blanks_M hn he hx hT ha, ?_⟩
  rintro σ1 a1 hf1
  have t1 : TxM σ1 tx e := hT.st hf1 (by decide)
  have hp := sT_le tx e i
  obtain ⟨b1, b2, b3, b4⟩ := rE_sp (c := isL) (tx := tx) hp
  generalize hQ : (fun (v : Int64) (σ' : St) => v = lN (wordU tx e (sT tx e i)) ∧ AtX σ' tx e i ∧ gI σ' 11 33 = nI (rE isL tx e (sT tx e i))) = Q
  unfold AtX at a1 hQ
  unfold wordU at hQ
  generalize sT tx e i = p at *
  generalize hE : rE isL tx e p = E at *
  have key : ∀ y, y ≤ E → p ≤ y → ∀ σ2 : St, TxM σ2 tx e → gI σ2 11 16 = nI p → gI σ2 11 33 = nI y → K_X12_word_14 d n σ Q σ2 (lN (if y - p ≤ 7 then pkU tx p (y - p) else 0)) := by
    refine up_ind (P := fun y => p ≤ y → ∀ σ2 : St, TxM σ2 tx e → gI σ2 11 16 = nI p → gI σ2 11 33 = nI y → K_X12_word_14 d n σ Q σ2 (lN (if y - p ≤ 7 then pkU tx p (y - p) else 0))) (fun _ σ2 t2 a2 c2 => ?_) (fun y hy ih hpy σ2 t2 a2 c2 => ?_)
    · have fin : (((nI (E - p)) ≤ 7 → Q (lN (if E - p ≤ 7 then pkU tx p (E - p) else 0)) σ2) ∧ (¬ (nI (E - p)) ≤ 7 → Q 0 σ2)) := by
        have e7 : nI (E - p) ≤ 7 ↔ E - p ≤ 7 := nI_leI (b := 7) (by omega) (by decide)
        rw [← hQ]
        refine ⟨fun h => ⟨rfl, a2, c2⟩, fun h => ⟨?_, a2, c2⟩⟩
        rw [if_neg (fun z => h (e7.mpr z))]; rfl
      refine B_X12_word_14 hn hd ?_
      rw [t2.1, c2, a2, nI_sub b1]
      refine ⟨fun _ => fin, fun z => ?_⟩
      have hlt : E < e := by
        have : ¬ e ≤ E := fun w => z ((nI_leI (by omega) (by omega)).mpr w)
        omega
      have hv : vp_in (nI E) 400 := vp_in_nI (by omega) (by decide)
      rw [nI_clamp (by omega), t2.2 _ hlt]
      exact ⟨hv, fun _ => fin, fun w1 => ⟨hv, fun _ => fin, fun w2 => absurd (sb8_Lf (hx _) (b4 hlt) w1) w2⟩⟩
    · obtain ⟨s1, s2, s3⟩ := sb8_Lt (b3 y hpy hy)
      refine B_X12_word_14 hn hd ?_
      rw [t2.1, c2, a2, nI_sub hpy]
      refine ⟨fun z => absurd ((nI_leI (by omega) (by omega)).mp z) (by omega), fun z => ?_⟩
      have hv : vp_in (nI y) 400 := vp_in_nI (by omega) (by decide)
      rw [nI_clamp (by omega), t2.2 _ (by omega), nI_1]
      have e7 : (7 : Int32) ≤ nI (y - p) ↔ 7 ≤ y - p := nI_leI (a := 7) (by decide) (by omega)
      have nxt : ∀ v, v = lN (if y + 1 - p ≤ 7 then pkU tx p (y + 1 - p) else 0) → K_X12_word_14 d n σ Q (sI σ2 11 33 (nI (y + 1))) v := fun v hv => by
        rw [hv]
        exact ih (by omega) _ (t2.w (gI_sI_ne (by omega)) (fun k => gI_sI_ne (by omega))) (by rw [gI_sI_ne (by omega)]; exact a2) (gI_sI_same _ _ _ _)
      refine ⟨hv, fun w => absurd w s2, fun _ => ⟨hv, fun w => absurd w s3, fun _ => ⟨fun w => nxt _ ?_, fun w => ⟨hv, nxt _ ?_⟩⟩⟩⟩
      · rw [if_neg (by have := e7.mp w; omega)]; rfl
      · have h7 : ¬ 7 ≤ y - p := fun u => w (e7.mpr u)
        have hl := isL_iff.mp (b3 y hpy hy)
        have hk : pkU tx p (y - p) < 2 ^ 56 := by
          have h1 := pkU_lt (p := p) hx (y - p)
          have h2 : 256 ^ (y - p) ≤ 256 ^ 7 := Nat.pow_le_pow_right (by decide) (by omega)
          exact Nat.lt_of_lt_of_le h1 h2
        rw [if_pos (by omega), s1, lN_pack hk (by omega), if_pos (by omega), show y + 1 - p = (y - p) + 1 by omega, pkU, show p + (y - p) = y by omega]
  have k0 := key p b1 (Nat.le_refl _) (sI σ1 11 33 (gI σ1 11 16)) (t1.w (gI_sI_ne (by omega)) (fun k => gI_sI_ne (by omega))) (by rw [gI_sI_ne (by omega)]; exact a1) (by rw [gI_sI_same]; exact a1)
  rw [Nat.sub_self, if_pos (Nat.zero_le _), pkU] at k0
  exact k0
