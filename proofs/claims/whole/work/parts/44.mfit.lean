/-! ===== the model: fits ===== -/
def tM (w : Wd) : Tb := (LM w, VM w)
/-- the model's search, where it stands -/
def MS (σ : St) (w : Wd) (s : Se) : Prop := gI σ 11 49 = nI s.g ∧ (∀ k, k ≤ s.g → ∀ l, l < 10 → gI σ 66 (10 * k + l) = nI (s.r k l)) ∧ (∀ l, l < 10 → gI σ 67 l = nI (s.r s.g l)) ∧ (∀ l, l < w.N → (gI σ 68 l).toInt = ovN w (tM w) (s.r s.g) l) ∧ (∀ l, w.N ≤ l → l < 10 → gI σ 68 l = 0) ∧ (∀ l, l < 10 → gI σ 69 l = nI (s.b l)) ∧ (gI σ 11 50).toInt = s.q
def okS (m : Md) : Bool := cellFree m 11 49 && (cellFree m 11 50 && (rowFree m 66 && (rowFree m 67 && (rowFree m 68 && rowFree m 69))))
theorem MS.fr {σ σ' : St} {w : Wd} {s : Se} (h : MS σ w s) (h1 : gI σ' 11 49 = gI σ 11 49) (h2 : gI σ' 11 50 = gI σ 11 50) (h3 : ∀ q k, 66 ≤ q → q ≤ 69 → gI σ' q k = gI σ q k) : MS σ' w s := by
  obtain ⟨a1, a2, a3, a4, a5, a6, a7⟩ := h
  exact ⟨by rw [h1]; exact a1, fun k hk l hl => by rw [h3 _ _ (by omega) (by omega)]; exact a2 k hk l hl, fun l hl => by rw [h3 _ _ (by omega) (by omega)]; exact a3 l hl, fun l hl => by rw [h3 _ _ (by omega) (by omega)]; exact a4 l hl, fun l hl hl2 => by rw [h3 _ _ (by omega) (by omega)]; exact a5 l hl hl2, fun l hl => by rw [h3 _ _ (by omega) (by omega)]; exact a6 l hl, by rw [h2]; exact a7⟩
theorem MS.st {m : Md} {σ σ' : St} {w : Wd} {s : Se} (h : MS σ w s) (hf : Fr m σ σ') (ho : okS m = true) : MS σ' w s := by
  simp only [okS, Bool.and_eq_true] at ho
  obtain ⟨o1, o2, o3, o4, o5, o6⟩ := ho
  refine h.fr (hf.cell o1) (hf.cell o2) (fun q k a b => ?_)
  rcases (show q = 66 ∨ q = 67 ∨ q = 68 ∨ q = 69 by omega) with rfl | rfl | rfl | rfl
  · exact hf.row o3 k
  · exact hf.row o4 k
  · exact hf.row o5 k
  · exact hf.row o6 k
theorem held_nI (x : Int32) : fn_X12_held_ x = nI (heldP x.toInt) := by
  unfold fn_X12_held_ heldP
  rw [eq_ti, mxI_ti, mnI_ti, z_ti, show (250 : Int32).toInt = 250 by decide, nI_toInt (by omega)]
  omega
theorem sI_sI (σ : St) (q k : Nat) (x y : Int32) : sI (sI σ q k x) q k y = sI σ q k y := by
  unfold sI
  congr 1
  funext j b
  simp only [up2]
  split <;> rfl
theorem heldP_id {x : Nat} (h : x ≤ 250) : heldP (x : Int) = x := by unfold heldP; omega
theorem ovN_rng {w : Wd} (hw : WW w) (t : Tb) (c : Nat → Nat) (l : Nat) : -9 ≤ ovN w t c l ∧ ovN w t c l ≤ 8 := ovr_rng hw c _ l
theorem mulsp {x : Int} {sp : Nat} (h : -9 ≤ x ∧ x ≤ 8) (h2 : sp ≤ 50) : -450 ≤ x * sp ∧ x * sp ≤ 450 := by
  have h1 : -9 * (sp : Int) ≤ x * sp := Int.mul_le_mul_of_nonneg_right h.1 (by omega)
  have h3 : x * (sp : Int) ≤ 8 * sp := Int.mul_le_mul_of_nonneg_right h.2 (by omega)
  omega
theorem tries_spec {d n : Nat} {σ : St} {w : Wd} {s : Se} {c : Nat → Nat} {k : Nat} (hn : FIX ≤ n) (hd : 2 ≤ d) (hM : MT σ w c) (hw : WW w) (hS : MS σ w s) (hs : SeOk s) (hk : k ≤ w.N) : Cn d n M_X12_tries md_X12_tries [.ref 11, .int (nI k)] σ (liV (fun σ' => MT σ' w (tryC w (tM w) (s.r s.g) k) ∧ MS σ' w s)) := by
  have hN := hw.N
  have hsp := hw.sp
  refine S_X12_tries hn hd ?_
  generalize hQ : (fun (σ' : St) => MT σ' w (tryC w (tM w) (s.r s.g) k) ∧ MS σ' w s) = Q
  have loop : ∀ l, l ≤ 10 → ∀ (c : Nat → Nat) (σ1 : St), MT σ1 w c → MS σ1 w s → (∀ l', l' < l → c l' = tryC w (tM w) (s.r s.g) k l') → K_X12_tries_2 d n σ Q σ1 (nI k) (nI l) := by
    refine up_ind (N := 10) ?_ ?_
    · intro c σ1 h1 h2 h3
      refine B_X12_tries_2 hn hd ⟨fun _ => ?_, fun h => absurd (by decide) h⟩
      rw [← hQ]
      exact ⟨⟨h1.1, h1.2.1, h1.2.2.1, fun l hl => by rw [h1.2.2.2 l hl, h3 l hl]⟩, h2⟩
    · intro l hl ih c σ1 h1 h2 h3
      have hv : vp_in (nI l) 10 := vp_in_nI (by omega) (by decide)
      have e67 := h2.2.2.1 l hl
      have hcur := hs.1 s.g l
      have go : ∀ v, v = tryC w (tM w) (s.r s.g) k l → K_X12_tries_2 d n σ Q (sI σ1 63 l (nI v)) (nI k) (nI l + 1) := by
        intro v hv
        rw [nI_1]
        refine ih (setC c l v) _ (h1.now (fun k _ => rfl)) (h2.fr (gI_sI_ne (by omega)) (gI_sI_ne (by omega)) (fun q k a b => gI_sI_ne (by omega))) (fun l' hl' => ?_)
        unfold setC
        by_cases e : l' = l
        · rw [if_pos e, e, hv]
        · rw [if_neg e]; exact h3 l' (by omega)
      have dbl : ∀ x y : Int32, sI (sI σ1 63 l x) 63 l y = sI σ1 63 l y := fun x y => sI_sI σ1 63 l x y
      refine B_X12_tries_2 hn hd ⟨fun h => absurd h (by rw [show (10 : Int32) = nI 10 from rfl]; exact nI_ge hl (by decide)), fun _ => ⟨hv, hv, ?_⟩⟩
      rw [nI_clamp (by omega), gI_sI_ne (j := 11) (by omega), gI_sI_ne (j := 68) (by omega), gI_sI_ne (j := 67) (by omega), gI_sI_ne (j := 11) (by omega), dbl, dbl, dbl, e67, h1.1.N, h1.1.sp]
      refine ⟨fun hne => ⟨fun hlk => go _ ?_, fun hlk => ⟨hv, hv, fun hle => ⟨hv, ?_⟩, fun hle => ⟨hv, ?_⟩⟩⟩, fun heq => ⟨hv, hv, hv, ?_⟩⟩
      · have e1 : k ≠ w.N := fun z => hne (by rw [z])
        have e2 : l ≠ k := fun z => hlk (by rw [z])
        unfold tryC; rw [if_neg e1, if_neg e2]; split <;> rfl
      · have e1 : k ≠ w.N := fun z => hne (by rw [z])
        have e2 : l = k := (nI_eq (by omega) (by omega)).mp hlk
        rw [held_nI]
        refine go _ ?_
        have h68 := h2.2.2.2.1 l (by omega)
        have := le_ti.mp hle
        rw [h68, z_ti] at this
        unfold tryC
        rw [if_neg (by omega), if_neg e1, if_pos e2, if_neg (by omega), ti_add, ti_neg, nI_toInt (by omega), nI_toInt (by omega)] <;> (try rw [ti_neg]) <;> (try rw [nI_toInt (by omega)]) <;> (try rw [nI_toInt (by omega)]) <;> omega
      · have e1 : k ≠ w.N := fun z => hne (by rw [z])
        have e2 : l = k := (nI_eq (by omega) (by omega)).mp hlk
        rw [held_nI]
        refine go _ ?_
        have h68 := h2.2.2.2.1 l (by omega)
        have : ¬ (gI σ1 68 l).toInt ≤ (0 : Int32).toInt := fun z => hle (le_ti.mpr z)
        rw [h68, z_ti] at this
        unfold tryC
        rw [if_neg (by omega), if_neg e1, if_pos e2, if_pos (by omega), ti_add, nI_toInt (by omega), nI_toInt (by omega)] <;> (try rw [nI_toInt (by omega), nI_toInt (by omega)]) <;> omega
      · have e1 : k = w.N := (nI_eq (by omega) (by omega)).mp heq
        rw [held_nI]
        refine go _ ?_
        unfold tryC
        by_cases e : w.N ≤ l
        · rw [if_pos e, h2.2.2.2.2.1 l e hl]
          rw [show (0 : Int32) * nI w.sp = 0 by simp, show nI (s.r s.g l) + 0 = nI (s.r s.g l) by simp, nI_toInt (by omega), heldP_id hcur]
        · rw [if_neg e, if_pos e1]
          have h68 := h2.2.2.2.1 l (by omega)
          have hm := mulsp (ovN_rng hw (tM w) (s.r s.g) l) hsp.2
          have em : (gI σ1 68 l * nI w.sp).toInt = ovN w (tM w) (s.r s.g) l * w.sp := by
            rw [ti_mul] <;> rw [h68, nI_toInt (by omega)] <;> omega
          rw [ti_add, em, nI_toInt (by omega)] <;> rw [em, nI_toInt (by omega)] <;> omega
  exact loop 0 (by decide) c σ hM hS (fun l h => absurd h (by omega))
theorem wasGone_spec {d n : Nat} {σ : St} {w : Wd} {s : Se} {c : Nat → Nat} (hn : FIX ≤ n) (hd : 2 ≤ d) (hM : MT σ w c) (hw : WW w) (hS : MS σ w s) (hs : SeOk s) (hc : cP c) (hg : s.g ≤ 60) : Cn d n M_X12_wasGone md_X12_wasGone [.ref 11] σ (liI (fun v σ' => σ' = σ ∧ (v = 1 ∧ isGoneS w s c ∨ v = 0 ∧ ¬ isGoneS w s c))) := by
  have hN := hw.N
  refine S_X12_wasGone hn (by omega) ?_
  generalize hQ : (fun (v : Int32) (σ' : St) => σ' = σ ∧ (v = 1 ∧ isGoneS w s c ∨ v = 0 ∧ ¬ isGoneS w s c)) = Q
  have e0 : mxI 0 (gI σ 11 49 + 1 - 8) = nI (s.g + 1 - 8) := by
    rw [hS.1, nI_1, eq_ti, mxI_ti, ti_sub, nI_toInt (by omega), nI_toInt (by omega), z_ti, show (8 : Int32).toInt = 8 by decide]
    · omega
    · rw [nI_toInt (by omega), show (8 : Int32).toInt = 8 by decide]; omega
    · rw [nI_toInt (by omega), show (8 : Int32).toInt = 8 by decide]; omega
  rw [e0]
  have outer : ∀ k, k ≤ s.g + 1 → (∀ k', k' < k → k' ≤ s.g → s.g < k' + 8 → ∃ l, l < w.N ∧ s.r k' l ≠ c l) → s.g < k + 8 → K_X12_wasGone_14 d n σ Q σ (nI k) := by
    refine up_ind (N := s.g + 1) ?_ ?_
    · intro h _
      refine B_X12_wasGone_14 hn (by omega) ⟨fun _ => ?_, fun h => absurd (by rw [hS.1]; exact nI_lt (by omega) (by omega)) h⟩
      rw [← hQ]
      refine ⟨rfl, Or.inr ⟨rfl, ?_⟩⟩
      rintro ⟨k, k1, k2, k3⟩
      obtain ⟨l, l1, l2⟩ := h k (by omega) k1 k2
      exact l2 (k3 l l1)
    · intro k hk ih h hk8
      refine B_X12_wasGone_14 hn (by omega) ⟨fun h => absurd (by rw [hS.1] at h; exact nI_le (show k ≤ s.g by omega) (by omega)) (fun z => by have h1 := lt_ti.mp h; have h2 := le_ti.mp z; rw [hS.1] at h1; omega), fun _ => ?_⟩
      have inner : ∀ l, l ≤ w.N → ∀ x : Int32, (x = 1 ∧ (∀ l', l' < l → s.r k l' = c l') ∨ x = 0 ∧ ∃ l', l' < w.N ∧ s.r k l' ≠ c l') → K_X12_wasGone_26 d n σ Q σ (nI k) x (nI l) := by
        refine up_ind (N := w.N) ?_ ?_
        · intro x hx
          refine B_X12_wasGone_26 hn (by omega) ⟨fun _ => ⟨fun hz => ?_, fun hz => ?_⟩, fun h => absurd (by rw [hM.1.N]; exact nI_le (Nat.le_refl _) (by omega)) h⟩
          · rw [nI_1]
            refine ih (fun k' a b e => ?_) (by omega)
            rcases Nat.lt_or_ge k' k with z | z
            · exact h k' z b e
            · rw [show k' = k by omega]
              rcases hx with q | q
              · rw [q.1] at hz; exact absurd hz (by decide)
              · exact q.2
          · rcases hx with q | q
            · rw [← hQ]; exact ⟨rfl, Or.inl ⟨rfl, k, by omega, hk8, q.2⟩⟩
            · exact absurd q.1 hz
        · intro l hl ih2 x hx
          have e2 : 10 * nI k + nI l = nI (10 * k + l) := by
            rw [eq_ti, ti_add, ti_mul] <;> (try rw [ti_mul]) <;> rw [nI_toInt (by omega)] <;> (try rw [nI_toInt (by omega)]) <;> (try rw [nI_toInt (by omega)]) <;> (try rw [show (10 : Int32).toInt = 10 by decide]) <;> omega
          have hcl := hc l
          have hrl := hs.1 k l
          refine B_X12_wasGone_26 hn (by omega) ⟨fun h => absurd (by rw [hM.1.N] at h; exact h) (nI_ge hl (by omega)), fun _ => ⟨fun hz => ?_, fun hz => ?_⟩⟩
          · rw [nI_1]
            rcases hx with q | q
            · rw [q.1] at hz; exact absurd hz (by decide)
            · exact ih2 0 (Or.inr ⟨rfl, q.2⟩)
          · rw [e2, nI_clamp (by omega), nI_clamp (by omega), hS.2.1 k (by omega) l (by omega), hM.2.2.2 l (by omega), nI_1]
            have hall := (hx.resolve_right (fun q => hz q.1)).2
            refine ⟨vp_in_nI (by omega) (by decide), vp_in_nI (by omega) (by decide), fun hne => ih2 0 (Or.inr ⟨rfl, l, hl, fun z => hne (by rw [z])⟩), fun heq => ih2 1 (Or.inl ⟨rfl, fun l' hl' => ?_⟩)⟩
            rcases Nat.lt_or_ge l' l with z | z
            · exact hall l' z
            · rw [show l' = l by omega]; exact (nI_eq (by omega) (by omega)).mp heq
      exact inner 0 (Nat.zero_le _) 1 (Or.inl ⟨rfl, fun l' h => absurd h (by omega)⟩)
  exact outer (s.g + 1 - 8) (by omega) (fun k' a b e => by omega) (by omega)
