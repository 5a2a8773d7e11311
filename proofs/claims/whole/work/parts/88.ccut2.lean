/-! ===== the component cuts a text: words, signs, all of it ===== -/
theorem wordKind_C {d n : Nat} {σ : St} {tx : Nat → Nat} {p q : Nat} (hn : FIX ≤ n) (hd : 5 ≤ d) (hB : ByC σ tx q) (hq : q ≤ 400) (hp : p < q) (hx : ∀ k, tx k < 256) (hL : ∀ i, p ≤ i → i < q → isL (tx i) = true) : Cn d n M_X9_wordKind md_X9_wordKind [.ref 4, .int (nI p), .int (nI q)] σ (liI (fun v σ' => v = nI (wK (pkU tx p (q - p))) ∧ σ' = σ)) := by
  refine S_X9_wordKind hn (by omega) ?_
  rw [nI_sub (by omega)]
  generalize hQ : (fun (v : Int32) (σ' : St) => v = nI (wK (pkU tx p (q - p))) ∧ σ' = σ) = Q
  refine ⟨fun h => ?_, fun h => ?_⟩
  · have h5 : q - p ≤ 5 := (nI_leI (b := 5) (by omega) (by decide)).mp h
    have key : ∀ c, c ≤ 13 → (∀ i, i < c → ¬ isWd tx p q i) → K_X9_wordKind_13 d n σ Q σ (nI p) (nI q) (nI (c + 1)) := by
      refine up_ind (P := fun c => (∀ i, i < c → ¬ isWd tx p q i) → K_X9_wordKind_13 d n σ Q σ (nI p) (nI q) (nI (c + 1))) (fun hall => ?_) (fun c hc ih hall => ?_)
      · refine B_X9_wordKind_13 hn (by omega) ⟨fun _ => ?_, fun z => absurd (by decide) z⟩
        rw [← hQ]
        refine ⟨?_, rfl⟩
        rcases wK_ex (pkU tx p (q - p)) with ⟨c, a, b, e⟩ | e
        · exact absurd ((isWd_pk a hp (by omega) hL).mpr e) (hall c a)
        · rw [e]; rfl
      · refine B_X9_wordKind_13 hn (by omega) ⟨fun z => absurd ((nI_ltI (a := 13) (by decide) (by omega)).mp z) (by omega), fun _ => ⟨_, isWord_C hn (by omega) hc hB hq (by omega) hx, ?_⟩⟩
        rintro v σ1 ⟨rfl, h1⟩ hf
        rcases h1 with ⟨h1, rfl⟩ | ⟨h1, rfl⟩
        · refine ⟨fun z => absurd z (by decide), fun _ => ?_⟩
          rw [← hQ]
          exact ⟨by rw [(wK_wV hc).mpr ((isWd_pk hc hp (by omega) hL).mp h1)], rfl⟩
        · refine ⟨fun _ => ?_, fun z => absurd rfl z⟩
          rw [nI_1]
          exact ih (fun i hi => by
            by_cases e : i = c
            · rw [e]; exact h1
            · exact hall i (by omega))
    exact key 0 (by decide) (fun i hi => absurd hi (by omega))
  · have h5 : ¬ q - p ≤ 5 := fun z => h ((nI_leI (b := 5) (by omega) (by decide)).mpr z)
    refine ⟨?_, rfl⟩
    obtain ⟨k, hk⟩ : ∃ k, q - p = k + 1 := ⟨q - p - 1, by omega⟩
    have h1 := pkU_ge (tx := tx) (p := p) k (fun i hi => hL _ (by omega) (by omega))
    have h2 : 256 ^ 5 ≤ 256 ^ k := Nat.pow_le_pow_right (by decide) (by omega)
    have h3 : (483006772069 : Nat) < 256 ^ 5 := by decide
    rw [hk, wK_big (Nat.lt_of_lt_of_le h3 (Nat.le_trans h2 h1))]
    rfl
theorem kBy1 : ∀ x, x < 256 → (isSg x = true ↔ ∃ j, j < 12 ∧ kBy 1 j = (nI x).toInt8.toInt32) := by decide +kernel
theorem u16n : ∀ x, x < 256 → ((nI x).toUInt32 % 65536).toInt32 = nI x := by decide +kernel
theorem indexOf_C {d n : Nat} {σ : St} {x : Nat} (hd : 4 ≤ d) (hx : x < 256) : Cn d n M_J0_indexOf_0f7a4 md_J0_indexOf_0f7a4 [.ref (2000 + 1), .int (((nI x).toUInt32 % 65536).toInt32)] σ (liI (fun v σ' => σ' = σ ∧ (isSg x = true ∧ ¬ v < 0 ∨ isSg x = false ∧ v < 0))) := by
  rw [u16n x hx]
  generalize hQ : (fun (v : Int32) (σ' : St) => σ' = σ ∧ (isSg x = true ∧ ¬ v < 0 ∨ isSg x = false ∧ v < 0)) = Q
  refine S_J0_indexOf_0f7a4 (i := 1) (by omega) (by decide) ⟨Q, S_J0_indexOf_7cf53 (i := 1) (by omega) (by decide) ⟨Q, S_J1_indexOf_4cfef (i1 := 1) (by omega) (by decide) ⟨fun _ => ⟨fun _ => ⟨Q, S_J1_indexOfChar_4cfef (i1 := 1) (by decide) ?_, fun v σ1 h _ => h⟩, fun z => absurd (by decide) z⟩, fun z => ?_⟩, fun v σ1 h _ => h⟩, fun v σ1 h _ => h⟩
  · rw [show mxI 0 0 = nI 0 by decide, show mnI (fn_J0_length_8abf5 1) (nI (kLen 1)) = nI 12 by decide]
    have key : ∀ j, j ≤ 12 → (∀ i, i < j → ¬ kBy 1 i = (nI x).toInt8.toInt32) → K_J1_indexOfChar_4cfef_7 (d - 1 - 1 - 1) n σ Q σ 1 (nI 12) (nI x).toInt8.toInt32 (nI j) := by
      refine up_ind (P := fun j => (∀ i, i < j → ¬ kBy 1 i = (nI x).toInt8.toInt32) → K_J1_indexOfChar_4cfef_7 (d - 1 - 1 - 1) n σ Q σ 1 (nI 12) (nI x).toInt8.toInt32 (nI j)) (fun hall => ?_) (fun c hc ih hall => ?_)
      · refine B_J1_indexOfChar_4cfef_7 (by decide) ⟨fun _ => ?_, fun z => absurd (by decide) z⟩
        rw [← hQ]
        refine ⟨rfl, Or.inr ⟨?_, by decide⟩⟩
        cases hs : isSg x
        · rfl
        · obtain ⟨j, a, b⟩ := (kBy1 x hx).mp hs
          exact absurd b (hall j a)
      · refine B_J1_indexOfChar_4cfef_7 (by decide) ⟨fun z => absurd ((nI_leI (by decide) (by omega)).mp z) (by omega), fun _ => ⟨vp_in_nI hc (by decide), fun h => ?_, fun h => ?_⟩⟩
        · rw [nI_clamp (by omega)] at h
          rw [nI_1]
          exact ih (fun i hi => by
            by_cases e : i = c
            · rw [e]; exact h
            · exact hall i (by omega))
        · rw [nI_clamp (by omega)] at h
          rw [← hQ]
          exact ⟨rfl, Or.inl ⟨(kBy1 x hx).mpr ⟨c, hc, h⟩, nI_pos (by omega)⟩⟩
    exact key 0 (by decide) (fun i hi => absurd hi (by omega))
  · have : fn_J1_canEncode_9a6ad (nI x) = 1 := by
      unfold fn_J1_canEncode_9a6ad
      rw [if_neg (nI_pos (by omega)), if_neg (show ¬ (255 : Int32) < nI x from fun z => absurd ((nI_ltI (a := 255) (by decide) (by omega)).mp z) (by omega))]
    rw [this] at z
    exact absurd z (by decide)
/-- so far cut -/
def CutI (σ : St) (tx : Nat → Nat) (e p i : Nat) : Prop := gI σ 4 2 = nI i ∧ ByC σ tx e ∧ (∀ j, j < i → sT tx e j < e ∧ gI σ 20 j = nI (KT tx e j) ∧ gI σ 21 j = nI (sT tx e j) ∧ gI σ 22 j = nI (VT tx e j)) ∧ p ≤ e ∧ rE isB tx e p = sT tx e i ∧ i ≤ p
theorem CutI.tok {σ σ' : St} {tx : Nat → Nat} {e p i : Nat} {a1 a2 a3 : Int32} (h : CutI σ tx e p i) (hp : p < e) (hb : isB (tx p) = false) (hf : Fr md_X9_token σ σ') (hq : gI σ' 4 2 = nI (i + 1) ∧ gI σ' 20 i = a1 ∧ gI σ' 21 i = a2 ∧ gI σ' 22 i = a3 ∧ ∀ q k, k ≠ i → 20 ≤ q → q ≤ 22 → gI σ' q k = gI σ q k) (e1 : a1 = nI (kT tx e p)) (e2 : a2 = nI p) (e3 : a3 = nI (vT tx e p)) : CutI σ' tx e (tokE tx e p) (i + 1) := by
  obtain ⟨h1, h2, h3, h4, h5, h6⟩ := h
  obtain ⟨q1, q2, q3, q4, q5⟩ := hq
  have es : sT tx e i = p := by rw [← h5]; exact rE_stop (fun z => by rw [hb] at z; exact absurd z.2 (by decide))
  have hg := tokE_gt (tx := tx) hp
  refine ⟨q1, fun k hk => by rw [hf.row (by decide)]; exact h2 k hk, fun j hj => ?_, hg.2, ?_, by omega⟩
  · by_cases ej : j = i
    · subst ej
      rw [q2, q3, q4, e1, e2, e3]
      show sT tx e j < e ∧ _ = nI (kT tx e (sT tx e j)) ∧ _ = nI (sT tx e j) ∧ _ = nI (vT tx e (sT tx e j))
      rw [es]
      exact ⟨hp, rfl, rfl, rfl⟩
    · obtain ⟨a, b, c, d⟩ := h3 j (by omega)
      exact ⟨a, by rw [q5 _ _ ej (by omega) (by omega)]; exact b, by rw [q5 _ _ ej (by omega) (by omega)]; exact c, by rw [q5 _ _ ej (by omega) (by omega)]; exact d⟩
  · rw [sT_s (by omega), es]
theorem CutI.blank {σ : St} {tx : Nat → Nat} {e p i : Nat} (h : CutI σ tx e p i) (hp : p < e) (hb : isB (tx p) = true) : CutI σ tx e (p + 1) i := by
  obtain ⟨h1, h2, h3, h4, h5, h6⟩ := h
  exact ⟨h1, h2, h3, by omega, by rw [← rE_go hp hb]; exact h5, by omega⟩
theorem nb_L {x : Nat} (h : isL x = true) : isB x = false := by have := isL_iff.mp h; exact decide_eq_false (by omega)
theorem nb_D {x : Nat} (h : isD x = true) : isB x = false := by have := isD_iff.mp h; exact decide_eq_false (by omega)
theorem nl_D {x : Nat} (h : isD x = true) : isL x = false := by have := isD_iff.mp h; exact decide_eq_false (by omega)
theorem not_t {b : Bool} (h : b = false) : ¬ b = true := by rw [h]; decide
theorem cut_C {d n : Nat} {σ : St} {tx : Nat → Nat} {e T : Nat} (hn : FIX ≤ n) (hd : 6 ≤ d) (hT : gI σ 4 0 = nI T) (he : e ≤ T) (hT4 : T ≤ 400) (hB : ByC σ tx e) (hx : ∀ k, tx k < 256) : Cn d n M_X9_cut md_X9_cut [.ref 4, .int (nI e)] σ (liV (fun σ' => (∃ m, TkC σ' (KT tx e) (VT tx e) (sT tx e) m) ∧ gI σ' 4 0 = 0)) := by
  refine S_X9_cut hn (by omega) ?_
  rw [gI_sI_ne (by omega), hT, mnI_nI (by omega) (by omega), Nat.min_eq_left he]
  generalize hQ : (fun (σ' : St) => (∃ m, TkC σ' (KT tx e) (VT tx e) (sT tx e) m) ∧ gI σ' 4 0 = 0) = Q
  have fin : ∀ (i : Nat) (σ1 : St), CutI σ1 tx e e i → K_X9_cut_16 d n σ Q σ1 (nI e) (nI e) := fun i σ1 hI => by
    refine B_X9_cut_16 hn (by omega) ⟨fun _ => ?_, fun z => absurd ((nI_leI (by omega) (by omega)).mpr (Nat.le_refl _)) z⟩
    have hi4 : i ≤ 400 := by have := hI.2.2.2.2.2; omega
    refine ⟨_, token_C hn hi4 hI.1, ?_⟩
    rintro σ2 ⟨q1, q2, q3, q4, q5⟩ hf
    have es : sT tx e i = e := by rw [← hI.2.2.2.2.1]; exact rE_stop (by omega)
    rw [← hQ]
    refine ⟨⟨i, TkE_text (by omega) es (fun j hj => (hI.2.2.1 j hj).1), fun j => kT_le _ _ _, fun j hj => ?_⟩, gI_sI_same _ _ _ _⟩
    rw [gI_sI_ne (by omega), gI_sI_ne (by omega), gI_sI_ne (by omega)]
    by_cases ej : j = i
    · subst ej
      rw [q2, q3, q4]
      show _ = nI (kT tx e (sT tx e j)) ∧ _ = nI (sT tx e j) ∧ _ = nI (vT tx e (sT tx e j))
      rw [es, kT_out (by omega)]
      refine ⟨rfl, rfl, ?_⟩
      unfold vT
      rw [if_neg (by omega)]; rfl
    · obtain ⟨a, b, c, d⟩ := hI.2.2.1 j (by omega)
      exact ⟨by rw [q5 _ _ ej (by omega) (by omega)]; exact b, by rw [q5 _ _ ej (by omega) (by omega)]; exact c, by rw [q5 _ _ ej (by omega) (by omega)]; exact d⟩
  have key : ∀ (g p i : Nat) (σ1 : St), e - p ≤ g → CutI σ1 tx e p i → K_X9_cut_16 d n σ Q σ1 (nI e) (nI p) := by
    intro g
    induction g with
    | zero =>
      intro p i σ1 hg hI
      have : p = e := by have := hI.2.2.2.1; omega
      subst this
      exact fin i σ1 hI
    | succ g ih =>
      intro p i σ1 hg hI
      have hpe := hI.2.2.2.1
      have hi4 : i ≤ 400 := by have := hI.2.2.2.2.2; omega
      by_cases hp : p = e
      · subst hp; exact fin i σ1 hI
      have hp : p < e := by omega
      have hv : vp_in (nI p) 400 := vp_in_nI (by omega) (by decide)
      have hby : gI σ1 19 p = nI (tx p) := hI.2.1 p hp
      have hx1 := hx p
      refine B_X9_cut_16 hn (by omega) ⟨fun z => absurd ((nI_leI (by omega) (by omega)).mp z) (by omega), fun _ => ⟨hv, ?_⟩⟩
      rw [nI_clamp (by omega), hby, isLetter_nI hx1, isDigit_nI hx1]
      refine ⟨fun hL => ⟨hv, fun hD => ⟨hv, fun h32 => ?_, fun h32 => ⟨hv, fun h10 => ?_, fun h10 => ⟨hv, _, indexOf_C (by omega) hx1, ?_⟩⟩⟩, fun hD => ?_⟩, fun hL => ?_⟩
      · have : tx p = 32 := (nI_eq (b := 32) (by omega) (by decide)).mp h32
        rw [nI_1]
        exact ih (p + 1) i σ1 (by omega) (hI.blank hp (isB_iff.mpr (Or.inl this)))
      · have : tx p = 10 := (nI_eq (b := 10) (by omega) (by decide)).mp h10
        rw [nI_1]
        exact ih (p + 1) i σ1 (by omega) (hI.blank hp (isB_iff.mpr (Or.inr this)))
      · have nL := bI_z.mp hL
        have nD := bI_z.mp hD
        have nB : isB (tx p) = false := decide_eq_false (fun z => by
          rcases z with z | z
          · exact h32 (by rw [z]; rfl)
          · exact h10 (by rw [z]; rfl))
        have ek : tokE tx e p = p + 1 := by unfold tokE; rw [if_neg (not_t nL), if_neg (not_t nD)]
        have ev : vT tx e p = 0 := by unfold vT; rw [if_neg (fun z => not_t nD z.2)]
        rintro v σ2 ⟨rfl, h2⟩ hf
        rcases h2 with ⟨hs, h2⟩ | ⟨hs, h2⟩
        · refine ⟨fun z => absurd z h2, fun _ => ⟨hv, _, token_C hn hi4 hI.1, ?_⟩⟩
          rintro σ3 hq3 hf3
          have := hI.tok hp nB hf3 hq3 (by rw [hby]; unfold kT; rw [if_pos hp, if_neg (not_t nL), if_neg (not_t nD), if_pos hs]) rfl (by rw [ev]; rfl)
          rw [ek] at this
          rw [nI_1]
          exact ih (p + 1) (i + 1) σ3 (by omega) this
        · refine ⟨fun _ => ⟨_, token_C hn hi4 hI.1, ?_⟩, fun z => absurd h2 z⟩
          rintro σ3 hq3 hf3
          have := hI.tok hp nB hf3 hq3 (by unfold kT; rw [if_pos hp, if_neg (not_t nL), if_neg (not_t nD), if_neg (not_t hs)]; rfl) rfl (by rw [ev]; rfl)
          rw [ek] at this
          rw [nI_1]
          exact ih (p + 1) (i + 1) σ3 (by omega) this
      · have nL := bI_z.mp hL
        have yD := bI_nz.mp hD
        obtain ⟨r1, r2, r3, r4⟩ := rE_sp (c := isD) (tx := tx) (n := e) (p := p) (by omega)
        have ek : tokE tx e p = rE isD tx e p := by unfold tokE; rw [if_neg (not_t nL), if_pos yD]
        have hgt := tokE_gt (tx := tx) hp
        rw [ek] at hgt
        have ev : vT tx e p = nmU tx p (min (rE isD tx e p - p) 5) := by unfold vT; rw [if_pos ⟨hp, yD⟩]
        have done : (((nI (rE isD tx e p) - nI p) ≤ 5 → ∃ Q3 : Int32 → St → Prop, Cn (d - 1) n M_X9_numberOf md_X9_numberOf [.ref 4, .int (nI p), .int (nI (rE isD tx e p))] σ1 (liI Q3) ∧ ∀ (v6 : Int32) (σ5 : St), Q3 v6 σ5 → Fr md_X9_numberOf σ1 σ5 → ∃ Q9 : St → Prop, Cn (d - 1) n M_X9_token md_X9_token [.ref 4, .int 256, .int (nI p), .int v6] σ5 (liV Q9) ∧ ∀ (σ11 : St), Q9 σ11 → Fr md_X9_token σ5 σ11 → K_X9_cut_16 d n σ Q σ11 (nI e) (nI (rE isD tx e p))) ∧ (¬ (nI (rE isD tx e p) - nI p) ≤ 5 → ∃ Q15 : Int32 → St → Prop, Cn (d - 1) n M_X9_numberOf md_X9_numberOf [.ref 4, .int (nI p), .int (nI (rE isD tx e p))] σ1 (liI Q15) ∧ ∀ (v18 : Int32) (σ17 : St), Q15 v18 σ17 → Fr md_X9_numberOf σ1 σ17 → ∃ Q21 : St → Prop, Cn (d - 1) n M_X9_token md_X9_token [.ref 4, .int 257, .int (nI p), .int v18] σ17 (liV Q21) ∧ ∀ (σ23 : St), Q21 σ23 → Fr md_X9_token σ17 σ23 → K_X9_cut_16 d n σ Q σ23 (nI e) (nI (rE isD tx e p)))) := by
          rw [nI_sub (by omega)]
          refine ⟨fun h5 => ?_, fun h5 => ?_⟩
          · have h5' := (nI_leI (b := 5) (by omega) (by decide)).mp h5
            refine ⟨_, numberOf_C (tx := tx) hn (fun k hk => hI.2.1 k (by omega)) (by omega) (by omega) r3, ?_⟩
            rintro v σ2 ⟨rfl, rfl⟩ hf
            refine ⟨_, token_C hn hi4 hI.1, ?_⟩
            rintro σ3 hq3 hf3
            have := hI.tok hp (nb_D yD) hf3 hq3 (by unfold kT; rw [if_pos hp, if_neg (not_t nL), if_pos yD, if_pos h5']; rfl) rfl (by rw [ev])
            rw [ek] at this
            exact ih (rE isD tx e p) (i + 1) σ3 (by omega) this
          · have h5' : ¬ rE isD tx e p - p ≤ 5 := fun z => h5 ((nI_leI (b := 5) (by omega) (by decide)).mpr z)
            refine ⟨_, numberOf_C (tx := tx) hn (fun k hk => hI.2.1 k (by omega)) (by omega) (by omega) r3, ?_⟩
            rintro v σ2 ⟨rfl, rfl⟩ hf
            refine ⟨_, token_C hn hi4 hI.1, ?_⟩
            rintro σ3 hq3 hf3
            have := hI.tok hp (nb_D yD) hf3 hq3 (by unfold kT; rw [if_pos hp, if_neg (not_t nL), if_pos yD, if_neg h5']; rfl) rfl (by rw [ev])
            rw [ek] at this
            exact ih (rE isD tx e p) (i + 1) σ3 (by omega) this
        have loop : ∀ y, y ≤ rE isD tx e p → p + 1 ≤ y → K_X9_cut_91 d n σ Q σ1 (nI e) (nI p) (nI y) := by
          refine up_ind (P := fun y => p + 1 ≤ y → K_X9_cut_91 d n σ Q σ1 (nI e) (nI p) (nI y)) (fun hy => ?_) (fun y hy ihy hy1 => ?_)
          · refine B_X9_cut_91 hn (by omega) ⟨fun _ => done, fun z => ⟨vp_in_nI ?_ (by decide), ?_⟩⟩
            · have : ¬ e ≤ rE isD tx e p := fun w => z ((nI_leI (by omega) (by omega)).mpr w)
              omega
            · have : ¬ e ≤ rE isD tx e p := fun w => z ((nI_leI (by omega) (by omega)).mpr w)
              rw [nI_clamp (by omega), hI.2.1 _ (by omega), isDigit_nI (hx _), r4 (by omega)]
              exact ⟨fun _ => done, fun z => absurd rfl z⟩
          · refine B_X9_cut_91 hn (by omega) ⟨fun z => absurd ((nI_leI (by omega) (by omega)).mp z) (by omega), fun z => ⟨vp_in_nI (by omega) (by decide), ?_⟩⟩
            rw [nI_clamp (by omega), hI.2.1 _ (by omega), isDigit_nI (hx _), r3 y (by omega) hy, nI_1]
            exact ⟨fun z => absurd z (by decide), fun _ => ihy (by omega)⟩
        rw [nI_1]
        exact loop (p + 1) hgt.1 (Nat.le_refl _)
      · have yL := bI_nz.mp hL
        obtain ⟨r1, r2, r3, r4⟩ := rE_sp (c := isL) (tx := tx) (n := e) (p := p) (by omega)
        have nD : isD (tx p) = false := by have := isL_iff.mp yL; exact decide_eq_false (by omega)
        have ek : tokE tx e p = rE isL tx e p := by unfold tokE; rw [if_pos yL]
        have hgt := tokE_gt (tx := tx) hp
        rw [ek] at hgt
        have ev : vT tx e p = 0 := by unfold vT; rw [if_neg (fun z => not_t nD z.2)]
        have done : ∃ Q2 : Int32 → St → Prop, Cn (d - 1) n M_X9_wordKind md_X9_wordKind [.ref 4, .int (nI p), .int (nI (rE isL tx e p))] σ1 (liI Q2) ∧ ∀ (v5 : Int32) (σ4 : St), Q2 v5 σ4 → Fr md_X9_wordKind σ1 σ4 → ∃ Q8 : St → Prop, Cn (d - 1) n M_X9_token md_X9_token [.ref 4, .int v5, .int (nI p), .int 0] σ4 (liV Q8) ∧ ∀ (σ10 : St), Q8 σ10 → Fr md_X9_token σ4 σ10 → K_X9_cut_16 d n σ Q σ10 (nI e) (nI (rE isL tx e p)) := by
          refine ⟨_, wordKind_C hn (by omega) (fun k hk => hI.2.1 k (by omega)) (by omega) hgt.1 hx r3, ?_⟩
          rintro v σ2 ⟨rfl, rfl⟩ hf
          refine ⟨_, token_C hn hi4 hI.1, ?_⟩
          rintro σ3 hq3 hf3
          have := hI.tok hp (nb_L yL) hf3 hq3 (by unfold kT; rw [if_pos hp, if_pos yL]) rfl (by rw [ev]; rfl)
          rw [ek] at this
          exact ih (rE isL tx e p) (i + 1) σ3 (by omega) this
        have loop : ∀ y, y ≤ rE isL tx e p → p + 1 ≤ y → K_X9_cut_38 d n σ Q σ1 (nI e) (nI p) (nI y) := by
          refine up_ind (P := fun y => p + 1 ≤ y → K_X9_cut_38 d n σ Q σ1 (nI e) (nI p) (nI y)) (fun hy => ?_) (fun y hy ihy hy1 => ?_)
          · refine B_X9_cut_38 hn (by omega) ⟨fun _ => done, fun z => ⟨vp_in_nI ?_ (by decide), ?_⟩⟩
            · have : ¬ e ≤ rE isL tx e p := fun w => z ((nI_leI (by omega) (by omega)).mpr w)
              omega
            · have : ¬ e ≤ rE isL tx e p := fun w => z ((nI_leI (by omega) (by omega)).mpr w)
              rw [nI_clamp (by omega), hI.2.1 _ (by omega), isLetter_nI (hx _), r4 (by omega)]
              exact ⟨fun _ => done, fun z => absurd rfl z⟩
          · refine B_X9_cut_38 hn (by omega) ⟨fun z => absurd ((nI_leI (by omega) (by omega)).mp z) (by omega), fun z => ⟨vp_in_nI (by omega) (by decide), ?_⟩⟩
            rw [nI_clamp (by omega), hI.2.1 _ (by omega), isLetter_nI (hx _), r3 y (by omega) hy, nI_1]
            exact ⟨fun z => absurd z (by decide), fun _ => ihy (by omega)⟩
        rw [nI_1]
        exact loop (p + 1) hgt.1 (Nat.le_refl _)
  refine key e 0 0 _ (by omega) ⟨gI_sI_same _ _ _ _, fun k hk => by rw [gI_sI_ne (by omega)]; exact hB k hk, fun j hj => absurd hj (by omega), by omega, rfl, by omega⟩
