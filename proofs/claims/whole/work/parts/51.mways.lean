/-! ===== the model: adding, mending, turns ===== -/
/-- the model with its tables (of true wishes or of a false one), and what each has -/
def MW (σ : St) (w : Wd) (t : Tb) (c : Nat → Nat) (h : Nat → Nat) : Prop := MX σ w t.1 t.2 c ∧ ∀ p, p < w.P → gI σ 71 p = nI (h p)
theorem MX.now {σ : St} {w : Wd} {t : Tb} {c : Nat → Nat} {l x : Nat} (h : MX σ w t.1 t.2 c) : MX (sI σ 63 l (nI x)) w t.1 t.2 (puh c l x) := by
  refine ⟨h.1.fr (fun q k hk => gI_sI_ne ?_), fun p hp => ?_, fun k hk => ?_⟩
  · unfold keepM at hk; omega
  · have e : rw_ (sI σ 63 l (nI x)) p = rw_ σ p := by unfold rw_; rw [gI_sI_ne (by omega)]
    rw [e]
    exact (h.2.1 p hp).fr (fun k _ _ => ⟨gI_sI_ne (by omega), gI_sI_ne (by omega)⟩)
  · rw [gI_sI]
    by_cases e : k = l
    · rw [if_pos ⟨rfl, e⟩, e, puh_same]
    · rw [if_neg (fun z => e z.2), puh_ne e]; exact h.2.2 k hk
theorem MX.wr {σ : St} {w : Wd} {t : Tb} {c : Nat → Nat} (h : MX σ w t.1 t.2 c) (q k : Nat) (v : Int32) (hq : 64 ≤ q ∧ q ≤ 82 ∨ q = 11 ∧ (k = 40 ∨ k = 41 ∨ k = 49 ∨ k = 50)) : MX (sI σ q k v) w t.1 t.2 c :=
  h.fr (fun q' k' hk => gI_sI_ne (by unfold keepM at hk; omega)) (fun k' => gI_sI_ne (by omega)) (fun k' => gI_sI_ne (by omega)) (fun k' => gI_sI_ne (by omega)) (gI_sI_ne (by omega))
theorem lawX {σ : St} {w : Wd} {t : Tb} {c : Nat → Nat} {p b : Nat} (hM : MX σ w t.1 t.2 c) (hw : WW w) (hp : p < w.P) (hb : b < 1024) : pre_X12_isLawful σ (nI (rw_ σ p)) (nI b) ∧ (fn_X12_isLawful σ (nI (rw_ σ p)) (nI b) = 0 ↔ t.1 p b = false) := by
  have hP := hw.P
  obtain ⟨h1, h2⟩ := isLawful_nI (hM.2.1 p hp) (rw_lt (by omega)) hb
  refine ⟨h1, ?_⟩
  rw [h2]
  cases t.1 p b <;> simp
theorem worX {σ : St} {w : Wd} {t : Tb} {c : Nat → Nat} {p b : Nat} (hM : MX σ w t.1 t.2 c) (hw : WW w) (hp : p < w.P) (hb : b < 1024) : pre_X12_worthOf σ (nI (rw_ σ p)) (nI b) ∧ (fn_X12_worthOf σ (nI (rw_ σ p)) (nI b)).toInt = t.2 p b := by
  have hP := hw.P
  exact worthOf_nI (hM.2.1 p hp) (rw_lt (by omega)) hb
theorem leftOf_M {d n : Nat} {σ : St} {w : Wd} {t : Tb} {c h : Nat → Nat} {l : Nat} (hn : FIX ≤ n) (hd : 1 ≤ d) (hM : MW σ w t c h) (hw : WW w) (hh : hOk w h) (hl : l < w.N) : Cn d n M_X12_leftOf md_X12_leftOf [.ref 11, .int (nI l)] σ (liI (fun v σ' => σ' = σ ∧ v.toInt = spN w h l)) := by
  have hN := hw.N
  have hP := hw.P
  have hpl := hw.pl l
  have hpw := pow10 hN
  refine S_X12_leftOf hn hd ⟨vp_in_nI (by omega) (by decide), ?_⟩
  rw [nI_clamp (by omega), (hM.1.1.les l (by omega)).1]
  have loop : ∀ p, p ≤ w.P → ∀ x : Int32, x.toInt = (w.pl l : Int) - cntU h l p → K_X12_leftOf_9 d n σ (fun v σ' => σ' = σ ∧ v.toInt = spN w h l) σ (nI l) x (nI p) := by
    refine up_ind (N := w.P) ?_ ?_
    · intro x hx
      exact B_X12_leftOf_9 hn hd ⟨fun _ => ⟨rfl, hx⟩, fun z => absurd (by rw [hM.1.1.P]; exact nI_le (Nat.le_refl _) (by omega)) z⟩
    · intro p hp ih x hx
      have hc := cntU_le h l p
      have hb := hh p
      refine B_X12_leftOf_9 hn hd ⟨fun z => absurd z (by rw [hM.1.1.P]; exact nI_ge hp (by omega)), fun _ => ⟨vp_in_nI (by omega) (by decide), ?_⟩⟩
      rw [nI_clamp (by omega), hM.2 p hp, one_hold (by omega) (by omega), nI_1]
      refine ih _ ?_
      unfold cntU
      by_cases e : (h p).testBit l = true
      · rw [if_pos e, if_pos e, ti_sub] <;> rw [hx, show (1 : Int32).toInt = 1 by decide] <;> omega
      · rw [if_neg e, if_neg e, ti_sub] <;> rw [hx, show (0 : Int32).toInt = 0 by decide] <;> omega
  exact loop 0 (by omega) _ (by rw [nI_toInt (by omega)]; unfold cntU; omega)
theorem adds_M {d n : Nat} {σ : St} {w : Wd} {t : Tb} {c h : Nat → Nat} {p : Nat} (hn : FIX ≤ n) (hd : 2 ≤ d) (hM : MW σ w t c h) (hw : WW w) (hh : hOk w h) (hp : p < w.P) : Cn d n M_X12_adds md_X12_adds [.ref 11, .int (nI p)] σ (liI (fun v σ' => MW σ' w t c (addT w t h p) ∧ v = if addB w t h p = true then 1 else 0)) := by
  have hN := hw.N
  have hP := hw.P
  have hpw := pow10 hN
  have hb := hh p
  have hv8 : vp_in (nI p) 8 := vp_in_nI (by omega) (by decide)
  refine S_X12_adds hn (by omega) ?_
  rw [rowOf_nI]
  generalize hQ : (fun (v : Int32) (σ' : St) => MW σ' w t c (addT w t h p) ∧ v = if addB w t h p = true then 1 else 0) = Q
  have loop : ∀ l, l ≤ w.N → K_X12_adds_11 d n σ Q σ (nI p) (nI (rw_ σ p)) (optI (amx (addOk w t h p) (fun l => t.2 p (h p ||| 2 ^ l)) l)) (nI l) := by
    refine up_ind (N := w.N) ?_ ?_
    · refine B_X12_adds_11 hn (by omega) ⟨fun _ => ?_, fun z => absurd (by rw [hM.1.1.N]; exact nI_le (Nat.le_refl _) (by omega)) z⟩
      have eo : amx (addOk w t h p) (fun l => t.2 p (h p ||| 2 ^ l)) w.N = addO w t h p := rfl
      rw [eo, nI_clamp (by omega), hM.2 p hp, ← hQ]
      cases ho : addO w t h p with
      | none =>
        refine ⟨fun z => absurd rfl z, fun _ => ⟨?_, ?_⟩⟩
        · unfold addT; rw [ho]; exact hM
        · unfold addB; rw [ho]; rfl
      | some l =>
        have hl := (amx_lt ho).1
        refine ⟨fun _ => ⟨hv8, hv8, ⟨hM.1.wr 71 p _ (by omega), fun q hq => ?_⟩, ?_⟩, fun z => absurd z (optI_ne (by omega))⟩
        · show gI (sI σ 71 p (nI (h p) ||| (1 : Int32) <<< (nI l &&& 31))) 71 q = _
          rw [shl1 (by omega), nI_or, gI_sI]
          have ea : addT w t h p = puh h p (h p ||| 2 ^ l) := by unfold addT; rw [ho]
          rw [ea]
          by_cases e : q = p
          · rw [if_pos ⟨rfl, e⟩, e, puh_same]
          · rw [if_neg (fun z => e z.2), puh_ne e]; exact hM.2 q hq
        · unfold addB; rw [ho]; rfl
    · intro l hl ih
      have h2 := or2_lt hb hl
      have no : (addOk w t h p l = true → ∃ z, amx (addOk w t h p) (fun l => t.2 p (h p ||| 2 ^ l)) l = some z ∧ ¬ t.2 p (h p ||| 2 ^ z) < t.2 p (h p ||| 2 ^ l)) → K_X12_adds_11 d n σ Q σ (nI p) (nI (rw_ σ p)) (optI (amx (addOk w t h p) (fun l => t.2 p (h p ||| 2 ^ l)) l)) (nI l + 1) := fun hx => by
        rw [nI_1, ← amx_no hx]; exact ih
      have yes : addOk w t h p l = true → (∀ z, amx (addOk w t h p) (fun l => t.2 p (h p ||| 2 ^ l)) l = some z → t.2 p (h p ||| 2 ^ z) < t.2 p (h p ||| 2 ^ l)) → K_X12_adds_11 d n σ Q σ (nI p) (nI (rw_ σ p)) (nI l) (nI l + 1) := fun hx hy => by
        have e := amx_yes hx hy
        rw [e] at ih
        rw [nI_1]; exact ih
      refine B_X12_adds_11 hn (by omega) ⟨fun z => absurd z (by rw [hM.1.1.N]; exact nI_ge hl (by omega)), fun _ => ⟨hv8, hv8, ?_⟩⟩
      rw [nI_clamp (by omega), hM.2 p hp]
      refine ⟨fun z => no (fun hx => ?_), fun z => ⟨_, leftOf_M hn (by omega) hM hw hh hl, ?_⟩⟩
      · have := hold_nz (by omega) (by omega) z
        rw [(addOk_iff.mp hx).1] at this; cases this
      · rintro v σ' ⟨rfl, hv⟩ hf
        have hz : (h p).testBit l = false := by
          have := (hold_z (by omega) (by omega)).mp z
          simpa using this
        have z0 : (0 : Int32).toInt = 0 := by decide
        rw [shl1 (by omega), nI_or]
        obtain ⟨l1, l2⟩ := lawX hM.1 hw hp (show h p ||| 2 ^ l < 1024 by omega)
        obtain ⟨w1, w2⟩ := worX hM.1 hw hp (show h p ||| 2 ^ l < 1024 by omega)
        obtain ⟨u1, u2⟩ := worX hM.1 hw hp (show h p < 1024 by omega)
        refine ⟨fun hle => no (fun hx => ?_), fun hle => ⟨l1, fun hlz => no (fun hx => ?_), fun hlz => ⟨w1, hv8, ?_⟩⟩⟩
        · have := le_ti.mp hle
          have := (addOk_iff.mp hx).2.1
          omega
        · have := (addOk_iff.mp hx).2.2.1
          rw [l2.mp hlz] at this; cases this
        · rw [hM.2 p hp]
          have hsp : 0 < spN w h l := by
            have : ¬ v.toInt ≤ (0 : Int32).toInt := fun e => hle (le_ti.mpr e)
            omega
          have hlw : t.1 p (h p ||| 2 ^ l) = true := by
            cases e : t.1 p (h p ||| 2 ^ l) with
            | true => rfl
            | false => exact absurd (l2.mpr e) hlz
          refine ⟨u1, fun hlt => ?_, fun hlt => no (fun hx => ?_)⟩
          · have hlt2 : t.2 p (h p) < t.2 p (h p ||| 2 ^ l) := by have := lt_ti.mp hlt; rw [u2, w2] at this; exact this
            have hok : addOk w t h p l = true := addOk_iff.mpr ⟨hz, hsp, hlw, hlt2⟩
            cases ho : amx (addOk w t h p) (fun l => t.2 p (h p ||| 2 ^ l)) l with
            | none =>
              refine ⟨fun _ => yes hok (fun z hz => by rw [ho] at hz; cases hz), fun z => absurd rfl z⟩
            | some k =>
              have hk := (amx_lt ho).1
              have h3 := or2_lt hb (show k < w.N by omega)
              refine ⟨fun z => absurd z (optI_ne (by omega)), fun _ => ⟨w1, hv8, ?_⟩⟩
              show pre_X12_worthOf _ _ (nI (h p) ||| (1 : Int32) <<< (nI k &&& 31)) ∧ (_ ≤ fn_X12_worthOf _ _ (nI (h p) ||| (1 : Int32) <<< (nI k &&& 31)) → _) ∧ (¬ _ ≤ fn_X12_worthOf _ _ (nI (h p) ||| (1 : Int32) <<< (nI k &&& 31)) → _)
              rw [shl1 (by omega), nI_or]
              obtain ⟨k1, k2⟩ := worX hM.1 hw hp (show h p ||| 2 ^ k < 1024 by omega)
              refine ⟨k1, fun hle2 => ?_, fun hle2 => yes hok (fun z hz => ?_)⟩
              · have := no (fun _ => ⟨k, ho, by have := le_ti.mp hle2; rw [k2, w2] at this; omega⟩)
                rw [ho] at this; exact this
              · rw [ho] at hz; cases hz
                have : ¬ _ ≤ _ := fun e => hle2 (le_ti.mpr e)
                rw [k2, w2] at this; omega
          · have h5 := (addOk_iff.mp hx).2.2.2
            exact absurd (lt_ti.mpr (by rw [u2, w2]; exact h5)) hlt
  exact loop 0 (by omega)
def bI (b : Bool) : Int32 := if b = true then 1 else 0
theorem allAdd_M {d n : Nat} {σ : St} {w : Wd} {t : Tb} {c h : Nat → Nat} {b : Bool} (hn : FIX ≤ n) (hd : 3 ≤ d) (hM : MW σ w t c h) (hw : WW w) (hh : hOk w h) : Cn d n M_X12_allAdd md_X12_allAdd [.ref 11, .int (bI b)] σ (liI (fun v σ' => MW σ' w t c (rnd w t b h).1 ∧ v = bI (rnd w t b h).2)) := by
  have hP := hw.P
  refine S_X12_allAdd hn (by omega) ?_
  generalize hQ : (fun (v : Int32) (σ' : St) => MW σ' w t c (rnd w t b h).1 ∧ v = bI (rnd w t b h).2) = Q
  have b01 : ∀ x : Bool, bI x = 0 ∨ bI x = 1 := fun x => by cases x <;> simp [bI]
  have loop : ∀ k, k ≤ w.P → ∀ σ1 : St, MW σ1 w t c (rndT w t (ordN w b) h k).1 → K_X12_allAdd_4 d n σ Q σ1 (bI b) (bI (rndT w t (ordN w b) h k).2) (nI k) := by
    refine up_ind (N := w.P) ?_ ?_
    · intro σ1 m
      refine B_X12_allAdd_4 hn (by omega) ⟨fun _ => ⟨b01 _, ?_⟩, fun z => absurd (by rw [m.1.1.P]; exact nI_le (Nat.le_refl _) (by omega)) z⟩
      rw [← hQ]; exact ⟨m, rfl⟩
    · intro k hk ih σ1 m
      have tail : ∃ Q3 : Int32 → St → Prop, Cn (d - 1) n M_X12_adds md_X12_adds [.ref 11, .int (nI (ordN w b k))] σ1 (liI Q3) ∧ ∀ (v6 : Int32) (σ5 : St), Q3 v6 σ5 → Fr md_X12_adds σ1 σ5 → ((v6 ≠ 0 → K_X12_allAdd_4 d n σ Q σ5 (bI b) 1 (nI k + 1)) ∧ (v6 = 0 → ((bI (rndT w t (ordN w b) h k).2 = 0 → K_X12_allAdd_4 d n σ Q σ5 (bI b) 0 (nI k + 1)) ∧ (¬ bI (rndT w t (ordN w b) h k).2 = 0 → K_X12_allAdd_4 d n σ Q σ5 (bI b) 1 (nI k + 1))))) := by
        refine ⟨_, adds_M hn (by omega) m hw (rndT_ok hh k) (ordN_lt hk), ?_⟩
        rintro v σ5 ⟨h1, h2⟩ hf
        have := ih σ5 h1
        rw [nI_1]
        have e : (rndT w t (ordN w b) h (k + 1)).2 = (addB w t (rndT w t (ordN w b) h k).1 (ordN w b k) || (rndT w t (ordN w b) h k).2) := rfl
        rw [e] at this
        refine ⟨fun hv => ?_, fun hv => ⟨fun hx => ?_, fun hx => ?_⟩⟩
        · have ea : addB w t (rndT w t (ordN w b) h k).1 (ordN w b k) = true := by
            cases e2 : addB w t (rndT w t (ordN w b) h k).1 (ordN w b k) with
            | true => rfl
            | false => rw [e2] at h2; exact absurd h2 hv
          rw [ea] at this; exact this
        · have ea : addB w t (rndT w t (ordN w b) h k).1 (ordN w b k) = false := by
            cases e2 : addB w t (rndT w t (ordN w b) h k).1 (ordN w b k) with
            | false => rfl
            | true => rw [e2, hv] at h2; exact absurd h2 (by decide)
          have eb : (rndT w t (ordN w b) h k).2 = false := by
            cases e2 : (rndT w t (ordN w b) h k).2 with
            | false => rfl
            | true => rw [e2] at hx; exact absurd hx (by decide)
          rw [ea, eb] at this; exact this
        · have eb : (rndT w t (ordN w b) h k).2 = true := by
            cases e2 : (rndT w t (ordN w b) h k).2 with
            | true => rfl
            | false => rw [e2] at hx; exact absurd rfl hx
          rw [eb, Bool.or_true] at this; exact this
      refine B_X12_allAdd_4 hn (by omega) ⟨fun z => absurd z (by rw [m.1.1.P]; exact nI_ge hk (by omega)), fun _ => ⟨fun hb => ?_, fun hb => ?_⟩⟩
      · have eb : b = false := by cases b; rfl; exact absurd hb (by decide)
        have eo : ordN w b k = k := by unfold ordN; rw [eb]; rfl
        rw [eo] at tail; exact tail
      · have eb : b = true := by cases b; exact absurd rfl hb; rfl
        have eo : ordN w b k = w.P - 1 - k := by unfold ordN; rw [eb]; rfl
        rw [eo] at tail
        rw [m.1.1.P, show (1 : Int32) = nI 1 from rfl, nI_sub (by omega), nI_sub (by omega)]
        exact tail
  exact loop 0 (by omega) σ hM
theorem turns_M {d n : Nat} {σ : St} {w : Wd} {t : Tb} {c h : Nat → Nat} (hn : FIX ≤ n) (hd : 4 ≤ d) (hM : MW σ w t c h) (hw : WW w) (hh : hOk w h) : Cn d n M_X12_turns md_X12_turns [.ref 11] σ (liV (fun σ' => MW σ' w t c (addsN w t true 81 false h))) := by
  refine S_X12_turns hn (by omega) ?_
  generalize hR : addsN w t true 81 false h = R
  generalize hQ : (fun (σ' : St) => MW σ' w t c R) = Q
  have loop : ∀ i (b : Bool) (h1 : Nat → Nat) (σ1 : St), 80 < i + hv w h1 → hOk w h1 → MW σ1 w t c h1 → addsN w t true i b h1 = R → K_X12_turns_2 d n σ Q σ1 (bI b) := by
    intro i
    induction i with
    | zero => intro b h1 σ1 e1 e2 e3 e4; have := hv_le hw h1; omega
    | succ i ih =>
      intro b h1 σ1 e1 e2 e3 e4
      refine B_X12_turns_2 hn (by omega) ⟨_, allAdd_M hn (by omega) e3 hw e2, ?_⟩
      rintro v σ2 ⟨f1, f2⟩ hf
      unfold addsN at e4
      refine ⟨fun hv0 => ?_, fun hv0 => ?_⟩
      · have er : ¬ (rnd w t b h1).2 = true := fun e => by rw [e, hv0] at f2; exact absurd f2 (by decide)
        rw [if_neg er] at e4
        rw [← hQ]; show MW σ2 w t c _; rw [← e4]; exact f1
      · have er : (rnd w t b h1).2 = true := by
          cases e : (rnd w t b h1).2 with
          | true => rfl
          | false => rw [e] at f2; exact absurd f2 hv0
        rw [if_pos er] at e4
        have hb := rnd_hv er
        have := ih (xor true b) (rnd w t b h1).1 σ2 (by omega) (rndT_ok e2 _) f1 e4
        refine ⟨fun hx => ?_, fun hx => ?_⟩
        · cases b with
          | true => exact this
          | false => exact absurd rfl hx
        · cases b with
          | true => exact absurd hx (by decide)
          | false => exact this
  exact loop 81 false h σ (by omega) hh hM hR
