/-! ===== the model: gain ===== -/
/-- the tables when one of all speaks falsely -/
def tF (w : Wd) (p : Nat) : Tb := (fun q => if q = p then law w 8 p else law w q q, fun q => if q = p then wth w 8 p else wth w q q)
theorem tF_w (w : Wd) (p : Nat) : vW (tF w p).2 := fun q b => by
  show -1000000 ≤ (if q = p then wth w 8 p else wth w q q) b ∧ (if q = p then wth w 8 p else wth w q q) b ≤ 1000000
  split
  · exact wth_rng w 8 p b
  · exact wth_rng w q q b
def gainV (w : Wd) (a1 a2 : Int32) : Int32 := if (1 ≤ a1.toInt ∧ a1.toInt ≤ 4) ∧ inP a2 w.P ∧ w.lie = true then Int32.ofInt (VM w (tn a2) (wayT w (tF w (tn a2)) (tn a1) (tn a2)) - VM w (tn a2) (wayH w a1 (tn a2))) else -3000000
theorem told_F {d n : Nat} {σ : St} {w : Wd} (hn : FIX ≤ n) (hd : 2 ≤ d) (hM : RM σ w) (hv : gI σ 11 37 = gI σ 11 20) : Cn d n M_X12_told md_X12_told [.ref 11] σ (liV (fun σ' => (∀ q k, q ≠ 63 → gI σ' q k = gI σ q k) ∧ Now σ' w.pr)) := by
  refine S_X12_told hn (by omega) ⟨fun σ' => σ' = σ, S_X12_tables hn (by omega) ⟨fun h => absurd hv h, fun _ => rfl⟩, ?_⟩
  rintro σ1 rfl hf
  have loop : ∀ l, l ≤ 10 → ∀ σ2 : St, (∀ q k, q ≠ 63 → gI σ2 q k = gI σ1 q k) → (∀ l', l' < l → gI σ2 63 l' = nI (w.pr l')) → K_X12_told_6 d n σ1 (fun σ' => (∀ q k, q ≠ 63 → gI σ' q k = gI σ1 q k) ∧ Now σ' w.pr) σ2 (nI l) := by
    refine up_ind (N := 10) ?_ ?_
    · intro σ2 h1 h2
      exact B_X12_told_6 hn (by omega) ⟨fun _ => ⟨h1, h2⟩, fun z => absurd (by decide) z⟩
    · intro l hl ih σ2 h1 h2
      have hv : vp_in (nI l) 10 := vp_in_nI (by omega) (by decide)
      refine B_X12_told_6 hn (by omega) ⟨fun z => absurd z (by rw [show (10 : Int32) = nI 10 from rfl]; exact nI_ge hl (by decide)), fun _ => ⟨hv, hv, ?_⟩⟩
      rw [nI_clamp (by omega), nI_1, h1 44 l (by decide), (hM.les l hl).2.2.2]
      refine ih _ (fun q k hq => by rw [gI_sI_ne (by omega)]; exact h1 q k hq) (fun l' hl' => ?_)
      rw [gI_sI]
      by_cases e : l' = l
      · rw [if_pos ⟨rfl, e⟩, e]
      · rw [if_neg (fun z => e z.2)]; exact h2 l' (by omega)
  exact loop 0 (by omega) σ1 (fun _ _ _ => rfl) (fun l' h => absurd h (by omega))
theorem hasIn_F {d n : Nat} {σ : St} {w : Wd} {t : Tb} {k p : Nat} (hn : FIX ≤ n) (hd : 6 ≤ d) (hM : RM σ w) (hT : ∀ p, p < w.P → TbM σ (rw_ σ p) (t.1 p) (t.2 p)) (hv : gI σ 11 37 = gI σ 11 20) (hw : WW w) (hV : vW t.2) (hk : k < 6) (hp : p < w.P) : Cn d n M_X12_hasIn md_X12_hasIn [.ref 11, .int (nI k), .int (nI p)] σ (liI (fun v σ' => v = nI (wayT w t k p) ∧ RM σ' w ∧ VQ σ σ')) := by
  have hP := hw.P
  refine S_X12_hasIn hn (by omega) ⟨_, S_X12_goes (Q := fun σ' => ∃ c, MW σ' w t c (wayT w t k) ∧ VQ σ σ') hn (by omega) ⟨_, told_F hn (by omega) hM hv, ?_⟩, ?_⟩
  · rintro σ1 ⟨h1, h2⟩ hf
    have e38 : gI σ1 11 38 = gI σ 11 38 := h1 _ _ (by decide)
    refine goes_tail (t := t) (τ := σ) hn (by omega) ⟨hM.fr (fun q k' hk => h1 _ _ (by unfold keepM at hk; omega)), fun q hq => ?_, h2⟩ hw hV hk ⟨by rw [h1 _ _ (by decide), h1 _ _ (by decide)]; exact hv, fun k => ⟨h1 _ _ (by decide), h1 _ _ (by decide)⟩⟩ (fun σ' c m v => ⟨c, m, v⟩)
    have er : rw_ σ1 q = rw_ σ q := by unfold rw_; rw [e38]
    rw [er]
    exact (hT q hq).fr (fun k _ _ => ⟨h1 _ _ (by decide), h1 _ _ (by decide)⟩)
  · rintro σ1 ⟨c, m, v⟩ hf
    refine ⟨vp_in_nI (by omega) (by decide), ?_, m.1.1, v⟩
    rw [nI_clamp (by omega)]; exact m.2 p hp
theorem gain_M {d n : Nat} {σ : St} {w : Wd} {a1 a2 : Int32} (hn : FIX ≤ n) (hd : 11 ≤ d) (hM : MG σ w) (hw : WW w) : Cn d n M_X12_gain md_X12_gain [.ref 11, .int a1, .int a2] σ (liI (fun v σ' => v = gainV w a1 a2 ∧ MG σ' w)) := by
  have hP := hw.P
  have hpw := pow10 hw.N
  have o1 : (1 : Int32).toInt = 1 := by decide
  have o4 : (4 : Int32).toInt = 4 := by decide
  have hlie := hM.1.2.2.2.2.2.2.2.2.2.1
  refine S_X12_gain hn (by omega) ⟨fun h => ⟨?_, hM⟩, fun h => ⟨fun h2 => ⟨?_, hM⟩, fun h2 => ⟨fun h3 => ?_, fun h3 => ⟨?_, hM⟩⟩⟩⟩
  · have := isIn_z.mp h
    rw [o1, o4] at this
    unfold gainV; rw [if_neg (fun z => this z.1)]
  · unfold gainV; rw [if_neg (fun z => ze.mp h2 ((pers_in hM.1 hw).mpr z.2.1))]
  · have g1 := isIn_ti.mp h
    rw [o1, o4] at g1
    have g2 := (pers_in hM.1 hw).mp h2
    have g3 : w.lie = true := by
      rcases Bool.eq_false_or_eq_true w.lie with e | e
      · exact e
      · rw [e] at hlie; exact absurd hlie h3
    have eV : gainV w a1 a2 = Int32.ofInt (VM w (tn a2) (wayT w (tF w (tn a2)) (tn a1) (tn a2)) - VM w (tn a2) (wayH w a1 (tn a2))) := by unfold gainV; rw [if_pos ⟨g1, g2, g3⟩]
    rw [eV]
    obtain ⟨k, hk, rfl⟩ := ex_nI (K := 5) (by decide) (by omega : 0 ≤ a1.toInt) (by omega)
    obtain ⟨p, hp, rfl⟩ := inP_ex (by omega) g2
    unfold wayH
    rw [tn_nI (by omega), tn_nI (by omega)]
    refine ⟨_, hasIn_M hn (by omega) hM hw (by omega) hp, ?_⟩
    rintro v σ1 ⟨rfl, ⟨⟨c, m1⟩, -⟩, vq1⟩ hf1
    refine ⟨_, fills_spec (r := 8) (u := 8) (j := p) hn (by omega) m1.1 hw (by omega) (by omega) (by omega), ?_⟩
    rintro σ2 ⟨t8, tk⟩ hf2
    have rm2 := m1.1.st hf2 (by decide)
    have hT : ∀ q, q < w.P → TbM σ2 q (law w q q) (wth w q q) := fun q hq => (m1.2.2.1 q hq).fr (fun k _ b => tk k (by omega))
    have vq2 : gI σ2 11 37 = gI σ2 11 20 := by rw [hf2.cell (by decide), hf2.cell (by decide)]; exact vq1.1
    have rm3 : RM (sI σ2 11 38 (nI p)) w := rm2.fr (fun q k hk => gI_sI_ne (by unfold keepM at hk; omega))
    refine ⟨_, hasIn_F (t := tF w p) hn (by omega) rm3 (fun q hq => ?_) (by rw [gI_sI_ne (by omega), gI_sI_ne (by omega)]; exact vq2) hw (tF_w w p) (by omega) hp, ?_⟩
    · have er : rw_ (sI σ2 11 38 (nI p)) q = if q = p then 8 else q := by
        unfold rw_; rw [gI_sI_same]
        by_cases e : q = p
        · rw [if_pos (by rw [e]), if_pos e]
        · rw [if_neg (fun z => e ((nI_eq (by omega) (by omega)).mp z)), if_neg e]
      rw [er]
      show TbM _ _ (if q = p then law w 8 p else law w q q) (if q = p then wth w 8 p else wth w q q)
      by_cases e : q = p
      · rw [if_pos e, if_pos e, if_pos e]
        exact t8.fr (fun k _ _ => ⟨gI_sI_ne (by omega), gI_sI_ne (by omega)⟩)
      · rw [if_neg e, if_neg e, if_neg e]
        exact (hT q hq).fr (fun k _ _ => ⟨gI_sI_ne (by omega), gI_sI_ne (by omega)⟩)
    · rintro v σ3 ⟨rfl, rm4, vq4⟩ hf3
      have hT3 : ∀ q, q < w.P → TbM (sI σ3 11 38 (-1)) q (law w q q) (wth w q q) := fun q hq => (hT q hq).fr (fun k _ _ => by
        rw [gI_sI_ne (by omega), gI_sI_ne (by omega), (vq4.2 k).1, (vq4.2 k).2, gI_sI_ne (by omega), gI_sI_ne (by omega)]
        exact ⟨rfl, rfl⟩)
      have mg : MG (sI σ3 11 38 (-1)) w := ⟨rm4.fr (fun q k hk => gI_sI_ne (by unfold keepM at hk; omega)), gI_sI_same _ _ _ _, fun _ => hT3⟩
      have b1 := wayT_ok hw (tF w p) k p
      have b2 := wayT_ok hw (tM w) k p
      obtain ⟨x1, x2⟩ := worthOf_nI (hT3 p hp) (by omega) (show wayT w (tF w p) k p < 1024 by omega)
      obtain ⟨y1, y2⟩ := worthOf_nI (hT3 p hp) (by omega) (show wayT w (tM w) k p < 1024 by omega)
      refine ⟨x1, y1, ofI ?_, mg⟩
      have r1 := wth_rng w p p (wayT w (tF w p) k p)
      have r2 := wth_rng w p p (wayT w (tM w) k p)
      rw [ti_sub] <;> rw [x2, y2] <;> first | rfl | omega
  · unfold gainV; rw [if_neg (fun z => by rw [if_pos z.2.2, h3] at hlie; cases hlie)]
