/-! ===== both sides side by side: what one does leaves the other alone ===== -/
def mdlB (q : Nat) : Bool := decide (q = 11) || (decide (41 ≤ q) && decide (q ≤ 74))
theorem MG.ot {σ σ' : St} {w : Wd} (h : MG σ w) (hf : ∀ q k, mdlB q = true → gI σ' q k = gI σ q k) : MG σ' w := by
  obtain ⟨h1, h2, h3⟩ := h
  refine ⟨h1.fr (fun q k hk => hf q k ?_), by rw [hf _ _ (by decide)]; exact h2, fun he r hr => ?_⟩
  · rcases hk with ⟨rfl, _⟩ | ⟨a, b⟩ | rfl
    · decide
    · simp only [mdlB, Bool.or_eq_true, Bool.and_eq_true, decide_eq_true_eq]; omega
    · decide
  · rw [hf _ _ (by decide), hf _ _ (by decide)] at he
    exact (h3 he r hr).fr (fun k _ _ => ⟨hf _ _ (by decide), hf _ _ (by decide)⟩)
theorem RC.ot {σ σ' : St} {n : Nat} {w : Wd} (h : RC σ n w) (hf : ∀ q k, mdlB q = false → gI σ' q k = gI σ q k) (hR : gR σ' = gR σ) : RC σ' n w := by
  have hp : ∀ q k, 83 ≤ q → gI σ' q k = gI σ q k := fun q k hq => hf q k (by
    simp only [mdlB, Bool.or_eq_false_iff, Bool.and_eq_false_iff, decide_eq_false_iff_not]; omega)
  obtain ⟨h1, ⟨⟨k1, k2⟩, k3, k4⟩, ⟨⟨t1, t2⟩, ⟨t3, t4⟩, t5, t6⟩⟩ := h
  refine ⟨h1.fr (h1.1.fr (fun k _ => hf _ _ (by decide)) (fun q k x y => hf _ _ ?_)) (hf _ _ (by decide)) hR hp, ⟨⟨by rw [hf _ _ (by decide)]; exact k1, by rw [hf _ _ (by decide)]; exact k2⟩, by rw [hf _ _ (by decide)]; exact k3, fun l hl => by rw [hf _ _ (by decide)]; exact k4 l hl⟩, ⟨⟨by rw [hf _ _ (by decide)]; exact t1, fun i hi => by rw [hf _ _ (by decide)]; exact t2 i hi⟩, ⟨t3, t4.fr (hp _ _ (by omega)) (fun k => hp _ _ (by omega))⟩, by rw [hf _ _ (by decide)]; exact t5, by rw [hf _ _ (by decide)]; exact t6⟩⟩
  simp only [mdlB, Bool.or_eq_false_iff, Bool.and_eq_false_iff, decide_eq_false_iff_not]; omega
/-- a method of the component -/
def okXM (m : Md) : Bool := m.1.all (fun q => !mdlB q) && m.2.1.all (fun c => !mdlB c.1)
/-- a method of the model -/
def okM (m : Md) : Bool := m.1.all mdlB && (m.2.1.all (fun c => mdlB c.1) && (m.2.2.1.isEmpty && m.2.2.2.isEmpty))
theorem mdlB_lt {q : Nat} (h : mdlB q = true) : q < 83 := by
  simp only [mdlB, Bool.or_eq_true, Bool.and_eq_true, decide_eq_true_eq] at h; omega
theorem MG.X {m : Md} {σ σ' : St} {w : Wd} (h : MG σ w) (hf : Fr m σ σ') (ho : okXM m = true) : MG σ' w := by
  simp only [okXM, Bool.and_eq_true, List.all_eq_true, Bool.not_eq_true'] at ho
  refine h.ot (fun q k hq => hf.1 q k ?_)
  have hl := mdlB_lt hq
  rintro (z | z | ⟨z, _⟩ | ⟨z, _⟩)
  · rw [ho.1 q z] at hq; cases hq
  · rw [ho.2 _ z] at hq; cases hq
  · have : 83 ≤ q := z
    omega
  · have : 83 ≤ q := z
    omega
theorem RC.M {m : Md} {σ σ' : St} {n : Nat} {w : Wd} (h : RC σ n w) (hf : Fr m σ σ') (ho : okM m = true) : RC σ' n w := by
  simp only [okM, Bool.and_eq_true, List.all_eq_true, List.isEmpty_iff] at ho
  obtain ⟨o1, o2, o3, o4⟩ := ho
  have key : ∀ q k, mdlB q = false → ¬ inMd m q k := fun q k hq => by
    rintro (z | z | ⟨_, _, z⟩ | ⟨_, z⟩)
    · rw [o1 q z] at hq; cases hq
    · rw [o2 _ z] at hq; cases hq
    · rw [o3] at z; exact absurd z List.not_mem_nil
    · rw [o4] at z; exact absurd z List.not_mem_nil
  exact h.ot (fun q k hq => hf.1 q k (key q k hq)) (funext fun k => hf.2.2 k (key 18 k (by decide)))
/-! ===== what a call leaves: the world's own ===== -/
def HZ (w : Wd) : Prop := ∀ j, w.P ≤ j → w.hd j = 0
/-- the world behind a call that takes nobody in -/
def Nx (w w' : Wd) : Prop := WW w' ∧ w'.ver ≤ w.ver + 1 ∧ HZ w' ∧ w'.P = w.P
theorem Nx.same {w : Wd} (hw : WW w) (hz : HZ w) : Nx w w := ⟨hw, by omega, hz, rfl⟩
theorem nx_lesson {w : Wd} (hw : WW w) (hz : HZ w) (a1 a2 a3 : Int32) : Nx w (lessonW w a1 a2 a3) := by
  refine ⟨lessonW_WW hw _ _ _, ?_⟩
  unfold lessonW; split
  · exact ⟨Nat.le_refl _, hz, rfl⟩
  · exact ⟨Nat.le_succ _, hz, rfl⟩
theorem nx_places {w : Wd} (hw : WW w) (hz : HZ w) (a1 a2 : Int32) : Nx w (placesW w a1 a2) := by
  refine ⟨placesW_WW hw _ _, ?_⟩
  unfold placesW; split
  · exact ⟨Nat.le_succ _, hz, rfl⟩
  · exact ⟨Nat.le_succ _, hz, rfl⟩
theorem nx_after {w : Wd} (hw : WW w) (hz : HZ w) (a1 a2 : Int32) : Nx w (afterW w a1 a2) := by
  refine ⟨afterW_WW hw _ _, ?_⟩
  unfold afterW; split
  · exact ⟨Nat.le_refl _, hz, rfl⟩
  · exact ⟨Nat.le_succ _, hz, rfl⟩
theorem nx_most {w : Wd} (hw : WW w) (hz : HZ w) (a : Int32) : Nx w (mostW w a) := by
  refine ⟨mostW_WW hw _, ?_⟩
  unfold mostW; split
  · exact ⟨Nat.le_refl _, hz, rfl⟩
  · exact ⟨Nat.le_succ _, hz, rfl⟩
theorem nx_purse {w : Wd} (hw : WW w) (hz : HZ w) (a1 a2 : Int32) : Nx w (purseW w a1 a2) := by
  refine ⟨purseW_WW hw _ _, ?_⟩
  unfold purseW; split
  · exact ⟨Nat.le_refl _, hz, rfl⟩
  · exact ⟨Nat.le_succ _, hz, rfl⟩
theorem nx_price {w : Wd} (hw : WW w) (hz : HZ w) (a1 a2 : Int32) : Nx w (priceW w a1 a2) := by
  refine ⟨priceW_WW hw _ _, ?_⟩
  unfold priceW; split
  · exact ⟨Nat.le_succ _, hz, rfl⟩
  · exact ⟨Nat.le_succ _, hz, rfl⟩
theorem nx_step {w : Wd} (hw : WW w) (hz : HZ w) (a : Int32) : Nx w (stepW w a) := by
  refine ⟨stepW_WW hw _, ?_⟩
  unfold stepW; split
  · exact ⟨Nat.le_succ _, hz, rfl⟩
  · exact ⟨Nat.le_succ _, hz, rfl⟩
theorem nx_settle {w : Wd} (hw : WW w) (hz : HZ w) (a : Int32) : Nx w (settleW w a) := by
  refine ⟨settleW_WW hw _, ?_⟩
  unfold settleW; split
  · exact ⟨Nat.le_succ _, hz, rfl⟩
  · exact ⟨Nat.le_succ _, hz, rfl⟩
theorem nx_give {w : Wd} (hw : WW w) (hz : HZ w) (a1 a2 : Int32) : Nx w (giveW w a1 a2) := by
  refine ⟨giveW_WW hw _ _, ?_⟩
  unfold giveW; split
  · next g =>
    have e1 := (inP_tn g.1).1
    refine ⟨Nat.le_succ _, fun j hj => ?_, rfl⟩
    have hj : w.P ≤ j := hj
    show puh w.hd (tn a1) (tn a2) j = 0
    rw [puh_ne (by omega)]
    exact hz j hj
  · exact ⟨Nat.le_succ _, hz, rfl⟩
theorem pushB_kp (w : Wd) (x : Nat) : (pushB w x).ver = w.ver ∧ (pushB w x).hd = w.hd ∧ (pushB w x).P = w.P := ⟨rfl, rfl, rfl⟩
theorem putW_kp (w : Wd) (a : Int32) : (putW w a).ver = w.ver ∧ (putW w a).hd = w.hd ∧ (putW w a).P = w.P := by
  unfold putW
  refine ⟨?_, ?_, ?_⟩
  · rw [(pushB_kp _ _).1, (pushB_kp _ _).1, (pushB_kp _ _).1, (pushB_kp _ _).1]
  · rw [(pushB_kp _ _).2.1, (pushB_kp _ _).2.1, (pushB_kp _ _).2.1, (pushB_kp _ _).2.1]
  · rw [(pushB_kp _ _).2.2, (pushB_kp _ _).2.2, (pushB_kp _ _).2.2, (pushB_kp _ _).2.2]
theorem nx_feed {w : Wd} (hw : WW w) (hz : HZ w) (a b c d e : Int32) : Nx w (feedW w a b c d e) := by
  refine ⟨feedW_WW hw _ _ _ _ _, ?_⟩
  unfold feedW; split
  · unfold HZ
    rw [(putW_kp _ _).1, (putW_kp _ _).1, (putW_kp _ _).1, (putW_kp _ _).1, (putW_kp _ _).1, (putW_kp _ _).2.1, (putW_kp _ _).2.1, (putW_kp _ _).2.1, (putW_kp _ _).2.1, (putW_kp _ _).2.1, (putW_kp _ _).2.2, (putW_kp _ _).2.2, (putW_kp _ _).2.2, (putW_kp _ _).2.2, (putW_kp _ _).2.2]
    exact ⟨Nat.le_succ _, hz, rfl⟩
  · exact ⟨Nat.le_succ _, hz, rfl⟩
theorem nx_wish {w : Wd} (hw : WW w) (hz : HZ w) (a b : Int32) : Nx w (wishW w a b) := by
  refine ⟨wishW_WW hw, ?_⟩
  unfold wishW; split
  · split
    · exact ⟨Nat.le_refl _, hz, rfl⟩
    · exact ⟨Nat.le_succ _, hz, rfl⟩
  · exact ⟨Nat.le_succ _, hz, rfl⟩
theorem nx_fals {w : Wd} (hw : WW w) (hz : HZ w) (b : Int32) : Nx w (falsW w b) := by
  refine ⟨falsW_WW hw, ?_⟩
  unfold falsW; split
  · split
    · exact ⟨Nat.le_refl _, hz, rfl⟩
    · exact ⟨Nat.le_succ _, hz, rfl⟩
  · exact ⟨Nat.le_succ _, hz, rfl⟩
/-! ===== one more person: the plan of both sides ===== -/
theorem pu_gate (a : Int32) : fn_X11_isPurse a ≠ 0 ↔ inP a 201 := by
  unfold fn_X11_isPurse
  have e : ((200 : Int32) < a) ↔ ((201 : Int32) ≤ a) := by rw [lt_ti, le_ti, show (200 : Int32).toInt = 200 by decide, show (201 : Int32).toInt = 201 by decide]; omega
  have := gateN (a := a) (x := 201) (K := 201) (by decide) rfl
  rw [← this]
  by_cases h1 : a < 0
  · rw [if_pos h1, if_pos h1]
  · rw [if_neg h1, if_neg h1]
    by_cases h2 : (200 : Int32) < a
    · rw [if_pos h2, if_pos (e.mp h2)]
    · rw [if_neg h2, if_neg (fun z => h2 (e.mpr z))]
theorem bu_gate (a : Int32) : fn_X11_isBundle a ≠ 0 ↔ inP a 1024 := gateN (a := a) (x := 1024) (K := 1024) (by decide) rfl
theorem RC.person {σ : St} {n : Nat} {w : Wd} {a1 a2 : Int32} (hR : RC σ n w) (hw : WW w) (hz : HZ w) (hn : n = 88 + 5 * w.P) (g : personG w a1 a2) : RC (sN σ n w.P a1 a2) (n + 5) (addPe w (tn a1) (tn a2)) := by
  obtain ⟨g1, g2, g3⟩ := g
  have e1 := (inP_tn g1).2
  have e2 := (inP_tn g2).2
  generalize hτ : sN σ n w.P a1 a2 = τ
  have lo : ∀ q k, q < n → ¬ (q = 3 ∧ k = 2) → gI τ q k = gI σ q k := fun q k hq hk => by
    subst hτ; unfold sN; rw [gI_sI_ne hk]
    show gI (sP σ n a1 a2) q k = _
    rw [gI_sP_lt hq]
  have f3 : gI τ 3 2 = nI (w.P + 1) := by subst hτ; unfold sN; rw [gI_sI_same]
  have hi : ∀ k, gI τ n k = if k = 0 then a1 else if k = 1 then a2 else 0 := fun k => by
    subst hτ; unfold sN; rw [gI_sI_ne (by omega)]
    show gI (sP σ n a1 a2) n k = _
    rw [gI_sP_ge (Nat.le_refl _)]; simp
  have fR : ∀ j, gR τ j = if j = w.P then some n else gR σ j := fun j => by subst hτ; rfl
  obtain ⟨⟨b1, b2, b3, b4⟩, ⟨⟨k1, k2⟩, k3, k4⟩, ⟨⟨t1, t2⟩, ⟨t3, t4⟩, t5, t6⟩⟩ := hR
  have pJ : pdJ w.P = n := by unfold pdJ; omega
  refine ⟨⟨b1.fr (fun k _ => lo _ _ (by omega) (by omega)) (fun q k x y => lo _ _ (by omega) (by omega)), f3, fun j hj => ?_, fun i j hi hj hne => ?_⟩, ⟨⟨by rw [lo _ _ (by omega) (by omega)]; exact k1, by rw [lo _ _ (by omega) (by omega)]; exact k2⟩, by rw [lo _ _ (by omega) (by omega)]; exact k3, fun l hl => by rw [lo _ _ (by omega) (by omega)]; exact k4 l hl⟩, ⟨⟨by rw [lo _ _ (by omega) (by omega)]; exact t1, fun i hi => by rw [lo _ _ (by omega) (by omega)]; exact t2 i hi⟩, ⟨⟨t3.1, t3.2.1, by have := t3.2.2; omega⟩, ?_⟩, by rw [lo _ _ (by omega) (by omega)]; exact t5, by rw [lo _ _ (by omega) (by omega)]; exact t6⟩⟩
  · replace hj : j < w.P + 1 := hj
    by_cases e : j = w.P
    · subst e
      refine ⟨by rw [fR, if_pos rfl, pJ], ?_, ?_⟩
      · rw [pJ]
        refine ⟨by simp only [P0]; omega, by simp only [P0]; omega, Nat.le_refl _⟩
      · rw [pJ]
        refine ⟨?_, ?_, ?_, ?_, fun hf => absurd (by rw [hi]; rfl) hf⟩
        · rw [hi, if_pos rfl]
          show a1 = nI (puh w.pu w.P (tn a1) w.P)
          rw [puh_same, e1]
        · rw [hi, if_neg (by decide), if_pos rfl]
          show a2 = nI (puh w.dn w.P (tn a2) w.P)
          rw [puh_same, e2]
        · rw [hi, if_neg (by decide), if_neg (by decide)]
          show 0 = nI (w.hd w.P)
          rw [hz _ (Nat.le_refl _)]; rfl
        · have ew : (addPe w (tn a1) (tn a2)).ws (id w.P) = [] := by
            show (if w.P = w.P then [] else w.ws w.P) = _
            rw [if_pos rfl]
          rw [ew]
          refine ⟨?_, by decide, fun i c hi => ?_⟩
          · rw [hi, if_neg (by decide), if_neg (by decide)]; rfl
          · simp [enc] at hi
    · have hj2 : j < w.P := by omega
      obtain ⟨d1, d2, c1, c2, c3, c4, c5⟩ := b3 j hj2
      have g : ∀ q k, pdJ j ≤ q → q < pdJ j + 5 → gI τ q k = gI σ q k := fun q k x y => lo q k (by unfold pdJ at x y; omega) (by unfold pdJ at x y; omega)
      have eP : (addPe w (tn a1) (tn a2)).pu j = w.pu j := puh_ne e
      have eD : (addPe w (tn a1) (tn a2)).dn j = w.dn j := puh_ne e
      have eS : (addPe w (tn a1) (tn a2)).ws (id j) = w.ws (id j) := by
        show (if j = w.P then [] else w.ws j) = _
        rw [if_neg e]; rfl
      refine ⟨by rw [fR, if_neg e]; exact d1, ⟨d2.1, d2.2.1, by have := d2.2.2; omega⟩, ?_, ?_, ?_, ?_, fun hf => ?_⟩
      · rw [g _ _ (by omega) (by omega), eP]; exact c1
      · rw [g _ _ (by omega) (by omega), eD]; exact c2
      · rw [g _ _ (by omega) (by omega)]; exact c3
      · rw [eS]; exact c4.fr (g _ _ (by omega) (by omega)) (fun k => g _ _ (by omega) (by omega))
      · rw [g _ _ (by omega) (by omega)] at hf
        rw [law_ext (w := w) (w' := addPe w (tn a1) (tn a2)) (j := j) rfl rfl rfl eP eS rfl rfl rfl rfl eD, wth_ext (w := w) (w' := addPe w (tn a1) (tn a2)) (j := j) rfl rfl rfl eP eS]
        exact (c5 hf).fr (g _ _ (by omega) (by omega)) (fun q k x y => g _ _ (by omega) (by omega))
  · replace hi : i < w.P + 1 := hi
    replace hj : j < w.P + 1 := hj
    unfold pdJ; omega
  · have ew : (addPe w (tn a1) (tn a2)).ws 8 = w.ws 8 := by
      show (if 8 = w.P then [] else w.ws 8) = _
      rw [if_neg (by omega)]
    rw [ew]
    exact t4.fr (lo _ _ (by omega) (by omega)) (fun k => lo _ _ (by omega) (by omega))
theorem MG.person {σ : St} {n P : Nat} {w : Wd} {a1 a2 : Int32} (h : MG σ w) (hn : FIX ≤ n) : MG (sN σ n P a1 a2) w := by
  have h83 : 83 ≤ n := by simp only [FIX] at hn; omega
  refine h.ot (fun q k hq => ?_)
  have hl := mdlB_lt hq
  unfold sN
  rw [gI_sI_ne (fun z => by rw [z.1] at hq; exact absurd hq (by decide))]
  show gI (sP σ n a1 a2) q k = _
  rw [gI_sP_lt (by omega)]
theorem nx_person {w : Wd} (hw : WW w) (hz : HZ w) (a1 a2 : Int32) (g : personG w a1 a2) : WW (addPe w (tn a1) (tn a2)) ∧ HZ (addPe w (tn a1) (tn a2)) := by
  have e : personW w a1 a2 = addPe w (tn a1) (tn a2) := if_pos g
  refine ⟨by rw [← e]; exact personW_WW hw _ _, fun j hj => ?_⟩
  have hj : w.P + 1 ≤ j := hj
  exact hz j (by omega)
