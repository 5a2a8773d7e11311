/-! ===== the model: has, left, sum, envy, envies, rank ===== -/
def sumZ (f : Nat → Int) : Nat → Int
  | 0 => 0
  | p + 1 => sumZ f p + f p
theorem sumZ_rng {f : Nat → Int} {M : Int} (hM : 0 ≤ M) (h : ∀ p, -M ≤ f p ∧ f p ≤ M) : ∀ P : Nat, -(M * P) ≤ sumZ f P ∧ sumZ f P ≤ M * P
  | 0 => by unfold sumZ; simp
  | P + 1 => by
    have h1 := sumZ_rng hM h P
    have h2 := h P
    unfold sumZ
    have e : M * ((P + 1 : Nat) : Int) = M * P + M := by rw [Int.natCast_add, Int.mul_add]; simp
    rw [e]; omega
theorem sumZ_ext {f g : Nat → Int} : ∀ {N : Nat}, (∀ l, l < N → f l = g l) → sumZ f N = sumZ g N
  | 0, _ => rfl
  | N + 1, h => by unfold sumZ; rw [sumZ_ext (fun l hl => h l (by omega)), h N (by omega)]
def sumN (f : Nat → Nat) : Nat → Nat
  | 0 => 0
  | p + 1 => sumN f p + f p
theorem sumN_le {f : Nat → Nat} {M : Nat} (h : ∀ p, f p ≤ M) : ∀ P : Nat, sumN f P ≤ M * P
  | 0 => by unfold sumN; omega
  | P + 1 => by have := sumN_le h P; have := h P; unfold sumN; rw [Nat.mul_succ]; omega
/-- a bundle is better for one than another -/
def btr (t : Tb) (p b x : Nat) : Bool := t.1 p b && decide (t.2 p x < t.2 p b)
def envN (w : Wd) (t : Tb) (h : Nat → Nat) (p q : Nat) : Nat :=
  if btr t p (h q) (h p) = false then 0 else if ∃ l, l < w.N ∧ ((h q).testBit l = true ∧ btr t p (clr (h q) (2 ^ l)) (h p) = false) then 1 else 2
theorem envN_le (w : Wd) (t : Tb) (h : Nat → Nat) (p q : Nat) : envN w t h p q ≤ 2 := by unfold envN; split; omega; split <;> omega
def wayH (w : Wd) (a : Int32) : Nat → Nat := wayT w (tM w) (tn a)
def hasV (w : Wd) (a1 a2 : Int32) : Int32 := if inP a1 6 ∧ inP a2 w.P then nI (wayH w a1 (tn a2)) else -1
def leftV (w : Wd) (a1 a2 : Int32) : Int32 := if inP a1 6 ∧ inP a2 w.N then Int32.ofInt (spN w (wayH w a1) (tn a2)) else -100
def sumV (w : Wd) (a : Int32) : Int32 := if inP a 6 then Int32.ofInt (sumZ (fun p => VM w p (wayH w a p)) w.P) else -2000000000
def envyV (w : Wd) (a1 a2 a3 : Int32) : Int32 := if inP a1 6 ∧ inP a2 w.P ∧ inP a3 w.P ∧ a2 ≠ a3 then nI (envN w (tM w) (wayH w a1) (tn a2) (tn a3)) else -1
def enviesV (w : Wd) (a1 a2 : Int32) : Int32 := if inP a1 6 ∧ (1 ≤ a2.toInt ∧ a2.toInt ≤ 2) then nI (sumN (fun p => cntS (fun q => decide (p ≠ q ∧ tn a2 ≤ envN w (tM w) (wayH w a1) p q)) w.P) w.P) else -1
def rankV (w : Wd) (a1 a2 : Int32) : Int32 := if inP a1 6 ∧ inP a2 w.P then nI (cntS (fun b => btr (tM w) (tn a2) b (wayH w a1 (tn a2))) (2 ^ w.N)) else -1
theorem way_in {a : Int32} : fn_X12_isWay a ≠ 0 ↔ inP a 6 := by unfold fn_X12_isWay; exact isIn_in (by decide) (by decide)
theorem wayH_ok {w : Wd} (hw : WW w) (a : Int32) : hOk w (wayH w a) := wayT_ok hw _ _
theorem MH.mw {σ : St} {w : Wd} {h : Nat → Nat} (hM : MH σ w h) (hw : WW w) : ∃ c, MW σ w (tM w) c h := by
  obtain ⟨⟨c, a⟩, b⟩ := hM; exact ⟨c, a.x hw, b⟩
theorem MH.st {m : Md} {σ σ' : St} {w : Wd} {h : Nat → Nat} (hM : MH σ w h) (hw : WW w) (hf : Fr m σ σ') (ho : (okX m && rowFree m 71) = true) : MH σ' w h := by
  simp only [Bool.and_eq_true] at ho
  obtain ⟨⟨c, a⟩, b⟩ := hM
  exact ⟨⟨c, a.st hw hf ho.1⟩, fun p hp => by rw [hf.row ho.2]; exact b p hp⟩
theorem hasIn_M {d n : Nat} {σ : St} {w : Wd} {k p : Nat} (hn : FIX ≤ n) (hd : 10 ≤ d) (hM : MG σ w) (hw : WW w) (hk : k < 6) (hp : p < w.P) : Cn d n M_X12_hasIn md_X12_hasIn [.ref 11, .int (nI k), .int (nI p)] σ (liI (fun v σ' => v = nI (wayT w (tM w) k p) ∧ MH σ' w (wayT w (tM w) k) ∧ VQ σ' σ')) := by
  have hP := hw.P
  refine S_X12_hasIn hn (by omega) ⟨_, goes_M hn (by omega) hM hw hk, fun σ1 ⟨h1, hvq⟩ hf => ⟨vp_in_nI (by omega) (by decide), ?_, h1, hvq⟩⟩
  rw [nI_clamp (by omega)]; exact h1.2 p hp
theorem has_M {d n : Nat} {σ : St} {w : Wd} {a1 a2 : Int32} (hn : FIX ≤ n) (hd : 11 ≤ d) (hM : MG σ w) (hw : WW w) : Cn d n M_X12_has md_X12_has [.ref 11, .int a1, .int a2] σ (liI (fun v σ' => v = hasV w a1 a2 ∧ MG σ' w)) := by
  have hP := hw.P
  refine S_X12_has hn (by omega) ⟨fun h => ⟨?_, hM⟩, fun h => ⟨fun h2 => ⟨?_, hM⟩, fun h2 => ?_⟩⟩
  · unfold hasV; rw [if_neg (fun z => ze.mp h (way_in.mpr z.1))]
  · unfold hasV; rw [if_neg (fun z => ze.mp h2 ((pers_in hM.1 hw).mpr z.2))]
  · have g1 := way_in.mp h
    have g2 := (pers_in hM.1 hw).mp h2
    obtain ⟨k, hk, rfl⟩ := inP_ex (by decide) g1
    obtain ⟨p, hp, rfl⟩ := inP_ex (by omega) g2
    refine ⟨_, hasIn_M hn (by omega) hM hw hk hp, fun v σ1 ⟨e1, e2, _⟩ hf => ⟨?_, e2.g⟩⟩
    unfold hasV wayH; rw [if_pos ⟨g1, g2⟩, tn_nI (by omega), tn_nI (by omega)]; exact e1
theorem left_M {d n : Nat} {σ : St} {w : Wd} {a1 a2 : Int32} (hn : FIX ≤ n) (hd : 11 ≤ d) (hM : MG σ w) (hw : WW w) : Cn d n M_X12_left md_X12_left [.ref 11, .int a1, .int a2] σ (liI (fun v σ' => v = leftV w a1 a2 ∧ MG σ' w)) := by
  have hN := hw.N
  refine S_X12_left hn (by omega) ⟨fun h => ⟨?_, hM⟩, fun h => ⟨fun h2 => ?_, fun h2 => ⟨?_, hM⟩⟩⟩
  · unfold leftV; rw [if_neg (fun z => ze.mp h (way_in.mpr z.1))]
  · have g1 := way_in.mp h
    have g2 := (less_in hM.1 hw).mp h2
    obtain ⟨k, hk, rfl⟩ := inP_ex (by decide) g1
    obtain ⟨p, hp, rfl⟩ := inP_ex (by omega) g2
    refine ⟨_, goes_M hn (by omega) hM hw hk, fun σ1 ⟨h1, hvq⟩ hf => ?_⟩
    obtain ⟨c, m⟩ := h1.mw hw
    refine ⟨_, leftOf_M hn (by omega) m hw (wayT_ok hw _ _) hp, ?_⟩
    rintro v σ2 ⟨rfl, e⟩ hf2
    refine ⟨?_, h1.g⟩
    unfold leftV wayH; rw [if_pos ⟨g1, g2⟩, tn_nI (by omega), tn_nI (by omega)]; exact ofI e
  · unfold leftV; rw [if_neg (fun z => ze.mp h2 ((less_in hM.1 hw).mpr z.2))]
theorem sum_M {d n : Nat} {σ : St} {w : Wd} {a : Int32} (hn : FIX ≤ n) (hd : 11 ≤ d) (hM : MG σ w) (hw : WW w) : Cn d n M_X12_sum md_X12_sum [.ref 11, .int a] σ (liI (fun v σ' => v = sumV w a ∧ MG σ' w)) := by
  have hP := hw.P
  have hpw := pow10 hw.N
  refine S_X12_sum hn (by omega) ⟨fun h => ?_, fun h => ⟨?_, hM⟩⟩
  · have g1 := way_in.mp h
    obtain ⟨k, hk, rfl⟩ := inP_ex (by decide) g1
    refine ⟨_, goes_M hn (by omega) hM hw hk, fun σ1 ⟨h1, hvq⟩ hf => ?_⟩
    have hok := wayT_ok hw (tM w) k
    generalize hwy : wayT w (tM w) k = hh at h1 hok
    have eV : sumV w (nI k) = Int32.ofInt (sumZ (fun p => VM w p (hh p)) w.P) := by
      unfold sumV wayH; rw [if_pos g1, tn_nI (by omega), hwy]
    rw [eV]
    obtain ⟨⟨c, m1⟩, m2⟩ := h1
    have rng : ∀ p : Nat, -(1000000 * (p : Int)) ≤ sumZ (fun p => VM w p (hh p)) p ∧ sumZ (fun p => VM w p (hh p)) p ≤ 1000000 * p := sumZ_rng (by decide) (fun p => VM_w w p _)
    have loop : ∀ p, p ≤ w.P → ∀ x : Int32, x.toInt = sumZ (fun p => VM w p (hh p)) p → K_X12_sum_20 d n σ (fun v σ' => v = Int32.ofInt (sumZ (fun p => VM w p (hh p)) w.P) ∧ MG σ' w) σ1 x (nI p) := by
      refine up_ind (N := w.P) ?_ ?_
      · intro x hx
        exact B_X12_sum_20 hn (by omega) ⟨fun _ => ⟨ofI hx, m1.g⟩, fun z => absurd (by rw [m1.1.P]; exact nI_le (Nat.le_refl _) (by omega)) z⟩
      · intro p hp ih x hx
        have hb := hok p
        obtain ⟨a1, a2⟩ := worM m1 hw hp (show hh p < 1024 by omega)
        have r1 := rng p
        have r2 := VM_w w p (hh p)
        refine B_X12_sum_20 hn (by omega) ⟨fun z => absurd z (by rw [m1.1.P]; exact nI_ge hp (by omega)), fun _ => ⟨vp_in_nI (by omega) (by decide), ?_⟩⟩
        rw [nI_clamp (by omega), m2 p hp, nI_1]
        refine ⟨a1, ih _ ?_⟩
        unfold sumZ
        rw [ti_add] <;> rw [hx, a2] <;> omega
    exact loop 0 (by omega) 0 (by unfold sumZ; decide)
  · unfold sumV; rw [if_neg (fun z => ze.mp h (way_in.mpr z))]
theorem betM {σ : St} {w : Wd} {c : Nat → Nat} {p b x : Nat} (hM : MT σ w c) (hw : WW w) (hp : p < w.P) (hb : b < 1024) (hx : x < 1024) : pre_X12_isBetter σ (nI p) (nI b) (nI x) ∧ fn_X12_isBetter σ (nI p) (nI b) (nI x) = bI (btr (tM w) p b x) := by
  obtain ⟨l1, l2⟩ := lawM hM hw hp hb
  obtain ⟨w1, w2⟩ := worM hM hw hp hb
  obtain ⟨v1, v2⟩ := worM hM hw hp hx
  refine ⟨⟨l1, fun _ => trivial, fun _ => ⟨w1, v1, fun _ => trivial, fun _ => trivial⟩⟩, ?_⟩
  unfold fn_X12_isBetter btr
  by_cases h : fn_X12_isLawful σ (nI p) (nI b) = 0
  · rw [if_pos h]; have e : (tM w).1 p b = false := l2.mp h; rw [e]; rfl
  · rw [if_neg h]
    have e : (tM w).1 p b = true := by
      cases e : (tM w).1 p b with
      | true => rfl
      | false => exact absurd (l2.mpr e) h
    rw [e, Bool.true_and]
    by_cases h2 : fn_X12_worthOf σ (nI p) (nI b) ≤ fn_X12_worthOf σ (nI p) (nI x)
    · rw [if_pos h2]; have := le_ti.mp h2; rw [w2, v2] at this
      rw [decide_eq_false (show ¬ (tM w).2 p x < (tM w).2 p b from fun z => by have : VM w p x < VM w p b := z; omega)]; rfl
    · rw [if_neg h2]; have : ¬ _ ≤ _ := fun z => h2 (le_ti.mpr z)
      rw [w2, v2] at this
      rw [decide_eq_true (show (tM w).2 p x < (tM w).2 p b from by show VM w p x < VM w p b; omega)]; rfl
theorem bI_z {b : Bool} : bI b = 0 ↔ b = false := by cases b <;> simp [bI]
theorem bI_nz {b : Bool} : bI b ≠ 0 ↔ b = true := by cases b <;> simp [bI]
theorem envyOf_M {d n : Nat} {σ : St} {w : Wd} {h : Nat → Nat} {p q : Nat} (hn : FIX ≤ n) (hd : 3 ≤ d) (hM : MH σ w h) (hw : WW w) (hh : hOk w h) (hp : p < w.P) (hq : q < w.P) : Cn d n M_X12_envyOf md_X12_envyOf [.ref 11, .int (nI p), .int (nI q)] σ (liI (fun v σ' => σ' = σ ∧ v = nI (envN w (tM w) h p q))) := by
  have hP := hw.P
  have hN := hw.N
  have hpw := pow10 hN
  obtain ⟨⟨c, m1⟩, m2⟩ := hM
  have h1 := hh p
  have h2 := hh q
  obtain ⟨b1, b2⟩ := betM m1 hw hp (show h q < 1024 by omega) (show h p < 1024 by omega)
  refine S_X12_envyOf hn (by omega) ⟨vp_in_nI (by omega) (by decide), vp_in_nI (by omega) (by decide), ?_⟩
  rw [nI_clamp (by omega), nI_clamp (by omega), m2 p hp, m2 q hq, b2, bI_z, bI_nz]
  refine ⟨b1, fun hb => ?_, fun hb => ⟨rfl, by unfold envN; rw [if_pos hb]; rfl⟩⟩
  have hb' : ¬ btr (tM w) p (h q) (h p) = false := by rw [hb]; decide
  generalize hQ : (fun (v : Int32) (σ' : St) => σ' = σ ∧ v = nI (envN w (tM w) h p q)) = Q
  have loop : ∀ l, l ≤ w.N → (∀ l', l' < l → ¬ ((h q).testBit l' = true ∧ btr (tM w) p (clr (h q) (2 ^ l')) (h p) = false)) → K_X12_envyOf_27 d n σ Q σ (nI p) (nI (h q)) (nI l) := by
    refine up_ind (N := w.N) ?_ ?_
    · intro hno
      refine B_X12_envyOf_27 hn (by omega) ⟨fun _ => ?_, fun z => absurd (by rw [m1.1.N]; exact nI_le (Nat.le_refl _) (by omega)) z⟩
      rw [← hQ]
      refine ⟨rfl, ?_⟩
      unfold envN; rw [if_neg hb', if_neg (fun ⟨l, hl, z⟩ => hno l hl z)]; rfl
    · intro l hl ih hno
      have hc := clr_le (h q) (2 ^ l)
      obtain ⟨a1, a2⟩ := betM m1 hw hp (show clr (h q) (2 ^ l) < 1024 by omega) (show h p < 1024 by omega)
      refine B_X12_envyOf_27 hn (by omega) ⟨fun z => absurd z (by rw [m1.1.N]; exact nI_ge hl (by omega)), fun _ => ⟨fun hz => ?_, fun hz => ⟨vp_in_nI (by omega) (by decide), ?_⟩⟩⟩
      · rw [nI_1]
        refine ih (fun l' hl' => ?_)
        by_cases e : l' = l
        · rw [e]; exact fun z => (hold_z (by omega) (by omega)).mp hz z.1
        · exact hno l' (by omega)
      · rw [nI_clamp (by omega), m2 p hp, shl1 (by omega), nI_clr, a2, bI_nz, bI_z]
        refine ⟨a1, fun hx => ?_, fun hx => ?_⟩
        · rw [nI_1]
          refine ih (fun l' hl' => ?_)
          by_cases e : l' = l
          · rw [e, hx]; exact fun z => absurd z.2 (by decide)
          · exact hno l' (by omega)
        · rw [← hQ]
          refine ⟨rfl, ?_⟩
          unfold envN; rw [if_neg hb', if_pos ⟨l, hl, hold_nz (by omega) (by omega) hz, hx⟩]; rfl
  exact loop 0 (by omega) (fun l' h => absurd h (by omega))
theorem envy_M {d n : Nat} {σ : St} {w : Wd} {a1 a2 a3 : Int32} (hn : FIX ≤ n) (hd : 11 ≤ d) (hM : MG σ w) (hw : WW w) : Cn d n M_X12_envy md_X12_envy [.ref 11, .int a1, .int a2, .int a3] σ (liI (fun v σ' => v = envyV w a1 a2 a3 ∧ MG σ' w)) := by
  have hP := hw.P
  refine S_X12_envy hn (by omega) ⟨fun h => ⟨?_, hM⟩, fun h => ⟨fun h2 => ⟨?_, hM⟩, fun h2 => ⟨fun h3 => ⟨?_, hM⟩, fun h3 => ⟨fun h4 => ?_, fun h4 => ⟨?_, hM⟩⟩⟩⟩⟩
  · unfold envyV; rw [if_neg (fun z => ze.mp h (way_in.mpr z.1))]
  · unfold envyV; rw [if_neg (fun z => ze.mp h2 ((pers_in hM.1 hw).mpr z.2.1))]
  · unfold envyV; rw [if_neg (fun z => ze.mp h3 ((pers_in hM.1 hw).mpr z.2.2.1))]
  · have g1 := way_in.mp h
    have g2 := (pers_in hM.1 hw).mp h2
    have g3 := (pers_in hM.1 hw).mp h3
    have eV : envyV w a1 a2 a3 = nI (envN w (tM w) (wayH w a1) (tn a2) (tn a3)) := by unfold envyV; rw [if_pos ⟨g1, g2, g3, h4⟩]
    rw [eV]
    obtain ⟨k, hk, rfl⟩ := inP_ex (by decide) g1
    obtain ⟨p, hp, rfl⟩ := inP_ex (by omega) g2
    obtain ⟨q, hq, rfl⟩ := inP_ex (by omega) g3
    refine ⟨_, goes_M hn (by omega) hM hw hk, fun σ1 ⟨h1, hvq⟩ hf => ⟨_, envyOf_M hn (by omega) h1 hw (wayT_ok hw _ _) hp hq, ?_⟩⟩
    rintro v σ2 ⟨rfl, e⟩ hf2
    refine ⟨?_, h1.g⟩
    unfold wayH; rw [tn_nI (by omega), tn_nI (by omega), tn_nI (by omega)]; exact e
  · unfold envyV; rw [if_neg (fun z => z.2.2.2 h4)]
theorem rank_M {d n : Nat} {σ : St} {w : Wd} {a1 a2 : Int32} (hn : FIX ≤ n) (hd : 11 ≤ d) (hM : MG σ w) (hw : WW w) : Cn d n M_X12_rank md_X12_rank [.ref 11, .int a1, .int a2] σ (liI (fun v σ' => v = rankV w a1 a2 ∧ MG σ' w)) := by
  have hP := hw.P
  have hN := hw.N
  have hpw := pow10 hN
  refine S_X12_rank hn (by omega) ⟨fun h => ⟨?_, hM⟩, fun h => ⟨fun h2 => ?_, fun h2 => ⟨?_, hM⟩⟩⟩
  · unfold rankV; rw [if_neg (fun z => ze.mp h (way_in.mpr z.1))]
  · have g1 := way_in.mp h
    have g2 := (pers_in hM.1 hw).mp h2
    have eV : rankV w a1 a2 = nI (cntS (fun b => btr (tM w) (tn a2) b (wayH w a1 (tn a2))) (2 ^ w.N)) := by unfold rankV; rw [if_pos ⟨g1, g2⟩]
    rw [eV]
    obtain ⟨k, hk, rfl⟩ := inP_ex (by decide) g1
    obtain ⟨p, hp, rfl⟩ := inP_ex (by omega) g2
    refine ⟨_, hasIn_M hn (by omega) hM hw hk hp, ?_⟩
    rintro v σ1 ⟨rfl, h1, -⟩ hf
    unfold wayH; rw [tn_nI (by omega), tn_nI (by omega)]
    have hb := wayT_ok hw (tM w) k p
    generalize wayT w (tM w) k p = x at hb
    obtain ⟨⟨c, m1⟩, m2⟩ := h1
    generalize hQ : (fun (v : Int32) (σ' : St) => v = nI (cntS (fun b => btr (tM w) p b x) (2 ^ w.N)) ∧ MG σ' w) = Q
    have loop : ∀ b, b ≤ 2 ^ w.N → K_X12_rank_30 d n σ Q σ1 (nI p) (nI x) (nI (cntS (fun b => btr (tM w) p b x) b)) (nI b) := by
      refine up_ind (N := 2 ^ w.N) ?_ ?_
      · exact B_X12_rank_30 hn (by omega) ⟨fun _ => by rw [← hQ]; exact ⟨rfl, m1.g⟩, fun z => absurd (by rw [shl_N m1.1 hw]; exact nI_le (Nat.le_refl _) (by omega)) z⟩
      · intro b hb2 ih
        obtain ⟨a1, a2⟩ := betM m1 hw hp (show b < 1024 by omega) (show x < 1024 by omega)
        refine B_X12_rank_30 hn (by omega) ⟨fun z => absurd z (by rw [shl_N m1.1 hw]; exact nI_ge hb2 (by omega)), fun _ => ⟨a1, ?_⟩⟩
        rw [a2, nI_1]
        unfold cntS at ih
        cases e : btr (tM w) p b x with
        | false => rw [e] at ih; show K_X12_rank_30 _ _ _ _ _ _ _ (_ + 0) _; rw [Int32.add_zero]; exact ih
        | true => rw [e, if_pos rfl] at ih; show K_X12_rank_30 _ _ _ _ _ _ _ (_ + 1) _; rw [nI_1]; exact ih
    exact loop 0 (by omega)
  · unfold rankV; rw [if_neg (fun z => ze.mp h2 ((pers_in hM.1 hw).mpr z.2))]
theorem envies_M {d n : Nat} {σ : St} {w : Wd} {a1 a2 : Int32} (hn : FIX ≤ n) (hd : 11 ≤ d) (hM : MG σ w) (hw : WW w) : Cn d n M_X12_envies md_X12_envies [.ref 11, .int a1, .int a2] σ (liI (fun v σ' => v = enviesV w a1 a2 ∧ MG σ' w)) := by
  have hP := hw.P
  have o1 : (1 : Int32).toInt = 1 := by decide
  have o2 : (2 : Int32).toInt = 2 := by decide
  refine S_X12_envies hn (by omega) ⟨fun h => ⟨?_, hM⟩, fun h => ⟨fun h2 => ?_, fun h2 => ⟨?_, hM⟩⟩⟩
  · unfold enviesV; rw [if_neg (fun z => ze.mp h (way_in.mpr z.1))]
  · have g1 := way_in.mp h
    have g2 := isIn_ti.mp h2
    rw [o1, o2] at g2
    have eV : enviesV w a1 a2 = nI (sumN (fun p => cntS (fun q => decide (p ≠ q ∧ tn a2 ≤ envN w (tM w) (wayH w a1) p q)) w.P) w.P) := by unfold enviesV; rw [if_pos ⟨g1, g2⟩]
    rw [eV]
    obtain ⟨k, hk, rfl⟩ := inP_ex (by decide) g1
    obtain ⟨m, hm, rfl⟩ := ex_nI (K := 3) (by decide) (by omega : 0 ≤ a2.toInt) (by omega)
    unfold wayH; rw [tn_nI (by omega), tn_nI (by omega)]
    refine ⟨_, goes_M hn (by omega) hM hw hk, fun σ1 ⟨h1, hvq⟩ hf => ?_⟩
    have hok := wayT_ok hw (tM w) k
    generalize wayT w (tM w) k = hh at h1 hok
    generalize hQ : (fun (v : Int32) (σ' : St) => v = nI (sumN (fun p => cntS (fun q => decide (p ≠ q ∧ m ≤ envN w (tM w) hh p q)) w.P) w.P) ∧ MG σ' w) = Q
    have m1 : ∃ c, MT σ1 w c := h1.1
    obtain ⟨c, m1⟩ := m1
    have loop : ∀ p, p ≤ w.P → K_X12_envies_28 d n σ Q σ1 (nI m) (nI (sumN (fun p => cntS (fun q => decide (p ≠ q ∧ m ≤ envN w (tM w) hh p q)) w.P) p)) (nI p) := by
      refine up_ind (N := w.P) ?_ ?_
      · exact B_X12_envies_28 hn (by omega) ⟨fun _ => by rw [← hQ]; exact ⟨rfl, m1.g⟩, fun z => absurd (by rw [m1.1.P]; exact nI_le (Nat.le_refl _) (by omega)) z⟩
      · intro p hp ih
        refine B_X12_envies_28 hn (by omega) ⟨fun z => absurd z (by rw [m1.1.P]; exact nI_ge hp (by omega)), fun _ => ?_⟩
        generalize hS : sumN (fun p => cntS (fun q => decide (p ≠ q ∧ m ≤ envN w (tM w) hh p q)) w.P) p = S
        have inn : ∀ q, q ≤ w.P → K_X12_envies_40 d n σ Q σ1 (nI m) (nI (S + cntS (fun q => decide (p ≠ q ∧ m ≤ envN w (tM w) hh p q)) q)) (nI p) (nI q) := by
          refine up_ind (N := w.P) ?_ ?_
          · refine B_X12_envies_40 hn (by omega) ⟨fun _ => ?_, fun z => absurd (by rw [m1.1.P]; exact nI_le (Nat.le_refl _) (by omega)) z⟩
            unfold sumN at ih
            rw [hS] at ih
            rw [nI_1]; exact ih
          · intro q hq ih2
            unfold cntS at ih2
            refine B_X12_envies_40 hn (by omega) ⟨fun z => absurd z (by rw [m1.1.P]; exact nI_ge hq (by omega)), fun _ => ⟨fun e => ?_, fun e => ⟨_, envyOf_M hn (by omega) h1 hw hok hp hq, ?_⟩⟩⟩
            · have epq : p = q := (nI_eq (by omega) (by omega)).mp e
              rw [decide_eq_false (fun z => z.1 epq)] at ih2
              rw [nI_1]; exact ih2
            · rintro v σ2 ⟨rfl, rfl⟩ hf2
              have hne : p ≠ q := fun z => e (by rw [z])
              have hle := envN_le w (tM w) hh p q
              rw [nI_1]
              refine ⟨fun hlt => ?_, fun hlt => ?_⟩
              · have := lt_ti.mp hlt
                rw [nI_toInt (by omega), nI_toInt (by omega)] at this
                rw [decide_eq_false (fun z => by have := z.2; omega)] at ih2
                show K_X12_envies_40 _ _ _ _ _ _ (_ + 0) _ _
                rw [Int32.add_zero]; exact ih2
              · have : ¬ _ < _ := fun z => hlt (lt_ti.mpr z)
                rw [nI_toInt (by omega), nI_toInt (by omega)] at this
                rw [decide_eq_true (show p ≠ q ∧ m ≤ envN w (tM w) hh p q from ⟨hne, by omega⟩), if_pos rfl] at ih2
                show K_X12_envies_40 _ _ _ _ _ _ (_ + 1) _ _
                rw [nI_1]; exact ih2
        exact inn 0 (by omega)
    exact loop 0 (by omega)
  · have := isIn_z.mp h2
    rw [o1, o2] at this
    unfold enviesV; rw [if_neg (fun z => this z.2)]
