/-! ===== the model: share, gain ===== -/
def hpS (w : Wd) (s p : Nat) : Nat := setU (fun l => decide (s / w.P ^ l % w.P = p)) w.N
def wO (V : Nat → Int) (o : Option Nat) : Int := match o with
  | none => -1000000
  | some b => V b
def heapW (w : Wd) (t : Tb) (j set : Nat) : Int := wO (t.2 j) (bestW (t.1 j) (t.2 j) set (2 ^ w.N))
def lhU (w : Wd) (t : Tb) (j s : Nat) : Nat → Int
  | 0 => 2000000
  | p + 1 => min (lhU w t j s p) (heapW w t j (hpS w s p))
def mhU (w : Wd) (t : Tb) (j : Nat) : Nat → Int
  | 0 => -2000000
  | s + 1 => max (mhU w t j s) (lhU w t j s w.P)
def shareV (w : Wd) (a : Int32) : Int32 := if inP a w.P ∧ w.P ≤ 3 ∧ w.N ≤ 6 then Int32.ofInt (mhU w (tM w) (tn a) (w.P ^ w.N)) else -2000000
theorem wO_rng {V : Nat → Int} (h : ∀ b, -1000000 ≤ V b ∧ V b ≤ 1000000) (o : Option Nat) : -1000000 ≤ wO V o ∧ wO V o ≤ 1000000 := by
  cases o with
  | none => exact ⟨by show (-1000000 : Int) ≤ -1000000; decide, by show (-1000000 : Int) ≤ 1000000; decide⟩
  | some b => exact h b
theorem clr_sub {a m : Nat} (h : clr a m = 0) : a ≤ m := by
  unfold clr at h
  have : a = a &&& m := by
    have h2 := congrArg (fun x => x ^^^ (a &&& m)) h
    simp only [Nat.xor_assoc, Nat.xor_self, Nat.xor_zero, Nat.zero_xor] at h2
    exact h2
  rw [this]; exact Nat.and_le_right
theorem bestW_skip {L : Nat → Bool} {V : Nat → Int} {a k : Nat} (hk : a < k) : ∀ j, bestW L V a (k + j) = bestW L V a k
  | 0 => rfl
  | j + 1 => by
    rw [← Nat.add_assoc, bestW_no (fun _ z => by have := clr_sub z; omega)]
    exact bestW_skip hk j
theorem heapOf_M {d n : Nat} {σ : St} {w : Wd} {s p : Nat} (hn : FIX ≤ n) (hM : RM σ w) (hw : WW w) (hp0 : 0 < w.P) (hs : s < 1000000) (hp : p < w.P) : Cn d n M_X12_heapOf md_X12_heapOf [.ref 11, .int (nI s), .int (nI p)] σ (liI (fun v σ' => σ' = σ ∧ v = nI (hpS w s p))) := by
  have hN := hw.N
  have hP := hw.P
  refine S_X12_heapOf hn ?_
  generalize hQ : (fun (v : Int32) (σ' : St) => σ' = σ ∧ v = nI (hpS w s p)) = Q
  have hz : ¬ nI w.P = 0 := fun e => by have := (nI_eq (b := 0) (by omega : w.P < 2 ^ 31) (by decide)).mp e; omega
  have loop : ∀ l, l ≤ w.N → K_X12_heapOf_8 d n σ Q σ (nI p) (nI (s / w.P ^ l)) (nI (setU (fun l => decide (s / w.P ^ l % w.P = p)) l)) (nI l) := by
    refine up_ind (N := w.N) ?_ ?_
    · exact B_X12_heapOf_8 hn ⟨fun _ => by rw [← hQ]; exact ⟨rfl, rfl⟩, fun z => absurd (by rw [hM.N]; exact nI_le (Nat.le_refl _) (by omega)) z⟩
    · intro l hl ih
      have h1 : s / w.P ^ l ≤ s := Nat.div_le_self _ _
      have h2 : s / w.P ^ l % w.P < w.P := Nat.mod_lt _ hp0
      unfold setU at ih
      rw [Nat.pow_succ, ← Nat.div_div_eq_div_mul] at ih
      refine B_X12_heapOf_8 hn ⟨fun z => absurd z (by rw [hM.N]; exact nI_ge hl (by omega)), fun _ => ?_⟩
      rw [hM.P, nI_mod (by omega) (by omega), nI_div (by omega) (by omega), nI_1]
      refine ⟨hz, fun e => ⟨hz, ?_⟩, fun e => ⟨hz, ?_⟩⟩
      · have : ¬ s / w.P ^ l % w.P = p := fun z => e (by rw [z])
        rw [decide_eq_false this, if_neg (by decide), Nat.or_zero] at ih; exact ih
      · have : s / w.P ^ l % w.P = p := (nI_eq (by omega) (by omega)).mp e
        rw [decide_eq_true this, if_pos rfl] at ih
        rw [shl1 (by omega), nI_or]; exact ih
  have := loop 0 (by omega)
  rw [Nat.pow_zero, Nat.div_one] at this
  exact this
theorem pow_le729 {m N : Nat} (h1 : m ≤ 3) (h2 : N ≤ 6) : m ^ N ≤ 729 := by
  have : m ^ N ≤ 3 ^ N := Nat.pow_le_pow_left h1 N
  have : 3 ^ N ≤ 3 ^ 6 := Nat.pow_le_pow_right (by decide) h2
  omega
theorem tables_MT {d n : Nat} {σ : St} {w : Wd} (hn : FIX ≤ n) (hd : 7 ≤ d) (hM : MG σ w) (hw : WW w) : Cn d n M_X12_tables md_X12_tables [.ref 11] σ (liV (fun σ' => ∃ c, MT σ' w c)) :=
  Cn.wk (tables_spec hn hd hM.1 hw hM.2.2) (by
    rintro v σ1 ⟨rfl, c0, c1, c2⟩ hf1
    have : ∀ l, ∃ k, gI σ1 63 l = nI k := fun l => nI_any _
    exact ⟨rfl, fun l => (this l).choose, c0, by rw [hf1.cell (by decide)]; exact hM.2.1, c1, fun l hl => (this l).choose_spec⟩)
theorem share_M {d n : Nat} {σ : St} {w : Wd} {a : Int32} (hn : FIX ≤ n) (hd : 9 ≤ d) (hM : MG σ w) (hw : WW w) : Cn d n M_X12_share md_X12_share [.ref 11, .int a] σ (liI (fun v σ' => v = shareV w a ∧ MG σ' w)) := by
  have hN := hw.N
  have hP := hw.P
  have t3 : (3 : Int32).toInt = 3 := by decide
  have t6 : (6 : Int32).toInt = 6 := by decide
  refine S_X12_share hn (by omega) ⟨fun h => ⟨?_, hM⟩, fun h => ⟨fun h2 => ⟨?_, hM⟩, fun h2 => ⟨fun h3 => ?_, fun h3 => ⟨?_, hM⟩⟩⟩⟩
  · unfold shareV; rw [if_neg (fun z => ze.mp h ((pers_in hM.1 hw).mpr z.1))]
  · have := lt_ti.mp h2
    rw [hM.1.P, t3, nI_toInt (by omega)] at this
    unfold shareV; rw [if_neg (fun z => by have := z.2.1; omega)]
  · have g1 := (pers_in hM.1 hw).mp h
    have g2 : w.P ≤ 3 := by
      have : ¬ _ < _ := fun z => h2 (lt_ti.mpr z)
      rw [hM.1.P, t3, nI_toInt (by omega)] at this; omega
    have g3 : w.N ≤ 6 := by
      have := le_ti.mp h3
      rw [hM.1.N, t6, nI_toInt (by omega)] at this; omega
    have eV : shareV w a = Int32.ofInt (mhU w (tM w) (tn a) (w.P ^ w.N)) := by unfold shareV; rw [if_pos ⟨g1, g2, g3⟩]
    rw [eV]
    obtain ⟨j, hj, rfl⟩ := inP_ex (by omega) g1
    rw [tn_nI (by omega)]
    have h729 : w.P ^ w.N ≤ 729 := pow_le729 g2 g3
    have h64 : 2 ^ w.N ≤ 64 := by
      have : 2 ^ w.N ≤ 2 ^ 6 := Nat.pow_le_pow_right (by decide) g3
      omega
    generalize hQ : (fun (v : Int32) (σ' : St) => v = Int32.ofInt (mhU w (tM w) j (w.P ^ w.N)) ∧ MG σ' w) = Q
    refine ⟨_, tables_MT hn (by omega) hM hw, ?_⟩
    rintro σ1 ⟨c, m1⟩ hf1
    have hVr : ∀ b, -1000000 ≤ (tM w).2 j b ∧ (tM w).2 j b ≤ 1000000 := fun b => VM_w w j b
    have hwr : ∀ set, -1000000 ≤ heapW w (tM w) j set ∧ heapW w (tM w) j set ≤ 1000000 := fun set => wO_rng hVr _
    have outer : ∀ s, s ≤ w.P ^ w.N → ∀ (σ2 : St) (x : Int32), MT σ2 w c → (∀ h, h < 2 ^ w.N → (gI σ2 73 h).toInt = heapW w (tM w) j h) → x.toInt = mhU w (tM w) j s → K_X12_share_172 d n σ Q σ2 (nI (w.P ^ w.N)) x (nI s) := by
      refine up_ind (N := w.P ^ w.N) ?_ ?_
      · intro σ2 x m2 m3 hx
        refine B_X12_share_172 hn (by omega) ⟨fun _ => ?_, fun z => absurd (nI_le (Nat.le_refl _) (by omega)) z⟩
        rw [← hQ]; exact ⟨ofI hx, m2.g⟩
      · intro s hs ih σ2 x m2 m3 hx
        refine B_X12_share_172 hn (by omega) ⟨fun z => absurd z (nI_ge hs (by omega)), fun _ => ?_⟩
        have inn : ∀ p, p ≤ w.P → ∀ y : Int32, y.toInt = lhU w (tM w) j s p → K_X12_share_186 d n σ Q σ2 (nI (w.P ^ w.N)) x (nI s) y (nI p) := by
          refine up_ind (N := w.P) ?_ ?_
          · intro y hy
            refine B_X12_share_186 hn (by omega) ⟨fun _ => ?_, fun z => absurd (by rw [m2.1.P]; exact nI_le (Nat.le_refl _) (by omega)) z⟩
            rw [nI_1]
            refine ih σ2 _ m2 m3 ?_
            rw [mxI_ti, hx, hy]; exact rfl
          · intro p hp ih2 y hy
            refine B_X12_share_186 hn (by omega) ⟨fun z => absurd z (by rw [m2.1.P]; exact nI_ge hp (by omega)), fun _ => ⟨_, heapOf_M hn m2.1 hw (by omega) (by omega) hp, ?_⟩⟩
            rintro v σ3 ⟨rfl, rfl⟩ hf3
            have hlt : hpS w s p < 2 ^ w.N := setU_lt _
            refine ⟨vp_in_nI (by omega) (by decide), ?_⟩
            rw [nI_clamp (by omega), nI_1]
            refine ih2 _ ?_
            rw [mnI_ti, hy, m3 _ hlt]; exact rfl
        exact inn 0 (by omega) _ (by unfold lhU; decide)
    have fill : ∀ h, h ≤ 2 ^ w.N → ∀ σ2 : St, MT σ2 w c → (∀ h', h' < h → (gI σ2 73 h').toInt = heapW w (tM w) j h') → K_X12_share_60 d n σ Q σ2 (nI j) (nI (w.P ^ w.N)) (nI h) := by
      refine up_ind (N := 2 ^ w.N) ?_ ?_
      · intro σ2 m2 m3
        refine B_X12_share_60 hn (by omega) ⟨fun _ => outer 0 (by omega) σ2 _ m2 m3 (by unfold mhU; decide), fun z => absurd (by rw [shl_N m2.1 hw]; exact nI_le (Nat.le_refl _) (by omega)) z⟩
      · intro h hh ih σ2 m2 m3
        have hv : vp_in (nI h) 64 := vp_in_nI (by omega) (by decide)
        refine B_X12_share_60 hn (by omega) ⟨fun z => absurd z (by rw [shl_N m2.1 hw]; exact nI_ge hh (by omega)), fun _ => ⟨hv, ?_⟩⟩
        rw [nI_clamp (by omega)]
        have inn : ∀ b, b ≤ h + 1 → ∀ σ3 : St, MT σ3 w c → (∀ h', h' < h → (gI σ3 73 h').toInt = heapW w (tM w) j h') → (gI σ3 73 h).toInt = wO (VM w j) (bestW (LM w j) (VM w j) h b) → K_X12_share_85 d n σ Q σ3 (nI j) (nI (w.P ^ w.N)) (nI h) (bI (bestW (LM w j) (VM w j) h b).isSome) (nI b) := by
          refine up_ind (N := h + 1) ?_ ?_
          · intro σ3 m4 m5 m6
            refine B_X12_share_85 hn (by omega) ⟨fun _ => ?_, fun z => absurd (nI_lt (by omega) (by omega)) z⟩
            rw [nI_1]
            refine ih σ3 m4 (fun h' hh' => ?_)
            by_cases e : h' = h
            · subst e
              have e := bestW_skip (L := LM w j) (V := VM w j) (show h' < h' + 1 by omega) (2 ^ w.N - (h' + 1))
              rw [show h' + 1 + (2 ^ w.N - (h' + 1)) = 2 ^ w.N by omega] at e
              rw [m6, ← e]
              rfl
            · exact m5 h' (by omega)
          · intro b hb ih2 σ3 m4 m5 m6
            have hc := clr_le b h
            have ez : nI (clr b h) = 0 ↔ clr b h = 0 := nI_eq (b := 0) (by omega) (by decide)
            obtain ⟨l1, l2⟩ := lawM m4 hw hj (show b < 1024 by omega)
            obtain ⟨w1, w2⟩ := worM m4 hw hj (show b < 1024 by omega)
            refine B_X12_share_85 hn (by omega) ⟨fun z => absurd z (nI_nlt (by omega) (by omega)), fun _ => ?_⟩
            rw [nI_clr, nI_clamp (by omega), nI_1]
            refine ⟨fun hz => ?_, fun hz => ⟨l1, fun hlz => ?_, fun hlz => ?_⟩⟩
            · have e : bestW (LM w j) (VM w j) h (b + 1) = bestW (LM w j) (VM w j) h b := bestW_no (fun _ z => absurd (ez.mpr z) hz)
              have := ih2 σ3 m4 m5 (by rw [e]; exact m6)
              rw [e] at this; exact this
            · have hlw : LM w j b = true := by
                cases e : LM w j b with
                | true => rfl
                | false => exact absurd (l2.mpr e) hlz
              have wr : ∀ v : Int32, MT (sI σ3 73 h v) w c ∧ (∀ h', h' < h → (gI (sI σ3 73 h v) 73 h').toInt = heapW w (tM w) j h') ∧ gI (sI σ3 73 h v) 73 h = v := fun v => ⟨m4.sI 73 h v (by omega), fun h' hh' => by rw [gI_sI_ne (by omega)]; exact m5 h' hh', gI_sI_same _ _ _ _⟩
              cases ho : bestW (LM w j) (VM w j) h b with
              | none =>
                have e : bestW (LM w j) (VM w j) h (b + 1) = some b := bestW_yes hlw (ez.mp hz) (fun x hx => by rw [ho] at hx; cases hx)
                refine ⟨fun _ => ⟨w1, hv, ?_⟩, fun z => absurd rfl z⟩
                obtain ⟨q1, q2, q3⟩ := wr (fn_X12_worthOf σ3 (nI j) (nI b))
                have := ih2 _ q1 q2 (by rw [q3, e, w2]; rfl)
                rw [e] at this; exact this
              | some x =>
                refine ⟨fun z => absurd z (by simp [bI]), fun _ => ⟨hv, w1, hv, ?_⟩⟩
                obtain ⟨q1, q2, q3⟩ := wr (mxI (gI σ3 73 h) (fn_X12_worthOf σ3 (nI j) (nI b)))
                rw [ho] at m6
                have m6' : (gI σ3 73 h).toInt = VM w j x := m6
                by_cases hlt : VM w j x < VM w j b
                · have e : bestW (LM w j) (VM w j) h (b + 1) = some b := bestW_yes hlw (ez.mp hz) (fun y hy => by rw [ho] at hy; cases hy; exact hlt)
                  have := ih2 _ q1 q2 (by rw [q3, e, mxI_ti, w2, m6']; show max (VM w j x) (VM w j b) = VM w j b; omega)
                  rw [e] at this; exact this
                · have e : bestW (LM w j) (VM w j) h (b + 1) = some x := by rw [bestW_no (fun _ _ => ⟨x, ho, by omega⟩)]; exact ho
                  have := ih2 _ q1 q2 (by rw [q3, e, mxI_ti, w2, m6']; show max (VM w j x) (VM w j b) = VM w j x; omega)
                  rw [e] at this; exact this
            · have e : bestW (LM w j) (VM w j) h (b + 1) = bestW (LM w j) (VM w j) h b := bestW_no (fun z _ => by rw [l2.mp hlz] at z; cases z)
              have := ih2 σ3 m4 m5 (by rw [e]; exact m6)
              rw [e] at this; exact this
        exact inn 0 (by omega) _ (m2.sI 73 h _ (by omega)) (fun h' hh' => by rw [gI_sI_ne (by omega)]; exact m3 h' hh') (by rw [gI_sI_same]; show (-1000000 : Int32).toInt = -1000000; decide)
    have pw : ∀ l, l ≤ w.N → K_X12_share_37 d n σ Q σ1 (nI j) (nI (w.P ^ l)) (nI l) := by
      refine up_ind (N := w.N) ?_ ?_
      · exact B_X12_share_37 hn (by omega) ⟨fun _ => fill 0 (Nat.zero_le _) σ1 m1 (fun h' z => absurd z (by omega)), fun h => absurd (by rw [m1.1.N]; exact nI_le (Nat.le_refl _) (by omega)) h⟩
      · intro l hl ih
        have h8 : w.P ^ (l + 1) ≤ 729 := pow_le729 g2 (by omega)
        rw [Nat.pow_succ] at h8
        refine B_X12_share_37 hn (by omega) ⟨fun h => absurd h (by rw [m1.1.N]; exact nI_ge hl (by omega)), fun _ => ?_⟩
        rw [m1.1.P, nI_1, nI_mul (by omega), ← Nat.pow_succ]; exact ih
    exact pw 0 (by omega)
  · have : ¬ _ ≤ _ := fun z => h3 (le_ti.mpr z)
    rw [hM.1.N, t6, nI_toInt (by omega)] at this
    unfold shareV; rw [if_neg (fun z => by have := z.2.2; omega)]
