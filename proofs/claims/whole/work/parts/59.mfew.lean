/-! ===== the model: few, judge, count, bars, worth ===== -/
def few0 (kp : Nat → Nat) (s p : Nat) : Nat := if s.testBit p = true then 0 else kp p
def fewN (w : Wd) (t : Tb) (kp : Nat → Nat) (but s : Nat) : Nat → (Nat → Nat)
  | 0 => few0 kp s
  | p + 1 => if s.testBit p = true then puh (fewN w t kp but s p) p ((takO w t (fewN w t kp but s p) but p).getD 0) else fewN w t kp but s p
theorem fewN_y {w : Wd} {t : Tb} {kp : Nat → Nat} {but s p : Nat} (h : s.testBit p = true) : fewN w t kp but s (p + 1) = puh (fewN w t kp but s p) p ((takO w t (fewN w t kp but s p) but p).getD 0) := if_pos h
theorem fewN_n {w : Wd} {t : Tb} {kp : Nat → Nat} {but s p : Nat} (h : ¬ s.testBit p = true) : fewN w t kp but s (p + 1) = fewN w t kp but s p := if_neg h
theorem fewN_ok {w : Wd} {t : Tb} {kp : Nat → Nat} {but s : Nat} (hk : hOk w kp) : ∀ p, hOk w (fewN w t kp but s p)
  | 0 => fun q => by
    show few0 kp s q < 2 ^ w.N
    unfold few0; split
    · exact Nat.two_pow_pos _
    · exact hk q
  | p + 1 => by
    unfold fewN; split
    · intro q; unfold puh; split
      · exact takO_lt
      · exact fewN_ok hk p q
    · exact fewN_ok hk p
def wellP (w : Wd) (t : Tb) (h : Nat → Nat) : Prop := (∀ p, p < w.P → t.1 p (h p) = true) ∧ ∀ l, l < w.N → 0 ≤ spN w h l
noncomputable def fewO (w : Wd) (t : Tb) (kp : Nat → Nat) (but : Nat) : Option Nat := amx (fun s => @decide (wellP w t (fewN w t kp but s w.P)) (Classical.propDecidable _)) (fun s => -(popc s : Int)) (2 ^ w.P)
def kpN (h : Nat → Nat) (l p : Nat) : Nat := clr (h p) (2 ^ l)
theorem kpN_ok {w : Wd} {h : Nat → Nat} (hh : hOk w h) (l : Nat) : hOk w (kpN h l) := fun p => by
  have := clr_le (h p) (2 ^ l)
  have := hh p
  unfold kpN; omega
noncomputable def fewA (w : Wd) (t : Tb) (kp : Nat → Nat) (l : Nat) (a : Int32) : Int32 := match fewO w t kp l with
  | none => -1
  | some s => if a = 0 then nI s else nI (fewN w t kp l s w.P (tn (a - 10)))
abbrev fewG (w : Wd) (a1 a2 a3 : Int32) : Prop := inP a1 6 ∧ inP a2 w.N ∧ (a3 = 0 ∨ (10 ≤ a3.toInt ∧ a3.toInt ≤ 9 + (w.P : Int)))
noncomputable def fewV (w : Wd) (a1 a2 a3 : Int32) : Int32 := if fewG w a1 a2 a3 then fewA w (tM w) (kpN (wayH w a1) (tn a2)) (tn a2) a3 else -1
theorem isWell_M {d n : Nat} {σ : St} {w : Wd} {c kp : Nat → Nat} {l s : Nat} (hn : FIX ≤ n) (hd : 3 ≤ d) (hM : MT σ w c) (hw : WW w) (hk : hOk w kp) (h74 : ∀ p, p < w.P → gI σ 74 p = nI (kp p)) (hl : l < w.N) (hs : s < 2 ^ w.P) : Cn d n M_X12_isWell md_X12_isWell [.ref 11, .int (nI s), .int (nI l)] σ (liI (fun v σ' => MT σ' w c ∧ (∀ p, p < w.P → gI σ' 74 p = nI (kp p)) ∧ (∀ p, p < w.P → gI σ' 71 p = nI (fewN w (tM w) kp l s w.P p)) ∧ (v = 1 ∧ wellP w (tM w) (fewN w (tM w) kp l s w.P) ∨ v = 0 ∧ ¬ wellP w (tM w) (fewN w (tM w) kp l s w.P)))) := by
  have hN := hw.N
  have hP := hw.P
  have hpw := pow10 hN
  have hs256 : s < 256 := by
    have : 2 ^ w.P ≤ 2 ^ 8 := Nat.pow_le_pow_right (by decide) hP
    omega
  generalize hH : fewN w (tM w) kp l s w.P = H
  have hHok : hOk w H := by rw [← hH]; exact fewN_ok hk _
  refine S_X12_isWell hn (by omega) ?_
  generalize hQ : (fun (v : Int32) (σ' : St) => MT σ' w c ∧ (∀ p, p < w.P → gI σ' 74 p = nI (kp p)) ∧ (∀ p, p < w.P → gI σ' 71 p = nI (H p)) ∧ (v = 1 ∧ wellP w (tM w) H ∨ v = 0 ∧ ¬ wellP w (tM w) H)) = Q
  have z0 : (0 : Int32).toInt = 0 := by decide
  have l4 : ∀ o, o ≤ w.N → ∀ (σ1 : St) (x : Int32), MT σ1 w c → (∀ p, p < w.P → gI σ1 74 p = nI (kp p)) → (∀ p, p < w.P → gI σ1 71 p = nI (H p)) → (x = 1 ∧ ((∀ p, p < w.P → (tM w).1 p (H p) = true) ∧ ∀ i, i < o → 0 ≤ spN w H i) ∨ x = 0 ∧ ¬ wellP w (tM w) H) → K_X12_isWell_129 d n σ Q σ1 x (nI o) := by
    refine up_ind (N := w.N) ?_ ?_
    · intro σ1 x m1 m2 m3 m4
      refine B_X12_isWell_129 hn (by omega) ⟨fun _ => ⟨?_, ?_⟩, fun z => absurd (by rw [m1.1.N]; exact nI_le (Nat.le_refl _) (by omega)) z⟩
      · rcases m4 with ⟨rfl, -⟩ | ⟨rfl, -⟩
        · exact Or.inr rfl
        · exact Or.inl rfl
      · rw [← hQ]
        exact ⟨m1, m2, m3, m4⟩
    · intro o ho ih σ1 x m1 m2 m3 m4
      refine B_X12_isWell_129 hn (by omega) ⟨fun z => absurd z (by rw [m1.1.N]; exact nI_ge ho (by omega)), fun _ => ⟨fun hx => ?_, fun hx => ⟨_, leftOf_M (t := tM w) (c := c) hn (by omega) ⟨m1.x hw, m3⟩ hw hHok ho, ?_⟩⟩⟩
      · rw [nI_1]
        refine ih σ1 0 m1 m2 m3 (Or.inr ⟨rfl, ?_⟩)
        rcases m4 with ⟨z, -⟩ | ⟨-, z⟩
        · rw [hx] at z; cases z
        · exact z
      · rintro v σ2 ⟨rfl, hv⟩ hf
        rw [nI_1]
        have m4' : (∀ p, p < w.P → (tM w).1 p (H p) = true) ∧ ∀ i, i < o → 0 ≤ spN w H i := by
          rcases m4 with ⟨-, z⟩ | ⟨z, -⟩
          · exact z
          · exact absurd z hx
        refine ⟨fun hlt => ih _ 0 m1 m2 m3 (Or.inr ⟨rfl, fun z => ?_⟩), fun hlt => ih _ 1 m1 m2 m3 (Or.inl ⟨rfl, m4'.1, fun i hi => ?_⟩)⟩
        · have := lt_ti.mp hlt
          have := z.2 o ho
          omega
        · by_cases e : i = o
          · have : ¬ _ < _ := fun z => hlt (lt_ti.mpr z)
            rw [e]; omega
          · exact m4'.2 i (by omega)
  have l3 : ∀ p, p ≤ w.P → ∀ (σ1 : St) (x : Int32), MT σ1 w c → (∀ p, p < w.P → gI σ1 74 p = nI (kp p)) → (∀ p, p < w.P → gI σ1 71 p = nI (H p)) → (x = 1 ∧ (∀ i, i < p → (tM w).1 i (H i) = true) ∨ x = 0 ∧ ¬ wellP w (tM w) H) → K_X12_isWell_85 d n σ Q σ1 x (nI p) := by
    refine up_ind (N := w.P) ?_ ?_
    · intro σ1 x m1 m2 m3 m4
      refine B_X12_isWell_85 hn (by omega) ⟨fun _ => l4 0 (by omega) σ1 x m1 m2 m3 ?_, fun z => absurd (by rw [m1.1.P]; exact nI_le (Nat.le_refl _) (by omega)) z⟩
      rcases m4 with ⟨e, z⟩ | z
      · exact Or.inl ⟨e, z, fun i hi => absurd hi (by omega)⟩
      · exact Or.inr z
    · intro p hp ih σ1 x m1 m2 m3 m4
      have hb := hHok p
      obtain ⟨a1, a2⟩ := lawM m1 hw hp (show H p < 1024 by omega)
      refine B_X12_isWell_85 hn (by omega) ⟨fun z => absurd z (by rw [m1.1.P]; exact nI_ge hp (by omega)), fun _ => ⟨fun hx => ?_, fun hx => ⟨vp_in_nI (by omega) (by decide), ?_⟩⟩⟩
      · rw [nI_1]
        refine ih σ1 0 m1 m2 m3 (Or.inr ⟨rfl, ?_⟩)
        rcases m4 with ⟨z, -⟩ | ⟨-, z⟩
        · rw [hx] at z; cases z
        · exact z
      · rw [nI_clamp (by omega), m3 p hp, nI_1]
        have m4' : ∀ i, i < p → (tM w).1 i (H i) = true := by
          rcases m4 with ⟨-, z⟩ | ⟨z, -⟩
          · exact z
          · exact absurd z hx
        refine ⟨a1, fun hz => ih σ1 0 m1 m2 m3 (Or.inr ⟨rfl, fun z => ?_⟩), fun hz => ih σ1 1 m1 m2 m3 (Or.inl ⟨rfl, fun i hi => ?_⟩)⟩
        · have := z.1 p hp
          have e : (tM w).1 p (H p) = false := a2.mp hz
          rw [e] at this; cases this
        · by_cases e : i = p
          · rw [e]
            cases e2 : (tM w).1 p (H p) with
            | true => rfl
            | false => exact absurd (a2.mpr e2) hz
          · exact m4' i (by omega)
  have l2 : ∀ p, p ≤ w.P → ∀ σ1 : St, MT σ1 w c → (∀ p, p < w.P → gI σ1 74 p = nI (kp p)) → (∀ q, q < w.P → gI σ1 71 q = nI (fewN w (tM w) kp l s p q)) → K_X12_isWell_42 d n σ Q σ1 (nI s) (nI l) (nI p) := by
    refine up_ind (N := w.P) ?_ ?_
    · intro σ1 m1 m2 m3
      rw [hH] at m3
      exact B_X12_isWell_42 hn (by omega) ⟨fun _ => l3 0 (by omega) σ1 1 m1 m2 m3 (Or.inl ⟨rfl, fun i hi => absurd hi (by omega)⟩), fun z => absurd (by rw [m1.1.P]; exact nI_le (Nat.le_refl _) (by omega)) z⟩
    · intro p hp ih σ1 m1 m2 m3
      refine B_X12_isWell_42 hn (by omega) ⟨fun z => absurd z (by rw [m1.1.P]; exact nI_ge hp (by omega)), fun _ => ⟨fun hz => ?_, fun hz => ⟨_, takesBest_M (t := tM w) (c := c) (but := l) hn (by omega) ⟨m1.x hw, m3⟩ hw (fewN_ok hk p) hp (fun o ho => nI_eq (by omega) (by omega)), ?_⟩⟩⟩
      · have hb := (hold_z (by omega) (by omega)).mp hz
        rw [nI_1]
        refine ih σ1 m1 m2 ?_
        rw [fewN_n hb]; exact m3
      · have hb := hold_nz (by omega) (by omega) hz
        rintro v σ2 ⟨rfl, rfl⟩ hf
        refine ⟨vp_in_nI (by omega) (by decide), ?_⟩
        rw [nI_clamp (by omega), nI_1, mx0_opt (fun x hx => by have := (bestU_lt hx).1; omega)]
        refine ih _ (m1.sI 71 p _ (by omega)) (fun q hq => by rw [gI_sI_ne (by omega)]; exact m2 q hq) (fun q hq => ?_)
        rw [fewN_y hb, gI_sI]
        by_cases e : q = p
        · rw [if_pos ⟨rfl, e⟩, e, puh_same]
        · rw [if_neg (fun z => e z.2), puh_ne e]; exact m3 q hq
  have l1 : ∀ p, p ≤ w.P → ∀ σ1 : St, MT σ1 w c → (∀ p, p < w.P → gI σ1 74 p = nI (kp p)) → (∀ q, q < p → gI σ1 71 q = nI (few0 kp s q)) → K_X12_isWell_2 d n σ Q σ1 (nI s) (nI l) (nI p) := by
    refine up_ind (N := w.P) ?_ ?_
    · intro σ1 m1 m2 m3
      exact B_X12_isWell_2 hn (by omega) ⟨fun _ => l2 0 (by omega) σ1 m1 m2 m3, fun z => absurd (by rw [m1.1.P]; exact nI_le (Nat.le_refl _) (by omega)) z⟩
    · intro p hp ih σ1 m1 m2 m3
      have hv : vp_in (nI p) 8 := vp_in_nI (by omega) (by decide)
      have go : ∀ x : Nat, few0 kp s p = x → K_X12_isWell_2 d n σ Q (sI σ1 71 p (nI x)) (nI s) (nI l) (nI (p + 1)) := fun x hx => by
        refine ih _ (m1.sI 71 p _ (by omega)) (fun q hq => by rw [gI_sI_ne (by omega)]; exact m2 q hq) (fun q hq => ?_)
        rw [gI_sI]
        by_cases e : q = p
        · rw [if_pos ⟨rfl, e⟩, e, hx]
        · rw [if_neg (fun z => e z.2)]; exact m3 q (by omega)
      refine B_X12_isWell_2 hn (by omega) ⟨fun z => absurd z (by rw [m1.1.P]; exact nI_ge hp (by omega)), fun _ => ⟨fun hz => ⟨hv, hv, ?_⟩, fun hz => ⟨hv, ?_⟩⟩⟩
      · rw [nI_clamp (by omega), m2 p hp, nI_1]
        exact go _ (by unfold few0; rw [if_neg ((hold_z (by omega) (by omega)).mp hz)])
      · rw [nI_clamp (by omega), nI_1]
        exact go 0 (by unfold few0; rw [if_pos (hold_nz (by omega) (by omega) hz)])
  exact l1 0 (by omega) σ hM h74 (fun q h => absurd h (by omega))
theorem few_M {d n : Nat} {σ : St} {w : Wd} {a1 a2 a3 : Int32} (hn : FIX ≤ n) (hd : 11 ≤ d) (hM : MG σ w) (hw : WW w) : Cn d n M_X12_few md_X12_few [.ref 11, .int a1, .int a2, .int a3] σ (liI (fun v σ' => v = fewV w a1 a2 a3 ∧ MG σ' w)) := by
  have hN := hw.N
  have hP := hw.P
  have hpw := pow10 hN
  have hp2 : 2 ^ w.P ≤ 256 := by
    have : 2 ^ w.P ≤ 2 ^ 8 := Nat.pow_le_pow_right (by decide) hP
    omega
  have t10 : (10 : Int32).toInt = 10 := by decide
  have e9 : (9 + gI σ 11 1).toInt = 9 + (w.P : Int) := by
    rw [hM.1.P, ti_add] <;> rw [nI_toInt (by omega), show (9 : Int32).toInt = 9 by decide] <;> omega
  have got : fewG w a1 a2 a3 → ∃ Q4 : St → Prop, Cn (d - 1) n M_X12_goes md_X12_goes [.ref 11, .int a1] σ (liV Q4) ∧ ∀ (σ6 : St), Q4 σ6 → Fr md_X12_goes σ σ6 → K_X12_few_45 d n σ (fun v σ' => v = fewV w a1 a2 a3 ∧ MG σ' w) σ6 a2 a3 0 := by
    intro hg
    obtain ⟨g1, g2, g3⟩ := hg
    have eV : fewV w a1 a2 a3 = fewA w (tM w) (kpN (wayH w a1) (tn a2)) (tn a2) a3 := by unfold fewV; rw [if_pos ⟨g1, g2, g3⟩]
    rw [eV]
    obtain ⟨k, hk, rfl⟩ := inP_ex (by decide) g1
    obtain ⟨l, hl, rfl⟩ := inP_ex (by omega) g2
    unfold wayH
    rw [tn_nI (by omega), tn_nI (by omega)]
    refine ⟨_, goes_M hn (by omega) hM hw hk, fun σ1 ⟨h1, hvq⟩ hf => ?_⟩
    have hok := wayT_ok hw (tM w) k
    generalize wayT w (tM w) k = hh at h1 hok
    have hkp := kpN_ok hok l
    obtain ⟨⟨c, m1⟩, m2⟩ := h1
    generalize hkq : kpN hh l = kp at hkp
    generalize hQ : (fun (v : Int32) (σ' : St) => v = fewA w (tM w) kp l a3 ∧ MG σ' w) = Q
    have shP : ∀ σ1 : St, MT σ1 w c → (1 : Int32) <<< (gI σ1 11 1 &&& 31) = nI (2 ^ w.P) := fun σ1 m => by rw [m.1.P]; exact shl1 (by omega)
    generalize hok2 : (fun s => @decide (wellP w (tM w) (fewN w (tM w) kp l s w.P)) (Classical.propDecidable _)) = ok
    have okT : ∀ s, ok s = true ↔ wellP w (tM w) (fewN w (tM w) kp l s w.P) := fun s => by rw [← hok2]; exact ⟨@of_decide_eq_true _ (Classical.propDecidable _), @decide_eq_true _ (Classical.propDecidable _)⟩
    have find : ∀ s, s ≤ 2 ^ w.P → ∀ σ2 : St, MT σ2 w c → (∀ p, p < w.P → gI σ2 74 p = nI (kp p)) → K_X12_few_86 d n σ Q σ2 (nI l) a3 (optI (amx ok (fun s => -(popc s : Int)) s)) (nI s) := by
      refine up_ind (N := 2 ^ w.P) ?_ ?_
      · intro σ2 q1 q2
        have eO : amx ok (fun s => -(popc s : Int)) (2 ^ w.P) = fewO w (tM w) kp l := by rw [← hok2]; rfl
        refine B_X12_few_86 hn (by omega) ⟨fun _ => ?_, fun z => absurd (by rw [shP _ q1]; exact nI_le (Nat.le_refl _) (by omega)) z⟩
        rw [eO, ← hQ]
        unfold fewA
        cases ho : fewO w (tM w) kp l with
        | none => exact ⟨fun _ => ⟨rfl, q1.g⟩, fun z => absurd rfl z⟩
        | some s =>
          have hs := (amx_lt ho).1
          refine ⟨fun z => absurd z (optI_ne (by omega)), fun _ => ⟨fun h3 => ⟨_, isWell_M hn (by omega) q1 hw hkp q2 hl hs, ?_⟩, fun h3 => ⟨?_, q1.g⟩⟩⟩
          · rintro v σ3 ⟨r1, r2, r3, r4⟩ hf3
            have g3' : 10 ≤ a3.toInt ∧ a3.toInt ≤ 9 + (w.P : Int) := by
              rcases g3 with z | z
              · exact absurd z h3
              · exact z
            have e10 : (a3 - 10).toInt = a3.toInt - 10 := by rw [ti_sub] <;> rw [t10] <;> omega
            obtain ⟨p, hp, ep⟩ := ex_nI (K := w.P) (by omega) (by omega : 0 ≤ (a3 - 10).toInt) (by omega)
            rw [ep]
            refine ⟨vp_in_nI (by omega) (by decide), ?_, r1.g⟩
            show gI σ3 71 _ = if a3 = 0 then nI s else nI (fewN w (tM w) kp l s w.P (tn (nI p)))
            rw [if_neg h3, tn_nI (by omega), nI_clamp (by omega)]; exact r3 p hp
          · show nI s = if a3 = 0 then nI s else _
            rw [if_pos h3]
      · intro s hs ih σ2 q1 q2
        have yes : ok s = true → (∀ z, amx ok (fun s => -(popc s : Int)) s = some z → -(popc z : Int) < -(popc s : Int)) → ∀ σ3 : St, MT σ3 w c → (∀ p, p < w.P → gI σ3 74 p = nI (kp p)) → K_X12_few_86 d n σ Q σ3 (nI l) a3 (nI s) (nI (s + 1)) := fun h1 h2 σ3 r1 r2 => by
          have := ih σ3 r1 r2
          rw [amx_yes h1 h2] at this; exact this
        have no : (ok s = true → ∃ z, amx ok (fun s => -(popc s : Int)) s = some z ∧ ¬ -(popc z : Int) < -(popc s : Int)) → ∀ σ3 : St, MT σ3 w c → (∀ p, p < w.P → gI σ3 74 p = nI (kp p)) → K_X12_few_86 d n σ Q σ3 (nI l) a3 (optI (amx ok (fun s => -(popc s : Int)) s)) (nI (s + 1)) := fun h1 σ3 r1 r2 => by
          have := ih σ3 r1 r2
          rw [amx_no h1] at this; exact this
        refine B_X12_few_86 hn (by omega) ⟨fun z => absurd z (by rw [shP _ q1]; exact nI_ge hs (by omega)), fun _ => ?_⟩
        rw [nI_1]
        cases ho : amx ok (fun s => -(popc s : Int)) s with
        | none =>
          rw [ho] at no
          refine ⟨fun _ => ⟨_, isWell_M hn (by omega) q1 hw hkp q2 hl hs, ?_⟩, fun z => absurd rfl z⟩
          rintro v σ3 ⟨r1, r2, r3, r4⟩ hf3
          refine ⟨fun hv => no (fun hx => ?_) σ3 r1 r2, fun hv => yes ((okT s).mpr ?_) (fun z hz => by rw [ho] at hz; cases hz) σ3 r1 r2⟩
          · rcases r4 with ⟨z, -⟩ | ⟨-, z⟩
            · rw [hv] at z; cases z
            · exact absurd ((okT s).mp hx) z
          · rcases r4 with ⟨-, z⟩ | ⟨z, -⟩
            · exact z
            · exact absurd z hv
        | some b =>
          have hb := (amx_lt ho).1
          rw [ho] at no
          have pb : popc b ≤ 10 := popU_le b 10
          have ps : popc s ≤ 10 := popU_le s 10
          refine ⟨fun z => absurd z (optI_ne (by omega)), fun _ => ⟨_, bits_spec (show s < 1024 by omega), ?_⟩⟩
          rintro v1 σ3 ⟨rfl, rfl⟩ hf3
          refine ⟨_, bits_spec (show b < 1024 by omega), ?_⟩
          rintro v2 σ4 ⟨rfl, rfl⟩ hf4
          refine ⟨fun hle => no (fun _ => ⟨b, rfl, ?_⟩) σ2 q1 q2, fun hle => ⟨_, isWell_M hn (by omega) q1 hw hkp q2 hl hs, ?_⟩⟩
          · have := le_ti.mp hle
            rw [nI_toInt (by omega), nI_toInt (by omega)] at this
            omega
          · have hlt : ¬ _ ≤ _ := fun z => hle (le_ti.mpr z)
            rw [nI_toInt (by omega), nI_toInt (by omega)] at hlt
            rintro v σ3 ⟨r1, r2, r3, r4⟩ hf3
            refine ⟨fun hv => no (fun hx => ?_) σ3 r1 r2, fun hv => yes ((okT s).mpr ?_) (fun z hz => by rw [ho] at hz; cases hz; omega) σ3 r1 r2⟩
            · rcases r4 with ⟨z, -⟩ | ⟨-, z⟩
              · rw [hv] at z; cases z
              · exact absurd ((okT s).mp hx) z
            · rcases r4 with ⟨-, z⟩ | ⟨z, -⟩
              · exact z
              · exact absurd z hv
    have keep : ∀ p, p ≤ w.P → ∀ σ2 : St, MT σ2 w c → (∀ q, q < w.P → gI σ2 71 q = nI (hh q)) → (∀ q, q < p → gI σ2 74 q = nI (kp q)) → K_X12_few_45 d n σ Q σ2 (nI l) a3 (nI p) := by
      refine up_ind (N := w.P) ?_ ?_
      · intro σ2 q1 q2 q3
        exact B_X12_few_45 hn (by omega) ⟨fun _ => find 0 (Nat.zero_le _) σ2 q1 q3, fun z => absurd (by rw [q1.1.P]; exact nI_le (Nat.le_refl _) (by omega)) z⟩
      · intro p hp ih σ2 q1 q2 q3
        have hv : vp_in (nI p) 8 := vp_in_nI (by omega) (by decide)
        refine B_X12_few_45 hn (by omega) ⟨fun z => absurd z (by rw [q1.1.P]; exact nI_ge hp (by omega)), fun _ => ⟨hv, hv, ?_⟩⟩
        rw [nI_clamp (by omega), q2 p hp, shl1 (by omega), nI_clr, nI_1]
        refine ih _ (q1.sI 74 p _ (by omega)) (fun q hq => by rw [gI_sI_ne (by omega)]; exact q2 q hq) (fun q hq => ?_)
        rw [gI_sI]
        by_cases e : q = p
        · rw [if_pos ⟨rfl, e⟩, e, ← hkq]; rfl
        · rw [if_neg (fun z => e z.2)]; exact q3 q (by omega)
    exact keep 0 (by omega) σ1 m1 m2 (fun q h => absurd h (by omega))
  refine S_X12_few hn (by omega) ⟨fun h => ⟨?_, hM⟩, fun h => ⟨fun h2 => ⟨?_, hM⟩, fun h2 => ⟨fun h3 => ?_, fun h3 => ⟨fun h4 => ?_, fun h4 => ⟨?_, hM⟩⟩⟩⟩⟩
  · unfold fewV; rw [if_neg (fun z => ze.mp h (way_in.mpr z.1))]
  · unfold fewV; rw [if_neg (fun z => ze.mp h2 ((less_in hM.1 hw).mpr z.2.1))]
  · exact got ⟨way_in.mp h, (less_in hM.1 hw).mp h2, Or.inl h3⟩
  · have := isIn_ti.mp h4
    rw [e9, t10] at this
    exact got ⟨way_in.mp h, (less_in hM.1 hw).mp h2, Or.inr this⟩
  · have := isIn_z.mp h4
    rw [e9, t10] at this
    unfold fewV; rw [if_neg]
    rintro ⟨-, -, z | z⟩
    · exact h3 z
    · exact this z
/-! judge, count, bars, worth -/
noncomputable def fstO (f : Nat → Prop) (K : Nat) : Option Nat := amx (fun m => @decide (f m) (Classical.propDecidable _)) (fun _ => 0) K
theorem fstO_some {f : Nat → Prop} {K m : Nat} (hm : m < K) (h1 : f m) (h2 : ∀ i, i < m → ¬ f i) : fstO f K = some m := by
  refine amx_eq hm (@decide_eq_true _ (Classical.propDecidable _) h1) (fun i hi ho => ⟨Int.le_refl _, fun hlt => ?_⟩)
  exact absurd (@of_decide_eq_true _ (Classical.propDecidable _) ho) (h2 i hlt)
theorem fstO_none {f : Nat → Prop} {K : Nat} (h2 : ∀ i, i < K → ¬ f i) : fstO f K = none := amx_all (fun i hi => @decide_eq_false _ (Classical.propDecidable _) (h2 i hi))
noncomputable def judgeV (w : Wd) : Int32 := match fstO (fun p => bar w p p (w.hd p) ≠ 0) w.P with
  | some p => nI (10 * p + bar w p p (w.hd p))
  | none => match fstO (fun l => spN w w.hd l < 0) w.N with
    | some l => nI (1000 + l)
    | none => -1
theorem bar_le (w : Wd) (r j b : Nat) : bar w r j b ≤ 5 := by unfold bar; (repeat' split) <;> omega
def spX (w : Wd) (h : Nat → Nat) (c : Nat → Nat) (σ : St) : Prop := RM σ w ∧ ∀ p, p < w.P → gI σ 71 p = nI (h p)
theorem leftOf_R {d n : Nat} {σ : St} {w : Wd} {h : Nat → Nat} {l : Nat} (hn : FIX ≤ n) (hd : 1 ≤ d) (hR : RM σ w) (h71 : ∀ p, p < w.P → gI σ 71 p = nI (h p)) (hw : WW w) (hh : hOk w h) (hl : l < w.N) : Cn d n M_X12_leftOf md_X12_leftOf [.ref 11, .int (nI l)] σ (liI (fun v σ' => σ' = σ ∧ v.toInt = spN w h l)) := by
  have hN := hw.N
  have hP := hw.P
  have hpl := hw.pl l
  have hpw := pow10 hN
  refine S_X12_leftOf hn hd ⟨vp_in_nI (by omega) (by decide), ?_⟩
  rw [nI_clamp (by omega), (hR.les l (by omega)).1]
  have loop : ∀ p, p ≤ w.P → ∀ x : Int32, x.toInt = (w.pl l : Int) - cntU h l p → K_X12_leftOf_9 d n σ (fun v σ' => σ' = σ ∧ v.toInt = spN w h l) σ (nI l) x (nI p) := by
    refine up_ind (N := w.P) ?_ ?_
    · intro x hx
      exact B_X12_leftOf_9 hn hd ⟨fun _ => ⟨rfl, hx⟩, fun z => absurd (by rw [hR.P]; exact nI_le (Nat.le_refl _) (by omega)) z⟩
    · intro p hp ih x hx
      have hc := cntU_le h l p
      have hb := hh p
      refine B_X12_leftOf_9 hn hd ⟨fun z => absurd z (by rw [hR.P]; exact nI_ge hp (by omega)), fun _ => ⟨vp_in_nI (by omega) (by decide), ?_⟩⟩
      rw [nI_clamp (by omega), h71 p hp, one_hold (by omega) (by omega), nI_1]
      refine ih _ ?_
      unfold cntU
      by_cases e : (h p).testBit l = true
      · rw [if_pos e, if_pos e, ti_sub] <;> rw [hx, show (1 : Int32).toInt = 1 by decide] <;> omega
      · rw [if_neg e, if_neg e, ti_sub] <;> rw [hx, show (0 : Int32).toInt = 0 by decide] <;> omega
  exact loop 0 (by omega) _ (by rw [nI_toInt (by omega)]; unfold cntU; omega)
theorem MG.mv {σ σ' : St} {w : Wd} (h : MG σ w) (h1 : ∀ q k, keepM q k → gI σ' q k = gI σ q k) (h2 : ∀ k, gI σ' 61 k = gI σ 61 k) (h3 : ∀ k, gI σ' 62 k = gI σ 62 k) (h5 : gI σ' 11 38 = gI σ 11 38) (h6 : gI σ' 11 37 = gI σ 11 37) (h7 : gI σ' 11 20 = gI σ 11 20) : MG σ' w :=
  ⟨h.1.fr h1, by rw [h5]; exact h.2.1, fun e r hr => (h.2.2 (by rw [← h6, ← h7]; exact e) r hr).fr (fun k _ _ => ⟨h2 _, h3 _⟩)⟩
def okG (m : Md) : Bool := okK m && (rowFree m 61 && (rowFree m 62 && (cellFree m 11 38 && (cellFree m 11 37 && cellFree m 11 20))))
theorem MG.st {m : Md} {σ σ' : St} {w : Wd} (h : MG σ w) (hf : Fr m σ σ') (ho : okG m = true) : MG σ' w := by
  simp only [okG, Bool.and_eq_true] at ho
  obtain ⟨o1, o2, o3, o4, o5, o6⟩ := ho
  exact ⟨h.1.st hf o1, by rw [hf.cell o4]; exact h.2.1, fun e r hr => (h.2.2 (by rw [hf.cell o5, hf.cell o6] at e; exact e) r hr).fr (fun k _ _ => ⟨hf.row o2 k, hf.row o3 k⟩)⟩
theorem judge_M {d n : Nat} {σ : St} {w : Wd} (hn : FIX ≤ n) (hd : 9 ≤ d) (hM : MG σ w) (hw : WW w) : Cn d n M_X12_judge md_X12_judge [.ref 11] σ (liI (fun v σ' => v = judgeV w ∧ MG σ' w)) := by
  have hN := hw.N
  have hP := hw.P
  have hpw := pow10 hN
  refine S_X12_judge hn (by omega) ?_
  generalize hQ : (fun (v : Int32) (σ' : St) => v = judgeV w ∧ MG σ' w) = Q
  have z0 : (0 : Int32).toInt = 0 := by decide
  have l3 : (∀ p, p < w.P → ¬ bar w p p (w.hd p) ≠ 0) → ∀ l, l ≤ w.N → ∀ σ1 : St, MG σ1 w → (∀ p, p < w.P → gI σ1 71 p = nI (w.hd p)) → (∀ i, i < l → ¬ spN w w.hd i < 0) → K_X12_judge_89 d n σ Q σ1 (nI l) := by
    intro hnb
    have e1 : fstO (fun p => bar w p p (w.hd p) ≠ 0) w.P = none := fstO_none hnb
    refine up_ind (N := w.N) ?_ ?_
    · intro σ1 m1 m2 m3
      refine B_X12_judge_89 hn (by omega) ⟨fun _ => ?_, fun z => absurd (by rw [m1.1.N]; exact nI_le (Nat.le_refl _) (by omega)) z⟩
      rw [← hQ]
      refine ⟨?_, m1⟩
      unfold judgeV; rw [e1, fstO_none m3]
    · intro l hl ih σ1 m1 m2 m3
      refine B_X12_judge_89 hn (by omega) ⟨fun z => absurd z (by rw [m1.1.N]; exact nI_ge hl (by omega)), fun _ => ⟨_, leftOf_R hn (by omega) m1.1 m2 hw hw.hd hl, ?_⟩⟩
      rintro v σ2 ⟨rfl, hv⟩ hf
      refine ⟨fun hle => ?_, fun hle => ?_⟩
      · have := le_ti.mp hle
        rw [nI_1]
        refine ih _ m1 m2 (fun i hi => ?_)
        by_cases e : i = l
        · rw [e]; omega
        · exact m3 i (by omega)
      · have : ¬ _ ≤ _ := fun z => hle (le_ti.mpr z)
        rw [← hQ]
        refine ⟨?_, m1⟩
        unfold judgeV
        rw [e1, fstO_some hl (show spN w w.hd l < 0 by omega) m3]
        show 1000 + nI l = nI (1000 + l)
        rw [eq_ti, ti_add] <;> rw [nI_toInt (by omega), show (1000 : Int32).toInt = 1000 by decide] <;> (try rw [nI_toInt (by omega)]) <;> omega
  have l2 : (∀ p, p < w.P → ¬ bar w p p (w.hd p) ≠ 0) → ∀ p, p ≤ 8 → ∀ σ1 : St, MG σ1 w → (∀ q, q < p → q < w.P → gI σ1 71 q = nI (w.hd q)) → K_X12_judge_51 d n σ Q σ1 (nI p) := by
    intro hnb
    refine up_ind (N := 8) ?_ ?_
    · intro σ1 m1 m2
      exact B_X12_judge_51 hn (by omega) ⟨fun _ => l3 hnb 0 (by omega) σ1 m1 (fun q hq => m2 q (by omega) hq) (fun i hi => absurd hi (by omega)), fun z => absurd (by decide) z⟩
    · intro p hp ih σ1 m1 m2
      have hv : vp_in (nI p) 8 := vp_in_nI (by omega) (by decide)
      have go : ∀ v : Int32, (p < w.P → v = nI (w.hd p)) → K_X12_judge_51 d n σ Q (sI σ1 71 p v) (nI (p + 1)) := fun v hv => by
        refine ih _ (m1.mv (fun q k hk => gI_sI_ne (by unfold keepM at hk; omega)) (fun k => gI_sI_ne (by omega)) (fun k => gI_sI_ne (by omega)) (gI_sI_ne (by omega)) (gI_sI_ne (by omega)) (gI_sI_ne (by omega))) (fun q hq h2 => ?_)
        rw [gI_sI]
        by_cases e : q = p
        · rw [if_pos ⟨rfl, e⟩, e]; exact hv (by omega)
        · rw [if_neg (fun z => e z.2)]; exact m2 q (by omega) h2
      refine B_X12_judge_51 hn (by omega) ⟨fun z => absurd z (by rw [show (8 : Int32) = nI 8 from rfl]; exact nI_ge hp (by decide)), fun _ => ⟨fun h => ⟨hv, ?_⟩, fun h => ⟨hv, hv, ?_⟩⟩⟩
      · rw [m1.1.P] at h
        rw [nI_clamp (by omega), nI_1]
        exact go 0 (fun z => absurd h (nI_ge z (by omega)))
      · rw [nI_clamp (by omega), nI_1, (m1.1.per p (by omega)).2.2]
        exact go _ (fun _ => rfl)
  have l1 : ∀ p, p ≤ w.P → ∀ σ1 : St, MG σ1 w → (∀ i, i < p → ¬ bar w i i (w.hd i) ≠ 0) → K_X12_judge_2 d n σ Q σ1 (nI p) := by
    refine up_ind (N := w.P) ?_ ?_
    · intro σ1 m1 m2
      exact B_X12_judge_2 hn (by omega) ⟨fun _ => l2 m2 0 (by omega) σ1 m1 (fun q h => absurd h (by omega)), fun z => absurd (by rw [m1.1.P]; exact nI_le (Nat.le_refl _) (by omega)) z⟩
    · intro p hp ih σ1 m1 m2
      have hb := hw.hd p
      have hble := bar_le w p p (w.hd p)
      have hv : vp_in (nI p) 8 := vp_in_nI (by omega) (by decide)
      refine B_X12_judge_2 hn (by omega) ⟨fun z => absurd z (by rw [m1.1.P]; exact nI_ge hp (by omega)), fun _ => ⟨hv, ?_⟩⟩
      rw [nI_clamp (by omega), (m1.1.per p (by omega)).2.2]
      refine ⟨_, barsBy_spec hn (by omega) m1.1 hw (by omega) (by omega) (by omega), ?_⟩
      rintro v σ2 rfl hf
      have m2' := m1.st hf (by decide)
      refine ⟨fun hle => ?_, fun hle => ⟨hv, ?_⟩⟩
      · have := le_ti.mp hle
        rw [nI_toInt (by omega), z0] at this
        rw [nI_1]
        refine ih σ2 m2' (fun i hi => ?_)
        by_cases e : i = p
        · rw [e]; omega
        · exact m2 i (by omega)
      · have : ¬ _ ≤ _ := fun z => hle (le_ti.mpr z)
        rw [nI_toInt (by omega), z0] at this
        rw [(m2'.1.per p (by omega)).2.2]
        refine ⟨_, barsBy_spec hn (by omega) m2'.1 hw (by omega) (by omega) (by omega), ?_⟩
        rintro v σ3 rfl hf3
        rw [← hQ]
        refine ⟨?_, m2'.st hf3 (by decide)⟩
        unfold judgeV
        rw [fstO_some hp (show bar w p p (w.hd p) ≠ 0 by omega) m2]
        show 10 * nI p + nI _ = nI (10 * p + bar w p p (w.hd p))
        exact idx10 (by omega) (by omega)
  exact l1 0 (by omega) σ hM (fun i hi => absurd hi (by omega))
def countV (w : Wd) (a : Int32) : Int32 :=
  if a.toInt = 0 then nI w.N else if a.toInt = 1 then nI w.P else if a.toInt = 2 then nI w.A else if a.toInt = 3 then nI w.mo else if a.toInt = 4 then nI w.sp else if a.toInt = 5 then nI w.T
  else if a.toInt = 6 then nI (sumN w.pl w.N) else if a.toInt = 7 then nI (sumN w.pr w.N) else if a.toInt = 8 then nI (sumN w.pu w.P) else if a.toInt = 9 then bI w.lie else -1
theorem count_M {d n : Nat} {σ : St} {w : Wd} {a : Int32} (hn : FIX ≤ n) (hd : 2 ≤ d) (hM : MG σ w) (hw : WW w) : Cn d n M_X12_count md_X12_count [.ref 11, .int a] σ (liI (fun v σ' => v = countV w a ∧ MG σ' w)) := by
  have hN := hw.N
  have hP := hw.P
  have hR := hM.1
  have add : ∀ {x y : Nat}, nI x + nI y = nI (x + y) := fun {x y} => by
    show Int32.ofNat x + Int32.ofNat y = Int32.ofNat (x + y)
    rw [Int32.ofNat_add]
  refine S_X12_count hn (by omega) ⟨fun h => ⟨?_, hM⟩, fun h => ⟨?_, hM⟩, fun h => ⟨?_, hM⟩, fun h => ⟨?_, hM⟩, fun h => ⟨?_, hM⟩, fun h => ⟨?_, hM⟩, fun h => ?_, fun h => ?_, fun h => ?_, fun h => ⟨?_, hM⟩, fun h => ⟨?_, hM⟩⟩
  · unfold countV; rw [if_pos h]; exact hR.N
  · unfold countV; rw [h]; exact hR.P
  · unfold countV; rw [h]; exact hR.A
  · unfold countV; rw [h]; exact hR.mo
  · unfold countV; rw [h]; exact hR.sp
  · unfold countV; rw [h]; exact hR.2.2.2.2.2.2.2.2.2.2.1
  · have eV : countV w a = nI (sumN w.pl w.N) := by unfold countV; rw [h]; rfl
    rw [eV]
    generalize hQ : (fun (v : Int32) (σ' : St) => v = nI (sumN w.pl w.N) ∧ MG σ' w) = Q
    have loop : ∀ l, l ≤ w.N → K_X12_count_88 d n σ Q σ (nI (sumN w.pl l)) (nI l) := by
      refine up_ind (N := w.N) ?_ ?_
      · exact B_X12_count_88 hn (by omega) ⟨fun _ => by rw [← hQ]; exact ⟨rfl, hM⟩, fun z => absurd (by rw [hR.N]; exact nI_le (Nat.le_refl _) (by omega)) z⟩
      · intro l hl ih
        unfold sumN at ih
        refine B_X12_count_88 hn (by omega) ⟨fun z => absurd z (by rw [hR.N]; exact nI_ge hl (by omega)), fun _ => ⟨vp_in_nI (by omega) (by decide), ?_⟩⟩
        rw [nI_clamp (by omega), (hR.les l (by omega)).1, add, nI_1]; exact ih
    exact loop 0 (by omega)
  · have eV : countV w a = nI (sumN w.pr w.N) := by unfold countV; rw [h]; rfl
    rw [eV]
    generalize hQ : (fun (v : Int32) (σ' : St) => v = nI (sumN w.pr w.N) ∧ MG σ' w) = Q
    have loop : ∀ l, l ≤ w.N → K_X12_count_115 d n σ Q σ (nI (sumN w.pr l)) (nI l) := by
      refine up_ind (N := w.N) ?_ ?_
      · exact B_X12_count_115 hn (by omega) ⟨fun _ => by rw [← hQ]; exact ⟨rfl, hM⟩, fun z => absurd (by rw [hR.N]; exact nI_le (Nat.le_refl _) (by omega)) z⟩
      · intro l hl ih
        unfold sumN at ih
        refine B_X12_count_115 hn (by omega) ⟨fun z => absurd z (by rw [hR.N]; exact nI_ge hl (by omega)), fun _ => ⟨vp_in_nI (by omega) (by decide), ?_⟩⟩
        rw [nI_clamp (by omega), (hR.les l (by omega)).2.2.2, add, nI_1]; exact ih
    exact loop 0 (by omega)
  · have eV : countV w a = nI (sumN w.pu w.P) := by unfold countV; rw [h]; rfl
    rw [eV]
    generalize hQ : (fun (v : Int32) (σ' : St) => v = nI (sumN w.pu w.P) ∧ MG σ' w) = Q
    have loop : ∀ l, l ≤ w.P → K_X12_count_142 d n σ Q σ (nI (sumN w.pu l)) (nI l) := by
      refine up_ind (N := w.P) ?_ ?_
      · exact B_X12_count_142 hn (by omega) ⟨fun _ => by rw [← hQ]; exact ⟨rfl, hM⟩, fun z => absurd (by rw [hR.P]; exact nI_le (Nat.le_refl _) (by omega)) z⟩
      · intro l hl ih
        unfold sumN at ih
        refine B_X12_count_142 hn (by omega) ⟨fun z => absurd z (by rw [hR.P]; exact nI_ge hl (by omega)), fun _ => ⟨vp_in_nI (by omega) (by decide), ?_⟩⟩
        rw [nI_clamp (by omega), (hR.per l (by omega)).1, add, nI_1]; exact ih
    exact loop 0 (by omega)
  · have eV : countV w a = bI w.lie := by unfold countV; rw [h]; rfl
    rw [eV, hR.2.2.2.2.2.2.2.2.2.1]
    cases w.lie <;> decide
  · unfold countV
    rw [if_neg (by omega), if_neg (by omega), if_neg (by omega), if_neg (by omega), if_neg (by omega), if_neg (by omega), if_neg (by omega), if_neg (by omega), if_neg (by omega), if_neg (by omega)]
def barsV (w : Wd) (a1 a2 : Int32) : Int32 := if inP a1 w.P ∧ inP a2 1024 then nI (bar w (tn a1) (tn a1) (tn a2)) else -1
def worthV (w : Wd) (a1 a2 : Int32) : Int32 := if inP a1 w.P ∧ inP a2 1024 then Int32.ofInt (wth w (tn a1) (tn a1) (tn a2)) else -2000000
theorem bund_in {a : Int32} : fn_X12_isBundle a ≠ 0 ↔ inP a 1024 := by unfold fn_X12_isBundle; exact isIn_in (by decide) (by decide)
theorem bars_M {d n : Nat} {σ : St} {w : Wd} {a1 a2 : Int32} (hn : FIX ≤ n) (hd : 9 ≤ d) (hM : MG σ w) (hw : WW w) : Cn d n M_X12_bars md_X12_bars [.ref 11, .int a1, .int a2] σ (liI (fun v σ' => v = barsV w a1 a2 ∧ MG σ' w)) := by
  have hP := hw.P
  refine S_X12_bars hn (by omega) ⟨fun h => ⟨?_, hM⟩, fun h => ⟨fun h2 => ⟨?_, hM⟩, fun h2 => ?_⟩⟩
  · unfold barsV; rw [if_neg (fun z => ze.mp h ((pers_in hM.1 hw).mpr z.1))]
  · unfold barsV; rw [if_neg (fun z => ze.mp h2 (bund_in.mpr z.2))]
  · have g1 := (pers_in hM.1 hw).mp h
    have g2 := bund_in.mp h2
    obtain ⟨j, hj, rfl⟩ := inP_ex (by omega) g1
    obtain ⟨b, hb, rfl⟩ := inP_ex (by decide) g2
    refine ⟨_, barsBy_spec hn (by omega) hM.1 hw (by omega) (by omega) hb, fun v σ1 e hf => ⟨?_, hM.st hf (by decide)⟩⟩
    unfold barsV; rw [if_pos ⟨g1, g2⟩, tn_nI (by omega), tn_nI (by omega)]; exact e
theorem worth_M {d n : Nat} {σ : St} {w : Wd} {a1 a2 : Int32} (hn : FIX ≤ n) (hd : 9 ≤ d) (hM : MG σ w) (hw : WW w) : Cn d n M_X12_worth md_X12_worth [.ref 11, .int a1, .int a2] σ (liI (fun v σ' => v = worthV w a1 a2 ∧ MG σ' w)) := by
  have hP := hw.P
  refine S_X12_worth hn (by omega) ⟨fun h => ⟨?_, hM⟩, fun h => ⟨fun h2 => ⟨?_, hM⟩, fun h2 => ?_⟩⟩
  · unfold worthV; rw [if_neg (fun z => ze.mp h ((pers_in hM.1 hw).mpr z.1))]
  · unfold worthV; rw [if_neg (fun z => ze.mp h2 (bund_in.mpr z.2))]
  · have g1 := (pers_in hM.1 hw).mp h
    have g2 := bund_in.mp h2
    obtain ⟨j, hj, rfl⟩ := inP_ex (by omega) g1
    obtain ⟨b, hb, rfl⟩ := inP_ex (by decide) g2
    refine ⟨_, worthBy_spec hn (by omega) hM.1 hw (by omega) (by omega) hb, fun v σ1 e hf => ⟨?_, hM.st hf (by decide)⟩⟩
    unfold worthV; rw [if_pos ⟨g1, g2⟩, tn_nI (by omega), tn_nI (by omega)]; exact ofI e
