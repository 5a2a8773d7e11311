/-! ===== the model: waste ===== -/
def giv (b x : Nat) : Nat := if x < 10 then clr b (2 ^ x) else b
def get (b y : Nat) : Nat := if y < 10 then b ||| 2 ^ y else b
def chgO (b x y : Nat) : Option Nat := if (x < 10 ∧ b.testBit x = false) ∨ (y < 10 ∧ b.testBit y = true) then none else some (get (giv b x) y)
theorem le10 {x : Nat} (h : x < 2 ^ 31) : (10 : Int32) ≤ nI x ↔ 10 ≤ x := by
  rw [le_ti, nI_toInt h, show (10 : Int32).toInt = 10 by decide]; omega
theorem chg_lt {b x y z N : Nat} (hb : b < 1024) (h : chgO b x y = some z) : z < 1024 := by
  unfold chgO at h
  split at h
  · cases h
  · cases h
    have h1 : giv b x < 1024 := by
      unfold giv; split
      · have := clr_le b (2 ^ x); omega
      · exact hb
    unfold get; split
    · next hy => exact or2_lt (N := 10) h1 hy
    · exact h1
theorem changed_M {d n : Nat} {σ : St} {b x y : Nat} (hd : 1 ≤ d) (hb : b < 1024) (hx : x < 11) (hy : y < 11) : Cn d n M_X12_changed md_X12_changed [.ref 11, .int (nI b), .int (nI x), .int (nI y)] σ (liI (fun v σ' => σ' = σ ∧ v = optI (chgO b x y))) := by
  have no : (x < 10 ∧ b.testBit x = false) ∨ (y < 10 ∧ b.testBit y = true) → (fun (v : Int32) (σ' : St) => σ' = σ ∧ v = optI (chgO b x y)) (-1) σ := fun h => by
    refine ⟨rfl, ?_⟩; unfold chgO; rw [if_pos h]; rfl
  have yes : ¬ ((x < 10 ∧ b.testBit x = false) ∨ (y < 10 ∧ b.testBit y = true)) → ((10 ≤ x → ((10 ≤ y → (fun (v : Int32) (σ' : St) => σ' = σ ∧ v = optI (chgO b x y)) (nI b) σ) ∧ (¬ 10 ≤ y → (fun (v : Int32) (σ' : St) => σ' = σ ∧ v = optI (chgO b x y)) (nI b ||| (1 : Int32) <<< (nI y &&& 31)) σ))) ∧ (¬ 10 ≤ x → ((10 ≤ y → (fun (v : Int32) (σ' : St) => σ' = σ ∧ v = optI (chgO b x y)) (nI b &&& ((1 : Int32) <<< (nI x &&& 31) ^^^ -1)) σ) ∧ (¬ 10 ≤ y → (fun (v : Int32) (σ' : St) => σ' = σ ∧ v = optI (chgO b x y)) (nI b &&& ((1 : Int32) <<< (nI x &&& 31) ^^^ -1) ||| (1 : Int32) <<< (nI y &&& 31)) σ)))) := fun h => by
    have e : chgO b x y = some (get (giv b x) y) := by unfold chgO; rw [if_neg h]
    rw [e]
    rw [shl1 (by omega), shl1 (by omega), nI_clr, nI_or, nI_or]
    unfold get giv
    refine ⟨fun h1 => ⟨fun h2 => ⟨rfl, ?_⟩, fun h2 => ⟨rfl, ?_⟩⟩, fun h1 => ⟨fun h2 => ⟨rfl, ?_⟩, fun h2 => ⟨rfl, ?_⟩⟩⟩
    · rw [if_neg (by omega), if_neg (by omega)]; rfl
    · rw [if_pos (by omega), if_neg (by omega)]; rfl
    · rw [if_neg (by omega), if_pos (by omega)]; rfl
    · rw [if_pos (by omega), if_pos (by omega)]; rfl
  refine S_X12_changed hd ?_
  rw [le10 (by omega), le10 (by omega)]
  refine ⟨fun h1 => ⟨fun h2 => yes (by omega), fun h2 => ⟨fun h3 => yes ?_, fun h3 => no (Or.inr ⟨by omega, hold_nz (by omega) (by omega) h3⟩)⟩⟩, fun h1 => ⟨fun h3 => no (Or.inl ⟨by omega, ?_⟩), fun h3 => ⟨fun h2 => yes ?_, fun h2 => ⟨fun h4 => yes ?_, fun h4 => no (Or.inr ⟨by omega, hold_nz (by omega) (by omega) h4⟩)⟩⟩⟩⟩
  · have := (hold_z (by omega) (by omega)).mp h3
    rintro (z | z)
    · omega
    · exact this z.2
  · have := (hold_z (by omega) (by omega)).mp h3
    simpa using this
  · have := hold_nz (by omega) (by omega) h3
    rintro (z | z)
    · rw [this] at z; cases z.2
    · omega
  · have a := hold_nz (by omega) (by omega) h3
    have c := (hold_z (by omega) (by omega)).mp h4
    rintro (z | z)
    · rw [a] at z; cases z.2
    · exact c z.2
/-- would two gain by a swap -/
def wstP (t : Tb) (h : Nat → Nat) (p q x y : Nat) : Prop := ∃ a b, chgO (h p) x y = some a ∧ chgO (h q) y x = some b ∧ t.1 p a = true ∧ t.1 q b = true ∧ t.2 p (h p) ≤ t.2 p a ∧ t.2 q (h q) ≤ t.2 q b ∧ t.2 p (h p) + t.2 q (h q) < t.2 p a + t.2 q b
theorem chg_nn (b : Nat) : chgO b 10 10 = some b := by unfold chgO get giv; rw [if_neg (by omega), if_neg (by omega), if_neg (by omega)]
theorem wst_nn {t : Tb} {h : Nat → Nat} {p q : Nat} : ¬ wstP t h p q 10 10 := by
  rintro ⟨a, b, g1, g2, g3, g4, g5, g6, g7⟩
  rw [chg_nn] at g1 g2
  cases g1; cases g2
  omega
theorem isWaste_M {d n : Nat} {σ : St} {w : Wd} {h : Nat → Nat} {p q x y : Nat} (hn : FIX ≤ n) (hd : 2 ≤ d) (hM : MH σ w h) (hw : WW w) (hh : hOk w h) (hp : p < w.P) (hq : q < w.P) (hx : x < 11) (hy : y < 11) : Cn d n M_X12_isWaste md_X12_isWaste [.ref 11, .int (nI p), .int (nI q), .int (nI x), .int (nI y)] σ (liI (fun v σ' => σ' = σ ∧ (v = 1 ∧ wstP (tM w) h p q x y ∨ v = 0 ∧ ¬ wstP (tM w) h p q x y))) := by
  have hP := hw.P
  have hpw := pow10 hw.N
  obtain ⟨⟨c, m1⟩, m2⟩ := hM
  have h1 := hh p
  have h2 := hh q
  have hv : vp_in (nI p) 8 := vp_in_nI (by omega) (by decide)
  have hv2 : vp_in (nI q) 8 := vp_in_nI (by omega) (by decide)
  refine S_X12_isWaste hn (by omega) ⟨hv, ?_⟩
  rw [nI_clamp (by omega), nI_clamp (by omega), m2 p hp]
  refine ⟨_, changed_M (by omega) (by omega) hx hy, ?_⟩
  rintro v1 σ1 ⟨rfl, rfl⟩ hf1
  refine ⟨hv2, ?_⟩
  rw [m2 q hq]
  refine ⟨_, changed_M (by omega) (by omega) hy hx, ?_⟩
  rintro v2 σ2 ⟨rfl, rfl⟩ hf2
  have no : ¬ wstP (tM w) h p q x y → (fun (v : Int32) (σ' : St) => σ' = σ2 ∧ (v = 1 ∧ wstP (tM w) h p q x y ∨ v = 0 ∧ ¬ wstP (tM w) h p q x y)) 0 σ2 := fun h => ⟨rfl, Or.inr ⟨rfl, h⟩⟩
  cases ha : chgO (h p) x y with
  | none => exact ⟨fun _ => no (fun ⟨a, b, e, _⟩ => by rw [ha] at e; cases e), fun z => absurd rfl z⟩
  | some a =>
    have la := chg_lt (N := 0) (by omega) ha
    refine ⟨fun z => absurd z (optI_ne (by omega)), fun _ => ?_⟩
    cases hb : chgO (h q) y x with
    | none => exact ⟨fun _ => no (fun ⟨a, b, _, e, _⟩ => by rw [hb] at e; cases e), fun z => absurd rfl z⟩
    | some b =>
      have lb := chg_lt (N := 0) (by omega) hb
      refine ⟨fun z => absurd z (optI_ne (by omega)), fun _ => ?_⟩
      show pre_X12_isLawful σ2 (nI p) (nI a) ∧ _
      have ea : optI (some a) = nI a := rfl
      have eb : optI (some b) = nI b := rfl
      rw [ea, eb]
      obtain ⟨a1, a2⟩ := lawM m1 hw hp la
      obtain ⟨b1, b2⟩ := lawM m1 hw hq lb
      obtain ⟨c1, c2⟩ := worM m1 hw hp la
      obtain ⟨d1, d2⟩ := worM m1 hw hq lb
      obtain ⟨e1, e2⟩ := worM m1 hw hp (show h p < 1024 by omega)
      obtain ⟨f1, f2⟩ := worM m1 hw hq (show h q < 1024 by omega)
      have uq : ∀ {a' b'}, chgO (h p) x y = some a' → chgO (h q) y x = some b' → a' = a ∧ b' = b := fun x y => by rw [ha] at x; rw [hb] at y; cases x; cases y; exact ⟨rfl, rfl⟩
      refine ⟨a1, fun hz => no ?_, fun hz => ⟨b1, fun hz2 => ⟨c1, hv, ?_⟩, fun hz2 => no ?_⟩⟩
      · rintro ⟨a', b', g1, g2, g3, -⟩
        obtain ⟨rfl, rfl⟩ := uq g1 g2
        have : LM w p a' = true := g3
        rw [a2.mp hz] at this; cases this
      · rw [m2 p hp, m2 q hq]
        refine ⟨e1, d1, hv2, f1, ?_⟩
        have la1 : LM w p a = true := by
          cases e : LM w p a with
          | true => rfl
          | false => exact absurd (a2.mpr e) hz
        have lb1 : LM w q b = true := by
          cases e : LM w q b with
          | true => rfl
          | false => exact absurd (b2.mpr e) hz2
        have z0 : (0 : Int32).toInt = 0 := by decide
        have r1 := VM_w w p a
        have r2 := VM_w w p (h p)
        have r3 := VM_w w q b
        have r4 := VM_w w q (h q)
        have s1 : (fn_X12_worthOf σ2 (nI p) (nI a) - fn_X12_worthOf σ2 (nI p) (nI (h p))).toInt = VM w p a - VM w p (h p) := by
          rw [ti_sub] <;> rw [c2, e2] <;> omega
        have s2 : (fn_X12_worthOf σ2 (nI q) (nI b) - fn_X12_worthOf σ2 (nI q) (nI (h q))).toInt = VM w q b - VM w q (h q) := by
          rw [ti_sub] <;> rw [d2, f2] <;> omega
        refine ⟨fun k1 => no ?_, fun k1 => ⟨fun k2 => no ?_, fun k2 => ⟨fun k3 => no ?_, fun k3 => ⟨rfl, Or.inl ⟨rfl, a, b, ha, hb, la1, lb1, ?_⟩⟩⟩⟩⟩
        · rintro ⟨a', b', g1, g2, g3, g4, g5, g6, g7⟩
          obtain ⟨rfl, rfl⟩ := uq g1 g2
          have := lt_ti.mp k1
          have g5' : VM w p (h p) ≤ VM w p a' := g5
          rw [s1, z0] at this; omega
        · rintro ⟨a', b', g1, g2, g3, g4, g5, g6, g7⟩
          obtain ⟨rfl, rfl⟩ := uq g1 g2
          have := lt_ti.mp k2
          have g6' : VM w q (h q) ≤ VM w q b' := g6
          rw [s2, z0] at this; omega
        · rintro ⟨a', b', g1, g2, g3, g4, g5, g6, g7⟩
          obtain ⟨rfl, rfl⟩ := uq g1 g2
          have := le_ti.mp k3
          have g7' : VM w p (h p) + VM w q (h q) < VM w p a' + VM w q b' := g7
          rw [ti_add, s1, s2, z0] at this
          · omega
          · rw [s1, s2]; omega
          · rw [s1, s2]; omega
        · have q1 : ¬ _ < _ := fun z => k1 (lt_ti.mpr z)
          have q2 : ¬ _ < _ := fun z => k2 (lt_ti.mpr z)
          have q3 : ¬ _ ≤ _ := fun z => k3 (le_ti.mpr z)
          rw [s1, z0] at q1
          rw [s2, z0] at q2
          rw [ti_add, s1, s2, z0] at q3
          · show VM w p (h p) ≤ VM w p a ∧ VM w q (h q) ≤ VM w q b ∧ VM w p (h p) + VM w q (h q) < VM w p a + VM w q b
            omega
          · rw [s1, s2]; omega
          · rw [s1, s2]; omega
      · rintro ⟨a', b', g1, g2, g3, g4, -⟩
        obtain ⟨rfl, rfl⟩ := uq g1 g2
        have : LM w q b' = true := g4
        rw [b2.mp hz2] at this; cases this
/-- all swaps in their order: the lesser, the greater, what each gives -/
def wstS (w : Wd) (t : Tb) (h : Nat → Nat) (m : Nat) : Prop := (m / 968 < m / 121 % 8 ∧ m / 121 % 8 < w.P) ∧ wstP t h (m / 968) (m / 121 % 8) (m % 121 / 11) (m % 121 % 11)
noncomputable def wstO (w : Wd) (t : Tb) (h : Nat → Nat) : Option Nat := amx (fun m => @decide (wstS w t h m) (Classical.propDecidable _)) (fun _ => 0) 7744
theorem wstO_some {w : Wd} {t : Tb} {h : Nat → Nat} {m : Nat} (hm : m < 7744) (h1 : wstS w t h m) (h2 : ∀ i, i < m → ¬ wstS w t h i) : wstO w t h = some m := by
  refine amx_eq hm (@decide_eq_true _ (Classical.propDecidable _) h1) (fun i hi ho => ⟨Int.le_refl _, fun hlt => ?_⟩)
  exact absurd (@of_decide_eq_true _ (Classical.propDecidable _) ho) (h2 i hlt)
theorem wstO_none {w : Wd} {t : Tb} {h : Nat → Nat} (h2 : ∀ i, i < 7744 → ¬ wstS w t h i) : wstO w t h = none := amx_all (fun i hi => @decide_eq_false _ (Classical.propDecidable _) (h2 i hi))
def wstA (o : Option Nat) (a : Int32) : Int32 := match o with
  | none => -1
  | some m => if a = 0 then nI (m / 968) else if a = 1 then nI (m / 121 % 8) else if a = 2 then nI (m % 121 / 11) else nI (m % 121 % 11)
noncomputable def wasteV (w : Wd) (a1 a2 : Int32) : Int32 := if inP a1 6 ∧ inP a2 4 then wstA (wstO w (tM w) (wayH w a1)) a2 else -1
theorem waste_M {d n : Nat} {σ : St} {w : Wd} {a1 a2 : Int32} (hn : FIX ≤ n) (hd : 11 ≤ d) (hM : MG σ w) (hw : WW w) : Cn d n M_X12_waste md_X12_waste [.ref 11, .int a1, .int a2] σ (liI (fun v σ' => v = wasteV w a1 a2 ∧ MG σ' w)) := by
  have hP := hw.P
  refine S_X12_waste hn (by omega) ⟨fun h => ⟨?_, hM⟩, fun h => ⟨fun h2 => ?_, fun h2 => ⟨?_, hM⟩⟩⟩
  · unfold wasteV; rw [if_neg (fun z => ze.mp h (way_in.mpr z.1))]
  · have g1 := way_in.mp h
    have g2 : inP a2 4 := (isIn_in (by decide) (by decide)).mp h2
    have eV : wasteV w a1 a2 = wstA (wstO w (tM w) (wayH w a1)) a2 := by unfold wasteV; rw [if_pos ⟨g1, g2⟩]
    rw [eV]
    obtain ⟨k, hk, rfl⟩ := inP_ex (by decide) g1
    refine ⟨_, goes_M hn (by omega) hM hw hk, fun σ1 ⟨h1, hvq⟩ hf => ?_⟩
    unfold wayH; rw [tn_nI (by omega)]
    have hok := wayT_ok hw (tM w) k
    generalize wayT w (tM w) k = hh at h1 hok
    generalize hQ : (fun (v : Int32) (σ' : St) => v = wstA (wstO w (tM w) hh) a2 ∧ MG σ' w) = Q
    obtain ⟨c, m1⟩ := h1.1
    have loop : ∀ p, p ≤ w.P → (∀ i, i < 968 * p → ¬ wstS w (tM w) hh i) → K_X12_waste_25 d n σ Q σ1 a2 (nI p) := by
      refine up_ind (N := w.P) ?_ ?_
      · intro hno
        refine B_X12_waste_25 hn (by omega) ⟨fun _ => ?_, fun z => absurd (by rw [m1.1.P]; exact nI_le (Nat.le_refl _) (by omega)) z⟩
        rw [← hQ]
        refine ⟨?_, m1.g⟩
        rw [wstO_none (fun i hi => ?_)]; rfl
        by_cases e : i < 968 * w.P
        · exact hno i e
        · rintro ⟨z, -⟩; omega
      · intro p hp ih hno
        refine B_X12_waste_25 hn (by omega) ⟨fun z => absurd z (by rw [m1.1.P]; exact nI_ge hp (by omega)), fun _ => ?_⟩
        have inn : ∀ q, q ≤ w.P → p < q → (∀ i, i < 968 * p + 121 * q → ¬ wstS w (tM w) hh i) → K_X12_waste_38 d n σ Q σ1 a2 (nI p) (nI q) := by
          refine up_ind (N := w.P) ?_ ?_
          · intro _ hno2
            refine B_X12_waste_38 hn (by omega) ⟨fun _ => ?_, fun z => absurd (by rw [m1.1.P]; exact nI_le (Nat.le_refl _) (by omega)) z⟩
            rw [nI_1]
            refine ih (fun i hi => ?_)
            by_cases e : i < 968 * p + 121 * w.P
            · exact hno2 i e
            · rintro ⟨z, -⟩; omega
          · intro q hq ih2 hpq hno2
            refine B_X12_waste_38 hn (by omega) ⟨fun z => absurd z (by rw [m1.1.P]; exact nI_ge hq (by omega)), fun _ => ?_⟩
            have in3 : ∀ j, j ≤ 120 → (∀ i, i < 968 * p + 121 * q + j → ¬ wstS w (tM w) hh i) → K_X12_waste_50 d n σ Q σ1 a2 (nI p) (nI q) (nI j) := by
              refine up_ind (N := 120) ?_ ?_
              · intro hno3
                refine B_X12_waste_50 hn (by omega) ⟨fun _ => ?_, fun z => absurd (by decide) z⟩
                rw [nI_1]
                refine ih2 (by omega) (fun i hi => ?_)
                by_cases e : i < 968 * p + 121 * q + 120
                · exact hno3 i e
                · rintro ⟨-, z1⟩
                  rw [show i % 121 / 11 = 10 by omega, show i % 121 % 11 = 10 by omega] at z1
                  exact wst_nn z1
              · intro j hj ih3 hno3
                have ed : (nI j) / 11 = nI (j / 11) := by rw [show (11 : Int32) = nI 11 from rfl, nI_div (by omega) (by decide)]
                have em : nI j - nI j / 11 * 11 = nI (j % 11) := by rw [show (11 : Int32) = nI 11 from rfl, nI_mod (by omega) (by decide)]
                refine B_X12_waste_50 hn (by omega) ⟨fun z => absurd z (by rw [show (120 : Int32) = nI 120 from rfl]; exact nI_ge hj (by decide)), fun _ => ?_⟩
                rw [em, ed, nI_1]
                refine ⟨_, isWaste_M hn (by omega) h1 hw hok hp hq (by omega) (by omega), ?_⟩
                rintro v σ2 ⟨rfl, hv⟩ hf2
                have e0 : (968 * p + 121 * q + j) / 968 = p := by omega
                have e1 : (968 * p + 121 * q + j) / 121 % 8 = q := by omega
                have e2 : (968 * p + 121 * q + j) % 121 = j := by omega
                have hS : wstS w (tM w) hh (968 * p + 121 * q + j) ↔ wstP (tM w) hh p q (j / 11) (j % 11) := by
                  unfold wstS; rw [e0, e1, e2]
                  exact ⟨fun z => z.2, fun z => ⟨⟨hpq, hq⟩, z⟩⟩
                refine ⟨fun hv0 => ih3 (fun i hi => ?_), fun hv0 => ?_⟩
                · by_cases e : i = 968 * p + 121 * q + j
                  · rw [e, hS]
                    rcases hv with ⟨z, -⟩ | ⟨-, z⟩
                    · rw [hv0] at z; cases z
                    · exact z
                  · exact hno3 i (by omega)
                · have hW : wstP (tM w) hh p q (j / 11) (j % 11) := by
                    rcases hv with ⟨-, z⟩ | ⟨z, -⟩
                    · exact z
                    · exact absurd z hv0
                  have hO := wstO_some (by omega) (hS.mpr hW) hno3
                  have eA : wstA (some (968 * p + 121 * q + j)) a2 = if a2 = 0 then nI p else if a2 = 1 then nI q else if a2 = 2 then nI (j / 11) else nI (j % 11) := by
                    show (if a2 = 0 then nI ((968 * p + 121 * q + j) / 968) else if a2 = 1 then nI ((968 * p + 121 * q + j) / 121 % 8) else if a2 = 2 then nI ((968 * p + 121 * q + j) % 121 / 11) else nI ((968 * p + 121 * q + j) % 121 % 11)) = _
                    rw [e0, e1, e2]
                  rw [← hQ, hO, eA]
                  refine ⟨fun n0 => ⟨fun n1 => ⟨fun n2 => ⟨?_, m1.g⟩, fun n2 => ⟨?_, m1.g⟩⟩, fun n1 => ⟨?_, m1.g⟩⟩, fun n0 => ⟨?_, m1.g⟩⟩
                  · show _ = if a2 = 0 then _ else _
                    rw [if_neg n0, if_neg n1, if_neg n2]
                  · show _ = if a2 = 0 then _ else _
                    rw [if_neg n0, if_neg n1, if_pos n2]
                  · show _ = if a2 = 0 then _ else _
                    rw [if_neg n0, if_pos n1]
                  · show _ = if a2 = 0 then _ else _
                    rw [if_pos n0]
            exact in3 0 (by omega) (fun i hi => hno2 i (by omega))
        rw [nI_1]
        refine inn (p + 1) (by omega) (by omega) (fun i hi => ?_)
        by_cases e : i < 968 * p
        · exact hno i e
        · rintro ⟨z, -⟩; omega
    exact loop 0 (by omega) (fun i hi => absurd hi (by omega))
  · unfold wasteV; rw [if_neg (fun z => ze.mp h2 ((isIn_in (K := 4) (by decide) (by decide)).mpr z.2))]
