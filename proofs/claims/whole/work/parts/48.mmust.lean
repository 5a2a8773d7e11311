/-! ===== the model: must ===== -/
theorem nI_div {a b : Nat} (ha : a < 2 ^ 31) (hb : b < 2 ^ 31) : nI a / nI b = nI (a / b) := by
  have hq : a / b ≤ a := Nat.div_le_self _ _
  rw [eq_ti, Int32.toInt_div, nI_toInt ha, nI_toInt hb, nI_toInt (by omega), ← Int.ofNat_tdiv]
  generalize a / b = q at hq
  rw [Int.bmod_eq_of_le (by omega) (by omega)]
theorem nI_mul {a b : Nat} (h : a * b < 2 ^ 31) : nI a * nI b = nI (a * b) := by
  show Int32.ofNat a * Int32.ofNat b = Int32.ofNat (a * b)
  rw [Int32.ofNat_mul]
theorem nI_sub {a b : Nat} (h : b ≤ a) : nI a - nI b = nI (a - b) := by
  show Int32.ofNat a - Int32.ofNat b = Int32.ofNat (a - b)
  rw [Int32.ofNat_sub _ _ h]
theorem nI_mod {a b : Nat} (ha : a < 2 ^ 31) (hb : b < 2 ^ 31) : nI a - nI a / nI b * nI b = nI (a % b) := by
  have h1 : a / b * b ≤ a := Nat.div_mul_le_self _ _
  have h2 : a / b * b + a % b = a := by rw [Nat.mul_comm]; exact Nat.div_add_mod a b
  rw [nI_div ha hb, nI_mul (by omega), nI_sub h1]
  congr 1; omega
theorem nI_any (x : Int32) : ∃ k, x = nI k := ⟨x.toBitVec.toNat, by
  show x = Int32.ofNat _
  apply Int32.toBitVec_inj.mp
  simp [Int32.toBitVec_ofNat']⟩
theorem costU_cx {c c' : Nat → Nat} {b : Nat} : ∀ {N : Nat}, (∀ l, l < N → c l = c' l) → costU c b N = costU c' b N
  | 0, _ => rfl
  | N + 1, h => by
    unfold costU
    rw [costU_cx (fun l hl => h l (by omega)), h N (by omega)]
theorem sqU_ext {f g : Nat → Int} : ∀ {N : Nat}, (∀ l, l < N → f l = g l) → sqU f N = sqU g N
  | 0, _ => rfl
  | N + 1, h => by
    unfold sqU
    rw [sqU_ext (fun l hl => h l (by omega)), h N (by omega)]
theorem buyO_ext {w : Wd} {c c' : Nat → Nat} (h : ∀ l, l < w.N → c l = c' l) (L : Nat → Nat → Bool) (V : Nat → Nat → Int) (p : Nat) : buyO w L V c p = buyO w L V c' p := by
  unfold buyO
  rw [show (fun b => costU c b w.N) = (fun b => costU c' b w.N) from funext fun b => costU_cx h]
theorem buyB_ext {w : Wd} {c c' : Nat → Nat} (h : ∀ l, l < w.N → c l = c' l) (L : Nat → Nat → Bool) (V : Nat → Nat → Int) : buyB w L V c = buyB w L V c' := by
  funext p; unfold buyB; rw [buyO_ext h]
theorem ovN_ext {w : Wd} {c c' : Nat → Nat} (h : ∀ l, l < w.N → c l = c' l) (t : Tb) {l : Nat} (hl : l < w.N) : ovN w t c l = ovN w t c' l := by
  unfold ovN ovr; rw [buyB_ext h, h l hl]
theorem sqN_ext {w : Wd} {c c' : Nat → Nat} (h : ∀ l, l < w.N → c l = c' l) (t : Tb) : sqN w t c = sqN w t c' := sqU_ext (fun l hl => ovN_ext h t hl)
/-- a row of multiples -/
def mustC (m b r l : Nat) : Nat := r / m ^ l % m * b
def mustL (w : Wd) (t : Tb) (m b : Nat) : Nat → Int
  | 0 => -1
  | k + 1 => if k = 0 then sqN w t (mustC m b 0) else min (mustL w t m b k) (sqN w t (mustC m b k))
def mustM (b : Nat) : Nat := min 20 (250 / b + 1)
def mustV (w : Wd) (a : Int32) : Int32 := if (1 ≤ w.N ∧ w.N ≤ 3) ∧ (1 ≤ a.toInt ∧ a.toInt ≤ 250) then Int32.ofInt (mustL w (tM w) (mustM (tn a)) (tn a) (mustM (tn a) ^ w.N)) else -1
theorem mustL_rng {w : Wd} (hw : WW w) (t : Tb) (m b : Nat) : ∀ k, 0 < k → 0 ≤ mustL w t m b k ∧ mustL w t m b k ≤ 810
  | 0, h => absurd h (by omega)
  | k + 1, _ => by
    unfold mustL
    split
    · exact sqN_rng hw t _
    · have := mustL_rng hw t m b k (by omega)
      have := sqN_rng hw t (mustC m b k)
      omega
theorem pow_le8000 {m N : Nat} (h1 : m ≤ 20) (h2 : N ≤ 3) : m ^ N ≤ 8000 := by
  have : m ^ N ≤ 20 ^ N := Nat.pow_le_pow_left h1 N
  have : 20 ^ N ≤ 20 ^ 3 := Nat.pow_le_pow_right (by decide) h2
  omega
theorem mustC_le {m b r l : Nat} (h1 : 1 ≤ b) (h2 : b ≤ 250) (hm : m = mustM b) : mustC m b r l ≤ 250 := by
  unfold mustC
  have hm0 : 0 < m := by rw [hm]; unfold mustM; generalize 250 / b = q; omega
  have h3 : r / m ^ l % m < m := Nat.mod_lt _ hm0
  have h4 : r / m ^ l % m ≤ 250 / b := by
    have : m ≤ 250 / b + 1 := by rw [hm]; unfold mustM; omega
    omega
  exact Nat.le_trans (Nat.mul_le_mul_right b h4) (Nat.div_mul_le_self _ _)
theorem squares_MT0 {d n : Nat} {σ : St} {w : Wd} {c : Nat → Nat} (hn : FIX ≤ n) (hd : 3 ≤ d) (hM : MT σ w c) (hw : WW w) (hc : ∀ l, l < w.N → c l ≤ 1000000) : Cn d n M_X12_squares md_X12_squares [.ref 11] σ (liI (fun v σ' => MT σ' w c ∧ v.toInt = sqN w (tM w) c ∧ (∀ p, p < w.P → gI σ' 64 p = nI (buyB w (LM w) (VM w) c p)) ∧ ∀ l, l < w.N → (gI σ' 65 l).toInt = ovN w (tM w) c l)) :=
  Cn.wk (squares_spec0 hn hd (hM.x hw) hw (VM_ok w) hc) (by
    rintro v σ' ⟨x, rfl, h1, h2, h3⟩ hf
    exact ⟨x, rfl, hM.st hw hf (by decide), h1, h2, h3⟩)
theorem must_M {d n : Nat} {σ : St} {w : Wd} {a : Int32} (hn : FIX ≤ n) (hd : 9 ≤ d) (hM : MG σ w) (hw : WW w) : Cn d n M_X12_must md_X12_must [.ref 11, .int a] σ (liI (fun v σ' => v = mustV w a ∧ MG σ' w)) := by
  have hN := hw.N
  have o : (1 : Int32).toInt = 1 := by decide
  have t3 : (3 : Int32).toInt = 3 := by decide
  have s : (250 : Int32).toInt = 250 := by decide
  refine S_X12_must hn (by omega) ⟨fun h => ⟨?_, hM⟩, fun h => ⟨fun h2 => ?_, fun h2 => ⟨?_, hM⟩⟩⟩
  · have := isIn_z.mp h
    rw [hM.1.N, o, t3, nI_toInt (by omega)] at this
    unfold mustV; rw [if_neg (fun z => this (by omega))]
  · have g1 := isIn_ti.mp h
    rw [hM.1.N, o, t3, nI_toInt (by omega)] at g1
    have g2 := isIn_ti.mp h2
    rw [o, s] at g2
    obtain ⟨b, hb, rfl⟩ := ex_nI (K := 251) (by decide) (by omega : 0 ≤ a.toInt) (by omega)
    have g3 := g2
    rw [nI_toInt (by omega)] at g3
    have hb1 : 1 ≤ b := by omega
    have hb2 : b ≤ 250 := by omega
    have hval : mustV w (nI b) = Int32.ofInt (mustL w (tM w) (mustM b) b (mustM b ^ w.N)) := by
      unfold mustV; rw [if_pos ⟨by omega, g2⟩, tn_nI (by omega)]
    rw [hval]
    have hdv : 250 / b ≤ 250 := Nat.div_le_self _ _
    have hmany : mnI 20 (250 / nI b + 1) = nI (mustM b) := by
      rw [show (250 : Int32) = nI 250 from rfl, nI_div (by omega) (by omega), nI_1, eq_ti, mnI_ti, nI_toInt (by omega), show (20 : Int32).toInt = 20 by decide]
      unfold mustM
      rw [nI_toInt (by omega)]; omega
    have hm20 : mustM b ≤ 20 := by unfold mustM; generalize 250 / b = q; omega
    have hm1 : 1 ≤ mustM b := by unfold mustM; generalize 250 / b = q; omega
    refine ⟨_, tables_spec hn (by omega) hM.1 hw hM.2.2, fun σ1 ⟨c0, c1, c2⟩ hf1 => ⟨fun e => ?_, ?_⟩⟩
    · rw [e] at g2; exact absurd g2.1 (by decide)
    rw [hmany]
    generalize hmb : mustM b = m at *
    generalize hQ : (fun (v : Int32) (σ' : St) => v = Int32.ofInt (mustL w (tM w) m b (m ^ w.N)) ∧ MG σ' w) = Q
    have hMT : ∃ c, MT σ1 w c := by
      have : ∀ l, ∃ k, gI σ1 63 l = nI k := fun l => nI_any _
      refine ⟨fun l => (this l).choose, c0, by rw [hf1.cell (by decide)]; exact hM.2.1, c1, fun l hl => (this l).choose_spec⟩
    have hp8 : m ^ w.N ≤ 8000 := pow_le8000 hm20 (by omega)
    have outer : ∀ r, r ≤ m ^ w.N → ∀ (σ2 : St) (x4 : Int32), (∃ c, MT σ2 w c) → x4.toInt = mustL w (tM w) m b r → K_X12_must_72 d n σ Q σ2 (nI b) (nI m) (nI (m ^ w.N)) x4 (nI r) := by
      refine up_ind (N := m ^ w.N) ?_ ?_
      · intro σ2 x4 ⟨c, q1⟩ q2
        refine B_X12_must_72 hn (by omega) ⟨fun _ => ?_, fun h => absurd (nI_le (Nat.le_refl _) (by omega)) h⟩
        rw [← hQ]; exact ⟨ofI q2, q1.g⟩
      · intro r hr ih σ2 x4 q1 q2
        refine B_X12_must_72 hn (by omega) ⟨fun h => absurd h (nI_ge hr (by omega)), fun _ => ?_⟩
        have inner : ∀ l, l ≤ w.N → ∀ σ3 : St, (∃ c, MT σ3 w c ∧ ∀ l', l' < l → c l' = mustC m b r l') → K_X12_must_85 d n σ Q σ3 (nI b) (nI m) (nI (m ^ w.N)) x4 (nI r) (nI (r / m ^ l)) (nI l) := by
          refine up_ind (N := w.N) ?_ ?_
          · intro σ3 ⟨c, p1, p2⟩
            have esq : sqN w (tM w) c = sqN w (tM w) (mustC m b r) := sqN_ext p2 _
            refine B_X12_must_85 hn (by omega) ⟨fun _ => ⟨_, squares_MT0 hn (by omega) p1 hw (fun l hl => by rw [p2 l hl]; have := mustC_le (r := r) (l := l) hb1 hb2 hmb.symm; omega), fun v σ4 ⟨e1, e2, e3, e4⟩ hf => ?_⟩, fun h => absurd (by rw [p1.1.N]; exact nI_le (Nat.le_refl _) (by omega)) h⟩
            rw [esq] at e2
            have rr := sqN_rng hw (tM w) (mustC m b r)
            rw [nI_1]
            have n1 : (-1 : Int32).toInt = -1 := by decide
            refine ⟨fun hx => ih σ4 _ ⟨c, e1⟩ ?_, fun hx => ⟨fun hle => ih σ4 _ ⟨c, e1⟩ ?_, fun hle => ih σ4 _ ⟨c, e1⟩ ?_⟩⟩
            · by_cases hr0 : r = 0
              · unfold mustL; rw [if_pos hr0, e2, hr0]
              · have := mustL_rng hw (tM w) m b r (by omega)
                rw [hx, n1] at q2; omega
            · by_cases hr0 : r = 0
              · rw [hr0] at q2; exact absurd (eq_ti.mpr (by rw [q2, n1]; rfl)) hx
              · unfold mustL; rw [if_neg hr0]
                have := le_ti.mp hle
                omega
            · by_cases hr0 : r = 0
              · rw [hr0] at q2; exact absurd (eq_ti.mpr (by rw [q2, n1]; rfl)) hx
              · unfold mustL; rw [if_neg hr0]
                have : ¬ x4.toInt ≤ v.toInt := fun z => hle (le_ti.mpr z)
                omega
          · intro l hl ih2 σ3 ⟨c, p1, p2⟩
            have hz : ¬ nI m = 0 := fun e => by
              have := (nI_eq (b := 0) (by omega : m < 2 ^ 31) (by decide)).mp e
              omega
            have hrl : r / m ^ l ≤ r := Nat.div_le_self _ _
            refine B_X12_must_85 hn (by omega) ⟨fun h => absurd h (by rw [p1.1.N]; exact nI_ge hl (by omega)), fun _ => ⟨hz, vp_in_nI (by omega) (by decide), hz, ?_⟩⟩
            have hlt : r / m ^ l % m < m := Nat.mod_lt _ (by omega)
            have hle250 := mustC_le (r := r) (l := l) hb1 hb2 hmb.symm
            rw [nI_mod (by omega) (by omega), nI_div (by omega) (by omega), nI_mul (by unfold mustC at hle250; omega), nI_clamp (by omega), nI_1, Nat.div_div_eq_div_mul, ← Nat.pow_succ]
            refine ih2 _ ⟨fun l' => if l' = l then mustC m b r l else c l', ⟨p1.1.fr (fun q k hk => gI_sI_ne (by unfold keepM at hk; omega)), by rw [gI_sI_ne (by omega)]; exact p1.2.1, fun r hr => (p1.2.2.1 r hr).fr (fun k _ _ => ⟨gI_sI_ne (by omega), gI_sI_ne (by omega)⟩), fun k hk => ?_⟩, fun l' hl' => ?_⟩
            · rw [gI_sI]
              show _ = nI (if k = l then mustC m b r l else c k)
              by_cases e : k = l
              · rw [if_pos ⟨rfl, e⟩, if_pos e]; rfl
              · rw [if_neg (fun z => e z.2), if_neg e]; exact p1.2.2.2 k hk
            · show (if l' = l then mustC m b r l else c l') = _
              by_cases e : l' = l
              · rw [if_pos e, e]
              · rw [if_neg e]; exact p2 l' (by omega)
        have := inner 0 (by omega) σ2 (by obtain ⟨c, q⟩ := q1; exact ⟨c, q, fun l' h => absurd h (by omega)⟩)
        rw [Nat.pow_zero, Nat.div_one] at this
        exact this
    have pw : ∀ l, l ≤ w.N → K_X12_must_47 d n σ Q σ1 (nI b) (nI m) (nI (m ^ l)) (nI l) := by
      refine up_ind (N := w.N) ?_ ?_
      · obtain ⟨c, q⟩ := hMT
        exact B_X12_must_47 hn (by omega) ⟨fun _ => outer 0 (by omega) σ1 _ ⟨c, q⟩ (by unfold mustL; decide), fun h => absurd (by rw [q.1.N]; exact nI_le (Nat.le_refl _) (by omega)) h⟩
      · intro l hl ih
        obtain ⟨c, q⟩ := hMT
        have h8 : m ^ (l + 1) ≤ 8000 := pow_le8000 hm20 (by omega)
        rw [Nat.pow_succ] at h8
        refine B_X12_must_47 hn (by omega) ⟨fun h => absurd h (by rw [q.1.N]; exact nI_ge hl (by omega)), fun _ => ?_⟩
        rw [nI_1, nI_mul (by omega), ← Nat.pow_succ]; exact ih
    exact pw 0 (by omega)
  · have := isIn_z.mp h2
    rw [o, s] at this
    unfold mustV; rw [if_neg (fun z => this z.2)]
