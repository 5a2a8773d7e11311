/-! ===== the model: squares ===== -/
/-- the model at work: its world, its tables by seats, its row of prices -/
def MX (σ : St) (w : Wd) (L : Nat → Nat → Bool) (V : Nat → Nat → Int) (c : Nat → Nat) : Prop := RM σ w ∧ (∀ p, p < w.P → TbM σ (rw_ σ p) (L p) (V p)) ∧ Now σ c
def okX (m : Md) : Bool := okK m && (rowFree m 61 && (rowFree m 62 && (rowFree m 63 && cellFree m 11 38)))
theorem MX.fr {σ σ' : St} {w : Wd} {L : Nat → Nat → Bool} {V : Nat → Nat → Int} {c : Nat → Nat} (h : MX σ w L V c) (h1 : ∀ q k, keepM q k → gI σ' q k = gI σ q k) (h2 : ∀ k, gI σ' 61 k = gI σ 61 k) (h3 : ∀ k, gI σ' 62 k = gI σ 62 k) (h4 : ∀ k, gI σ' 63 k = gI σ 63 k) (h5 : gI σ' 11 38 = gI σ 11 38) : MX σ' w L V c := by
  obtain ⟨a1, a2, a3⟩ := h
  refine ⟨a1.fr h1, fun p hp => ?_, fun l hl => by rw [h4]; exact a3 l hl⟩
  have e : rw_ σ' p = rw_ σ p := by unfold rw_; rw [h5]
  rw [e]
  exact (a2 p hp).fr (fun k _ _ => ⟨h2 k, h3 k⟩)
theorem MX.st {m : Md} {σ σ' : St} {w : Wd} {L : Nat → Nat → Bool} {V : Nat → Nat → Int} {c : Nat → Nat} (h : MX σ w L V c) (hf : Fr m σ σ') (ho : okX m = true) : MX σ' w L V c := by
  simp only [okX, Bool.and_eq_true] at ho
  obtain ⟨o1, o2, o3, o4, o5⟩ := ho
  exact h.fr (fun q k hk => hf.1 q k (okK_spec o1 hk)) (hf.row o2) (hf.row o3) (hf.row o4) (hf.cell o5)
/-- a single write beside it -/
theorem MX.set {σ : St} {w : Wd} {L : Nat → Nat → Bool} {V : Nat → Nat → Int} {c : Nat → Nat} {q k : Nat} {v : Int32} (h : MX σ w L V c) (ho : (q ≠ 11 ∧ q ≠ 59 ∧ q ≠ 61 ∧ q ≠ 62 ∧ q ≠ 63 ∧ (q < 41 ∨ 56 < q)) ∨ (q = 11 ∧ k ≠ 37 ∧ 22 ≤ k ∧ k ≠ 38)) : MX (sI σ q k v) w L V c := by
  refine h.fr (fun q' k' hk => gI_sI_ne ?_) (fun k' => gI_sI_ne ?_) (fun k' => gI_sI_ne ?_) (fun k' => gI_sI_ne ?_) (gI_sI_ne ?_)
  · unfold keepM at hk; omega
  · omega
  · omega
  · omega
  · omega
def buyO (w : Wd) (L : Nat → Nat → Bool) (V : Nat → Nat → Int) (c : Nat → Nat) (p : Nat) : Option Nat := bestU (L p) (V p) (fun b => costU c b w.N) (w.pu p) (2 ^ w.N)
def buyB (w : Wd) (L : Nat → Nat → Bool) (V : Nat → Nat → Int) (c : Nat → Nat) (p : Nat) : Nat := (buyO w L V c p).getD 0
/-- how many of the first p have a lesson -/
def cntU (h : Nat → Nat) (l : Nat) : Nat → Nat
  | 0 => 0
  | p + 1 => cntU h l p + if (h p).testBit l = true then 1 else 0
theorem cntU_le (h : Nat → Nat) (l p : Nat) : cntU h l p ≤ p := by
  induction p with
  | zero => exact Nat.le_refl _
  | succ p ih => simp only [cntU]; split <;> omega
def ovr (w : Wd) (c : Nat → Nat) (h : Nat → Nat) (l : Nat) : Int := if (cntU h l w.P : Int) - w.pl l < 0 ∧ c l = 0 then 0 else (cntU h l w.P : Int) - w.pl l
def sqU (f : Nat → Int) : Nat → Int
  | 0 => 0
  | l + 1 => sqU f l + f l * f l
theorem ovr_rng {w : Wd} (hw : WW w) (c : Nat → Nat) (h : Nat → Nat) (l : Nat) : -9 ≤ ovr w c h l ∧ ovr w c h l ≤ 8 := by
  have h1 := cntU_le h l w.P
  have h2 := hw.P
  have h3 := hw.pl l
  unfold ovr; split <;> omega
theorem sq_le {x : Int} (h : -9 ≤ x ∧ x ≤ 8) : 0 ≤ x * x ∧ x * x ≤ 81 := by
  have : x * x = (x.natAbs * x.natAbs : Nat) := by rw [Int.natAbs_mul_self]
  have h2 : x.natAbs * x.natAbs ≤ 9 * 9 := Nat.mul_le_mul (by omega) (by omega)
  omega
theorem sqU_rng {w : Wd} (hw : WW w) (c : Nat → Nat) (h : Nat → Nat) (l : Nat) : 0 ≤ sqU (ovr w c h) l ∧ sqU (ovr w c h) l ≤ 81 * l := by
  induction l with
  | zero => simp [sqU]
  | succ l ih =>
    have := sq_le (ovr_rng hw c h l)
    simp only [sqU]; omega
theorem buyB_lt {w : Wd} {L : Nat → Nat → Bool} {V : Nat → Nat → Int} {c : Nat → Nat} {p : Nat} : buyB w L V c p < 2 ^ w.N := by
  unfold buyB
  cases h : buyO w L V c p with
  | none => exact Nat.pos_of_ne_zero (by simp)
  | some x => exact (bestU_lt h).1
theorem mx0_opt {o : Option Nat} (h : ∀ x, o = some x → x < 2 ^ 31) : mxI 0 (optI o) = nI (o.getD 0) := by
  cases o with
  | none => decide
  | some x => show mxI (nI 0) (nI x) = _; rw [mxI_nI (by decide) (h x rfl)]; simp
theorem one_hold {b l : Nat} (hb : b < 2 ^ 31) (hl : l < 32) : fn_X12_one (fn_X12_holds (nI b) (nI l)) = if b.testBit l = true then 1 else 0 := by
  rw [hold_nI hb hl]; by_cases h : b.testBit l = true
  · rw [if_pos h]; rfl
  · rw [if_neg h]; rfl
/-- prices that may stand -/
def cOk (c : Nat → Nat) : Prop := ∀ l, l < 10 → c l ≤ 1000000
def vOk (V : Nat → Nat → Int) : Prop := ∀ p b, V p b < 2 ^ 31 ∧ -2 ^ 31 ≤ V p b
theorem squares_spec0 {d n : Nat} {σ : St} {w : Wd} {L : Nat → Nat → Bool} {V : Nat → Nat → Int} {c : Nat → Nat} (hn : FIX ≤ n) (hd : 3 ≤ d) (hX : MX σ w L V c) (hw : WW w) (hV : vOk V) (hc : ∀ l, l < w.N → c l ≤ 1000000) :
    Cn d n M_X12_squares md_X12_squares [.ref 11] σ (liI (fun v σ' => v.toInt = sqU (ovr w c (buyB w L V c)) w.N ∧ (∀ p, p < w.P → gI σ' 64 p = nI (buyB w L V c p)) ∧ ∀ l, l < w.N → (gI σ' 65 l).toInt = ovr w c (buyB w L V c) l)) := by
  have hP := hw.P
  have hN := hw.N
  have hpw := pow10 hN
  refine S_X12_squares hn (by omega) ?_
  generalize hQ : (fun (v : Int32) (σ' : St) => v.toInt = sqU (ovr w c (buyB w L V c)) w.N ∧ (∀ p, p < w.P → gI σ' 64 p = nI (buyB w L V c p)) ∧ ∀ l, l < w.N → (gI σ' 65 l).toInt = ovr w c (buyB w L V c) l) = Q
  -- the squares, lesson by lesson
  have outer : ∀ l, l ≤ w.N → ∀ (σ1 : St) (x : Int32), MX σ1 w L V c → (∀ p, p < w.P → gI σ1 64 p = nI (buyB w L V c p)) → x.toInt = sqU (ovr w c (buyB w L V c)) l → (∀ l', l' < l → (gI σ1 65 l').toInt = ovr w c (buyB w L V c) l') → K_X12_squares_35 d n σ Q σ1 x (nI l) := by
    refine up_ind (N := w.N) ?_ ?_
    · intro σ1 x h1 h2 h3 h4
      refine B_X12_squares_35 hn (by omega) ⟨fun _ => ?_, fun h => absurd (by rw [h1.1.N]; exact nI_le (Nat.le_refl _) (by omega)) h⟩
      rw [← hQ]; exact ⟨h3, h2, h4⟩
    · intro l hl ih σ1 x h1 h2 h3 h4
      have hv : vp_in (nI l) 10 := vp_in_nI (by omega) (by decide)
      have hpl := hw.pl l
      refine B_X12_squares_35 hn (by omega) ⟨fun h => absurd (by rw [h1.1.N] at h; exact h) (nI_ge hl (by omega)), fun _ => ⟨hv, hv, ?_⟩⟩
      rw [nI_clamp (by omega), (h1.1.les l (by omega)).1]
      have inner : ∀ p, p ≤ w.P → ∀ σ2 : St, MX σ2 w L V c → (∀ p, p < w.P → gI σ2 64 p = nI (buyB w L V c p)) → (∀ l', l' < l → (gI σ2 65 l').toInt = ovr w c (buyB w L V c) l') → (gI σ2 65 l).toInt = (cntU (buyB w L V c) l p : Int) - w.pl l → K_X12_squares_58 d n σ Q σ2 x (nI l) (nI p) := by
        refine up_ind (N := w.P) ?_ ?_
        · intro σ2 g1 g2 g3 g4
          have hcn := cntU_le (buyB w L V c) l w.P
          have z0 : (0 : Int32).toInt = 0 := by decide
          have fin : ∀ σ3 : St, MX σ3 w L V c → (∀ p, p < w.P → gI σ3 64 p = nI (buyB w L V c p)) → (∀ l', l' < l + 1 → (gI σ3 65 l').toInt = ovr w c (buyB w L V c) l') → K_X12_squares_35 d n σ Q σ3 (x + gI σ3 65 l * gI σ3 65 l) (nI l + 1) := by
            intro σ3 k1 k2 k3
            rw [nI_1]
            refine ih σ3 _ k1 k2 ?_ k3
            have e := k3 l (by omega)
            have r1 := sq_le (ovr_rng hw c (buyB w L V c) l)
            have r2 := sqU_rng hw c (buyB w L V c) l
            have em : (gI σ3 65 l * gI σ3 65 l).toInt = ovr w c (buyB w L V c) l * ovr w c (buyB w L V c) l := by
              rw [ti_mul] <;> rw [e] <;> omega
            rw [ti_add] <;> rw [em, h3] <;> (try simp only [sqU]) <;> omega
          have same : ovr w c (buyB w L V c) l = (cntU (buyB w L V c) l w.P : Int) - w.pl l → ∀ l', l' < l + 1 → (gI σ2 65 l').toInt = ovr w c (buyB w L V c) l' := by
            intro he l' hl'
            rcases Nat.lt_or_ge l' l with z | z
            · exact g3 l' z
            · rw [show l' = l by omega, he]; exact g4
          refine B_X12_squares_58 hn (by omega) ⟨fun _ => ⟨hv, ?_⟩, fun h => absurd (by rw [g1.1.P]; exact nI_le (Nat.le_refl _) (by omega)) h⟩
          rw [nI_clamp (by omega)]
          refine ⟨fun hge => ⟨hv, hv, fin σ2 g1 g2 (same ?_)⟩, fun hge => ⟨hv, fun hc0 => ⟨hv, hv, fin σ2 g1 g2 (same ?_)⟩, fun hc0 => ⟨hv, hv, hv, ?_⟩⟩⟩
          · have := le_ti.mp hge; rw [g4, z0] at this
            unfold ovr; rw [if_neg (by omega)]
          · unfold ovr; rw [if_neg]
            rintro ⟨-, q⟩
            apply hc0
            rw [g1.2.2 l (by omega), q]; rfl
          · have hneg : (cntU (buyB w L V c) l w.P : Int) - w.pl l < 0 := by
              have : ¬ (0 : Int32).toInt ≤ (gI σ2 65 l).toInt := fun z => hge (le_ti.mpr z)
              rw [g4, z0] at this; omega
            have hcz : c l = 0 := by
              rw [g1.2.2 l (by omega)] at hc0
              exact (nI_eq (b := 0) (by have := hc l (by omega); omega) (by decide)).mp hc0
            refine fin (sI σ2 65 l 0) (g1.set (by omega)) (fun p hp => by rw [gI_sI_ne (by omega)]; exact g2 p hp) (fun l' hl' => ?_)
            rw [gI_sI]
            by_cases e : l' = l
            · subst e; rw [if_pos ⟨rfl, rfl⟩, z0]; unfold ovr; rw [if_pos ⟨hneg, hcz⟩]
            · rw [if_neg (by omega)]; exact g3 l' (by omega)
        · intro p hp ih2 σ2 g1 g2 g3 g4
          have hcn := cntU_le (buyB w L V c) l p
          have hbl : buyB w L V c p < 2 ^ w.N := buyB_lt
          refine B_X12_squares_58 hn (by omega) ⟨fun h => absurd (by rw [g1.1.P] at h; exact h) (nI_ge hp (by omega)), fun _ => ⟨hv, vp_in_nI (by omega) (by decide), hv, ?_⟩⟩
          rw [nI_clamp (by omega), nI_clamp (by omega), g2 p hp, one_hold (by omega) (by omega), nI_1]
          refine ih2 _ (g1.set (by omega)) (fun p' hp' => by rw [gI_sI_ne (by omega)]; exact g2 p' hp') (fun l' hl' => by rw [gI_sI_ne (by omega)]; exact g3 l' hl') ?_
          rw [gI_sI_same, ti_add] <;> rw [g4] <;> (try simp only [cntU]) <;> (by_cases ht : (buyB w L V c p).testBit l = true) <;> simp only [ht, if_true] <;> simp <;> omega
      refine inner 0 (Nat.zero_le _) _ (h1.set (by omega)) (fun p hp => by rw [gI_sI_ne (by omega)]; exact h2 p hp) (fun l' hl' => by rw [gI_sI_ne (by omega)]; exact h4 l' hl') ?_
      rw [gI_sI_same, ti_neg] <;> rw [nI_toInt (by omega)] <;> simp [cntU] <;> omega
  have loop : ∀ p, p ≤ w.P → ∀ σ1 : St, MX σ1 w L V c → (∀ p', p' < p → gI σ1 64 p' = nI (buyB w L V c p')) → K_X12_squares_2 d n σ Q σ1 (nI p) := by
    refine up_ind (N := w.P) ?_ ?_
    · intro σ1 h1 h2
      refine B_X12_squares_2 hn (by omega) ⟨fun _ => ?_, fun h => absurd (by rw [h1.1.P]; exact nI_le (Nat.le_refl _) (by omega)) h⟩
      exact outer 0 (Nat.zero_le _) σ1 0 h1 h2 rfl (fun l' h => absurd h (by omega))
    · intro p hp ih σ1 h1 h2
      refine B_X12_squares_2 hn (by omega) ⟨fun h => absurd (by rw [h1.1.P] at h; exact h) (nI_ge hp (by omega)), fun _ => ⟨_, buysBy_spec0 hn (by omega) h1.1.N hw (by omega) (h1.1.per p (by omega)).1 (h1.2.1 p hp) (hV p) h1.2.2 hc, ?_⟩⟩
      rintro v σ4 ⟨rfl, -, -⟩ hf
      refine ⟨vp_in_nI (by omega) (by decide), ?_⟩
      rw [nI_clamp (by omega), mx0_opt (fun x hx => by have := (bestU_lt hx).1; omega), nI_1]
      refine ih _ ((h1.st hf (by decide)).set (by omega)) (fun p' hp' => ?_)
      rw [gI_sI, hf.row (by decide)]
      by_cases e : p' = p
      · subst e; rw [if_pos ⟨rfl, rfl⟩]; rfl
      · rw [if_neg (by omega)]; exact h2 p' (by omega)
  exact loop 0 (Nat.zero_le _) σ hX (fun p' h => absurd h (by omega))
theorem squares_spec {d n : Nat} {σ : St} {w : Wd} {L : Nat → Nat → Bool} {V : Nat → Nat → Int} {c : Nat → Nat} (hn : FIX ≤ n) (hd : 3 ≤ d) (hX : MX σ w L V c) (hw : WW w) (hV : vOk V) (hc : cOk c) :
    Cn d n M_X12_squares md_X12_squares [.ref 11] σ (liI (fun v σ' => v.toInt = sqU (ovr w c (buyB w L V c)) w.N ∧ (∀ p, p < w.P → gI σ' 64 p = nI (buyB w L V c p)) ∧ ∀ l, l < w.N → (gI σ' 65 l).toInt = ovr w c (buyB w L V c) l)) := squares_spec0 hn hd hX hw hV (fun l hl => hc l (by have := hw.N; omega))
