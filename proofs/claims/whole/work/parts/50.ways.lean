/-! ===== the ways to have lessons: what they are ===== -/
def puh (h : Nat → Nat) (p x : Nat) : Nat → Nat := fun q => if q = p then x else h q
theorem puh_same (h : Nat → Nat) (p x : Nat) : puh h p x p = x := if_pos rfl
theorem puh_ne {h : Nat → Nat} {p x q : Nat} (e : q ≠ p) : puh h p x q = h q := if_neg e
/-- the first of the greatest -/
def amx (ok : Nat → Bool) (W : Nat → Int) : Nat → Option Nat
  | 0 => none
  | k + 1 => if ok k = true ∧ (∀ z, amx ok W k = some z → W z < W k) then some k else amx ok W k
theorem amx_yes {ok : Nat → Bool} {W : Nat → Int} {k : Nat} (h1 : ok k = true) (h2 : ∀ z, amx ok W k = some z → W z < W k) : amx ok W (k + 1) = some k := by
  unfold amx; exact if_pos ⟨h1, h2⟩
theorem amx_no {ok : Nat → Bool} {W : Nat → Int} {k : Nat} (h : ok k = true → ∃ z, amx ok W k = some z ∧ ¬ W z < W k) : amx ok W (k + 1) = amx ok W k := by
  rw [amx]
  refine if_neg ?_
  rintro ⟨h1, h2⟩
  obtain ⟨z, h3, h4⟩ := h h1
  exact h4 (h2 z h3)
theorem amx_lt {ok : Nat → Bool} {W : Nat → Int} : ∀ {k x : Nat}, amx ok W k = some x → x < k ∧ ok x = true
  | 0, x, h => by cases h
  | k + 1, x, h => by
    unfold amx at h
    split at h
    · next hh => cases h; exact ⟨by omega, hh.1⟩
    · have := amx_lt h; exact ⟨by omega, this.2⟩
theorem amx_none {ok : Nat → Bool} {W : Nat → Int} : ∀ {k : Nat}, amx ok W k = none → ∀ i, i < k → ok i = false
  | 0, _, i, hi => absurd hi (by omega)
  | k + 1, h, i, hi => by
    unfold amx at h
    split at h
    · cases h
    · next hh =>
      by_cases e : i = k
      · rw [e]
        cases hb : ok k with
        | false => rfl
        | true => exact absurd ⟨hb, fun z hz => by rw [h] at hz; cases hz⟩ hh
      · exact amx_none h i (by omega)
theorem amx_max {ok : Nat → Bool} {W : Nat → Int} : ∀ {k x : Nat}, amx ok W k = some x → ∀ i, i < k → ok i = true → W i ≤ W x ∧ (i < x → W i < W x)
  | 0, x, h, i, hi, _ => absurd hi (by omega)
  | k + 1, x, h, i, hi, hok => by
    unfold amx at h
    split at h
    · next hh =>
      cases h
      by_cases e : i = k
      · rw [e]; exact ⟨Int.le_refl _, fun z => absurd z (by omega)⟩
      · cases hb : amx ok W k with
        | none => exact absurd hok (by rw [amx_none hb i (by omega)]; decide)
        | some z =>
          have h1 := amx_max hb i (by omega) hok
          have h2 := hh.2 z hb
          exact ⟨by omega, fun _ => by omega⟩
    · next hh =>
      by_cases e : i = k
      · subst e
        have h3 := amx_lt h
        have h4 : ¬ W x < W i := fun hl => hh ⟨hok, fun z hz => by rw [h] at hz; cases hz; exact hl⟩
        exact ⟨by omega, fun z => absurd z (by omega)⟩
      · exact amx_max h i (by omega) hok
theorem amx_eq {ok : Nat → Bool} {W : Nat → Int} {k x : Nat} (h1 : x < k) (h2 : ok x = true) (h3 : ∀ i, i < k → ok i = true → W i ≤ W x ∧ (i < x → W i < W x)) : amx ok W k = some x := by
  cases hb : amx ok W k with
  | none => exact absurd h2 (by rw [amx_none hb x h1]; decide)
  | some z =>
    have hz := amx_lt hb
    have a := amx_max hb x h1 h2
    have b := h3 z hz.1 hz.2
    congr 1
    rcases Nat.lt_trichotomy z x with e | e | e
    · have := b.2 e; omega
    · exact e
    · have := a.2 e; omega
theorem amx_all {ok : Nat → Bool} {W : Nat → Int} {k : Nat} (h : ∀ i, i < k → ok i = false) : amx ok W k = none := by
  cases hb : amx ok W k with
  | none => rfl
  | some z => have hz := amx_lt hb; rw [h z hz.1] at hz; exact absurd hz.2 (by decide)
theorem amx_ext {ok ok' : Nat → Bool} {W W' : Nat → Int} {k : Nat} (h1 : ∀ i, i < k → ok i = ok' i) (h2 : ∀ i, i < k → ok i = true → W i = W' i) : amx ok W k = amx ok' W' k := by
  cases hb : amx ok' W' k with
  | none => exact amx_all (fun i hi => by rw [h1 i hi]; exact amx_none hb i hi)
  | some z =>
    have hz := amx_lt hb
    have hok : ok z = true := by rw [h1 z hz.1]; exact hz.2
    refine amx_eq hz.1 hok (fun i hi ho => ?_)
    rw [h2 i hi ho, h2 z hz.1 hok]
    exact amx_max hb i hi (by rw [← h1 i hi]; exact ho)
/-! left of a lesson -/
def spN (w : Wd) (h : Nat → Nat) (l : Nat) : Int := (w.pl l : Int) - cntU h l w.P
theorem spN_rng {w : Wd} (hw : WW w) (h : Nat → Nat) (l : Nat) : -8 ≤ spN w h l ∧ spN w h l ≤ 9 := by
  have h1 := cntU_le h l w.P
  have h2 := hw.pl l
  have h3 := hw.P
  unfold spN; omega
def bt (x l : Nat) : Nat := if x.testBit l = true then 1 else 0
theorem bt_le (x l : Nat) : bt x l ≤ 1 := by unfold bt; split <;> omega
theorem cntU_ext {h h' : Nat → Nat} {l : Nat} : ∀ {P : Nat}, (∀ p, p < P → h p = h' p) → cntU h l P = cntU h' l P
  | 0, _ => rfl
  | P + 1, e => by unfold cntU; rw [cntU_ext (fun p hp => e p (by omega)), e P (by omega)]
theorem spN_ext {w : Wd} {h h' : Nat → Nat} (e : ∀ p, p < w.P → h p = h' p) (l : Nat) : spN w h l = spN w h' l := by
  unfold spN; rw [cntU_ext e]
theorem cntU_upd {h : Nat → Nat} {p x l : Nat} : ∀ {P : Nat}, p < P → cntU (puh h p x) l P + bt (h p) l = cntU h l P + bt x l
  | 0, hp => absurd hp (by omega)
  | P + 1, hp => by
    unfold cntU
    by_cases e : p = P
    · subst e
      rw [puh_same, cntU_ext (h' := h) (fun q hq => puh_ne (by omega))]
      unfold bt; omega
    · have := cntU_upd (h := h) (x := x) (l := l) (show p < P by omega)
      rw [puh_ne (show P ≠ p by omega)]
      omega
theorem spN_upd {w : Wd} {h : Nat → Nat} {p x l : Nat} (hp : p < w.P) : spN w (puh h p x) l = spN w h l + bt (h p) l - bt x l := by
  have := cntU_upd (h := h) (x := x) (l := l) hp
  unfold spN; omega
theorem tb_or2 (x l i : Nat) : (x ||| 2 ^ l).testBit i = (x.testBit i || decide (i = l)) := by
  rw [Nat.testBit_or, Nat.testBit_two_pow]
  congr 1
  by_cases e : i = l
  · subst e; simp
  · rw [decide_eq_false e, decide_eq_false (fun z => e z.symm)]
theorem bt_or {x l i : Nat} (h : x.testBit l = false) : bt (x ||| 2 ^ l) i = bt x i + if i = l then 1 else 0 := by
  unfold bt
  rw [tb_or2]
  by_cases e : i = l
  · subst e; rw [h]; simp
  · rw [if_neg e, decide_eq_false e, Bool.or_false]; rfl
theorem or2_lt {x l N : Nat} (hx : x < 2 ^ N) (hl : l < N) : x ||| 2 ^ l < 2 ^ N := Nat.or_lt_two_pow hx (Nat.pow_lt_pow_right (by decide) hl)
/-! adding lesson by lesson -/
def addOk (w : Wd) (t : Tb) (h : Nat → Nat) (p l : Nat) : Bool := (!(h p).testBit l) && (decide (0 < spN w h l) && (t.1 p (h p ||| 2 ^ l) && decide (t.2 p (h p) < t.2 p (h p ||| 2 ^ l))))
def addO (w : Wd) (t : Tb) (h : Nat → Nat) (p : Nat) : Option Nat := amx (addOk w t h p) (fun l => t.2 p (h p ||| 2 ^ l)) w.N
def addT (w : Wd) (t : Tb) (h : Nat → Nat) (p : Nat) : Nat → Nat := match addO w t h p with
  | none => h
  | some l => puh h p (h p ||| 2 ^ l)
def addB (w : Wd) (t : Tb) (h : Nat → Nat) (p : Nat) : Bool := (addO w t h p).isSome
def rndT (w : Wd) (t : Tb) (o : Nat → Nat) (h : Nat → Nat) : Nat → (Nat → Nat) × Bool
  | 0 => (h, false)
  | k + 1 => (addT w t (rndT w t o h k).1 (o k), addB w t (rndT w t o h k).1 (o k) || (rndT w t o h k).2)
def ordN (w : Wd) (b : Bool) (k : Nat) : Nat := if b = true then w.P - 1 - k else k
def rnd (w : Wd) (t : Tb) (b : Bool) (h : Nat → Nat) : (Nat → Nat) × Bool := rndT w t (ordN w b) h w.P
def addsN (w : Wd) (t : Tb) (fl : Bool) : Nat → Bool → (Nat → Nat) → (Nat → Nat)
  | 0, _, h => h
  | i + 1, b, h => if (rnd w t b h).2 = true then addsN w t fl i (xor fl b) (rnd w t b h).1 else (rnd w t b h).1
/-- all that is had -/
def hvU (w : Wd) (h : Nat → Nat) : Nat → Nat
  | 0 => 0
  | l + 1 => hvU w h l + cntU h l w.P
theorem hvU_le {w : Wd} (h : Nat → Nat) : ∀ N, hvU w h N ≤ N * w.P
  | 0 => by unfold hvU; omega
  | N + 1 => by
    have := hvU_le (w := w) h N
    have := cntU_le h N w.P
    unfold hvU; rw [Nat.succ_mul]; omega
def hv (w : Wd) (h : Nat → Nat) : Nat := hvU w h w.N
theorem hv_le {w : Wd} (hw : WW w) (h : Nat → Nat) : hv w h ≤ 80 := by
  have h1 := hvU_le (w := w) h w.N
  have h2 : w.N * w.P ≤ 10 * 8 := Nat.mul_le_mul hw.N hw.P
  unfold hv; omega
theorem hvU_add {w : Wd} {h : Nat → Nat} {p l : Nat} (hp : p < w.P) (hb : (h p).testBit l = false) : ∀ N, hvU w (puh h p (h p ||| 2 ^ l)) N = hvU w h N + if l < N then 1 else 0
  | 0 => by unfold hvU; rw [if_neg (by omega)]
  | N + 1 => by
    have h1 := hvU_add hp hb N
    have h2 := cntU_upd (h := h) (x := h p ||| 2 ^ l) (l := N) hp
    rw [bt_or hb] at h2
    unfold hvU
    rw [h1]
    by_cases e : N = l
    · rw [if_pos e] at h2; rw [if_neg (by omega), if_pos (by omega)]; omega
    · rw [if_neg e] at h2
      by_cases e2 : l < N
      · rw [if_pos e2, if_pos (by omega)]; omega
      · rw [if_neg e2, if_neg (by omega)]; omega
/-- rows of what people have -/
def hOk (w : Wd) (h : Nat → Nat) : Prop := ∀ p, h p < 2 ^ w.N
theorem addOk_iff {w : Wd} {t : Tb} {h : Nat → Nat} {p l : Nat} : addOk w t h p l = true ↔ (h p).testBit l = false ∧ 0 < spN w h l ∧ t.1 p (h p ||| 2 ^ l) = true ∧ t.2 p (h p) < t.2 p (h p ||| 2 ^ l) := by
  unfold addOk
  simp only [Bool.and_eq_true, decide_eq_true_eq, Bool.not_eq_true']
theorem addT_ok {w : Wd} {t : Tb} {h : Nat → Nat} {p : Nat} (hh : hOk w h) : hOk w (addT w t h p) := by
  unfold addT
  split
  · exact hh
  · next l hl =>
    intro q
    unfold puh
    split
    · exact or2_lt (hh p) (amx_lt hl).1
    · exact hh q
theorem addT_hv {w : Wd} {t : Tb} {h : Nat → Nat} {p : Nat} (hp : p < w.P) : hv w (addT w t h p) = hv w h + if addB w t h p = true then 1 else 0 := by
  unfold addT addB
  split
  · next e => rw [e]; rfl
  · next l e =>
    rw [e]
    have hl := amx_lt e
    have := hvU_add hp (addOk_iff.mp hl.2).1 w.N
    rw [if_pos hl.1] at this
    exact this
theorem ordN_lt {w : Wd} {b : Bool} {k : Nat} (hk : k < w.P) : ordN w b k < w.P := by unfold ordN; split <;> omega
theorem rndT_ok {w : Wd} {t : Tb} {o : Nat → Nat} {h : Nat → Nat} (hh : hOk w h) : ∀ k, hOk w (rndT w t o h k).1
  | 0 => hh
  | k + 1 => addT_ok (rndT_ok hh k)
theorem rndT_hv {w : Wd} {t : Tb} {b : Bool} {h : Nat → Nat} : ∀ k, k ≤ w.P → hv w h + (if (rndT w t (ordN w b) h k).2 = true then 1 else 0) ≤ hv w (rndT w t (ordN w b) h k).1
  | 0, _ => Nat.le_refl _
  | k + 1, hk => by
    have h1 := rndT_hv (w := w) (t := t) (b := b) (h := h) k (by omega)
    have h2 := addT_hv (t := t) (h := (rndT w t (ordN w b) h k).1) (ordN_lt (b := b) (show k < w.P by omega))
    show hv w h + (if (addB w t (rndT w t (ordN w b) h k).1 (ordN w b k) || (rndT w t (ordN w b) h k).2) = true then 1 else 0) ≤ hv w (addT w t (rndT w t (ordN w b) h k).1 (ordN w b k))
    rw [h2]
    cases addB w t (rndT w t (ordN w b) h k).1 (ordN w b k) <;> cases hb : (rndT w t (ordN w b) h k).2 <;> rw [hb] at h1 <;> simp at h1 ⊢ <;> omega
theorem rnd_hv {w : Wd} {t : Tb} {b : Bool} {h : Nat → Nat} (hr : (rnd w t b h).2 = true) : hv w h + 1 ≤ hv w (rnd w t b h).1 := by
  have := rndT_hv (w := w) (t := t) (b := b) (h := h) w.P (Nat.le_refl _)
  have e : (rndT w t (ordN w b) h w.P).2 = true := hr
  rw [if_pos e] at this; exact this
theorem addsN_ok {w : Wd} {t : Tb} {fl : Bool} : ∀ {i : Nat} {b : Bool} {h : Nat → Nat}, hOk w h → hOk w (addsN w t fl i b h)
  | 0, _, _, hh => hh
  | i + 1, b, h, hh => by
    unfold addsN
    split
    · exact addsN_ok (rndT_ok hh _)
    · exact rndT_ok hh _
/-! prices that grow till nothing is over -/
def fulO (w : Wd) (h : Nat → Nat) : Option Nat := amx (fun l => decide (spN w h l < 0)) (fun l => - spN w h l) w.N
def mendC (w : Wd) (t : Tb) : Nat → (Nat → Nat) → (Nat → Nat)
  | 0, c => c
  | i + 1, c => match fulO w (buyB w t.1 t.2 c) with
    | none => c
    | some l => mendC w t i (puh c l (c l + w.sp))
def potU (c : Nat → Nat) : Nat → Nat
  | 0 => 0
  | l + 1 => potU c l + (201 - c l)
theorem potU_le (c : Nat → Nat) : ∀ N, potU c N ≤ N * 201
  | 0 => by unfold potU; omega
  | N + 1 => by have := potU_le c N; unfold potU; rw [Nat.succ_mul]; omega
theorem potU_ext {c c' : Nat → Nat} : ∀ {N : Nat}, (∀ l, l < N → c l = c' l) → potU c N = potU c' N
  | 0, _ => rfl
  | N + 1, h => by unfold potU; rw [potU_ext (fun l hl => h l (by omega)), h N (by omega)]
theorem potU_upd {c : Nat → Nat} {l s : Nat} (h1 : c l ≤ 200) (hs : 1 ≤ s) : ∀ {N : Nat}, l < N → potU (puh c l (c l + s)) N + 1 ≤ potU c N
  | 0, h => absurd h (by omega)
  | N + 1, h => by
    unfold potU
    by_cases e : l = N
    · subst e
      rw [puh_same, potU_ext (c' := c) (fun i hi => puh_ne (by omega))]; omega
    · have := potU_upd h1 hs (show l < N by omega)
      rw [puh_ne (show N ≠ l by omega)]; omega
theorem costU_ge {c : Nat → Nat} {b l : Nat} (hb : b.testBit l = true) : ∀ {N : Nat}, l < N → c l ≤ costU c b N
  | 0, h => absurd h (by omega)
  | N + 1, h => by
    unfold costU
    by_cases e : l = N
    · subst e; rw [if_pos hb]; omega
    · have := costU_ge (c := c) hb (show l < N by omega); omega
theorem cntU_pos {h : Nat → Nat} {l : Nat} : ∀ {P : Nat}, 0 < cntU h l P → ∃ p, p < P ∧ (h p).testBit l = true
  | 0, e => absurd e (by unfold cntU; omega)
  | P + 1, e => by
    unfold cntU at e
    by_cases hb : (h P).testBit l = true
    · exact ⟨P, by omega, hb⟩
    · rw [if_neg hb] at e
      obtain ⟨p, h1, h2⟩ := cntU_pos (show 0 < cntU h l P by omega)
      exact ⟨p, by omega, h2⟩
theorem ful_le {w : Wd} (hw : WW w) {t : Tb} {c : Nat → Nat} {l : Nat} (h : fulO w (buyB w t.1 t.2 c) = some l) : l < w.N ∧ c l ≤ 200 := by
  have h1 := amx_lt h
  have h2 : spN w (buyB w t.1 t.2 c) l < 0 := of_decide_eq_true h1.2
  have h3 : 0 < cntU (buyB w t.1 t.2 c) l w.P := by unfold spN at h2; omega
  obtain ⟨p, hp, hb⟩ := cntU_pos h3
  refine ⟨h1.1, ?_⟩
  unfold buyB at hb
  cases ho : buyO w t.1 t.2 c p with
  | none => rw [ho] at hb; simp at hb
  | some x =>
    rw [ho] at hb
    have hx := bestU_lt ho
    have := costU_ge (c := c) (show x.testBit l = true from hb) h1.1
    have := hw.pu p
    have := hx.2.2
    omega
theorem ful_none {w : Wd} (hw : WW w) {t : Tb} {c : Nat → Nat} (h : potU c w.N = 0) : fulO w (buyB w t.1 t.2 c) = none := by
  cases hf : fulO w (buyB w t.1 t.2 c) with
  | none => rfl
  | some l =>
    obtain ⟨h1, h2⟩ := ful_le hw hf
    have := potU_upd h2 (Nat.le_refl 1) h1
    omega
theorem ful_pot {w : Wd} (hw : WW w) {t : Tb} {c : Nat → Nat} {l i : Nat} (h : fulO w (buyB w t.1 t.2 c) = some l) (hp : potU c w.N ≤ i + 1) : potU (puh c l (c l + w.sp)) w.N ≤ i := by
  obtain ⟨h1, h2⟩ := ful_le hw h
  have := potU_upd h2 hw.sp.1 h1
  omega
theorem ful_cP {w : Wd} (hw : WW w) {t : Tb} {c : Nat → Nat} {l : Nat} (h : fulO w (buyB w t.1 t.2 c) = some l) (hc : cP c) : cP (puh c l (c l + w.sp)) := by
  obtain ⟨h1, h2⟩ := ful_le hw h
  have := hw.sp
  intro q
  unfold puh
  split
  · omega
  · exact hc q
theorem potU_2010 {w : Wd} (hw : WW w) (c : Nat → Nat) : potU c w.N ≤ 2010 := by
  have := potU_le c w.N
  have := hw.N
  omega
def mndC (w : Wd) (t : Tb) : Nat → Nat := mendC w t 2010 w.pr
/-! bids -/
def bidW (t : Tb) (k : Nat) : Int := t.2 (k / 10) (2 ^ (k % 10)) - t.2 (k / 10) 0
def bidOk (w : Wd) (t : Tb) (a : Nat → Bool) (k : Nat) : Bool := !a k && (decide (k / 10 < w.P ∧ k % 10 < w.N) && decide (0 < bidW t k))
def bidO (w : Wd) (t : Tb) (a : Nat → Bool) : Option Nat := amx (bidOk w t a) (bidW t) 80
def bidT (w : Wd) (t : Tb) (h : Nat → Nat) (k : Nat) : Nat → Nat := if 0 < spN w h (k % 10) ∧ t.1 (k / 10) (h (k / 10) ||| 2 ^ (k % 10)) = true then puh h (k / 10) (h (k / 10) ||| 2 ^ (k % 10)) else h
def bidN (w : Wd) (t : Tb) : Nat → (Nat → Bool) → (Nat → Nat) → (Nat → Nat)
  | 0, _, h => h
  | i + 1, a, h => match bidO w t a with
    | none => h
    | some k => bidN w t i (fun q => decide (q = k) || a q) (bidT w t h k)
def uaU (a : Nat → Bool) : Nat → Nat
  | 0 => 0
  | k + 1 => uaU a k + if a k = true then 0 else 1
theorem uaU_ext {a a' : Nat → Bool} : ∀ {N : Nat}, (∀ l, l < N → a l = a' l) → uaU a N = uaU a' N
  | 0, _ => rfl
  | N + 1, h => by unfold uaU; rw [uaU_ext (fun l hl => h l (by omega)), h N (by omega)]
theorem uaU_upd {a : Nat → Bool} {k : Nat} (hk : a k = false) : ∀ {N : Nat}, k < N → uaU (fun q => decide (q = k) || a q) N + 1 = uaU a N
  | 0, h => absurd h (by omega)
  | N + 1, h => by
    unfold uaU
    by_cases e : k = N
    · subst e
      rw [uaU_ext (a' := a) (fun l hl => by rw [decide_eq_false (by omega)]; rfl), hk]
      simp
    · have := uaU_upd hk (show k < N by omega)
      rw [decide_eq_false (show ¬ N = k by omega), Bool.false_or]; omega
theorem uaU_zero {a : Nat → Bool} : ∀ {N : Nat}, uaU a N = 0 → ∀ k, k < N → a k = true
  | 0, _, k, hk => absurd hk (by omega)
  | N + 1, h, k, hk => by
    unfold uaU at h
    by_cases e : k = N
    · subst e
      cases hb : a k with
      | true => rfl
      | false => rw [hb] at h; simp at h
    · exact uaU_zero (show uaU a N = 0 by omega) k (by omega)
theorem bidO_lt {w : Wd} {t : Tb} {a : Nat → Bool} {k : Nat} (h : bidO w t a = some k) : k < 80 ∧ a k = false ∧ k / 10 < w.P ∧ k % 10 < w.N ∧ 0 < bidW t k := by
  have h1 := amx_lt h
  have h2 := h1.2
  unfold bidOk at h2
  simp only [Bool.and_eq_true, decide_eq_true_eq, Bool.not_eq_true'] at h2
  exact ⟨h1.1, h2.1, h2.2.1.1, h2.2.1.2, h2.2.2⟩
theorem bidO_none {w : Wd} {t : Tb} {a : Nat → Bool} (h : uaU a 80 = 0) : bidO w t a = none := amx_all (fun i hi => by unfold bidOk; rw [uaU_zero h i hi]; rfl)
theorem bidT_ok {w : Wd} {t : Tb} {h : Nat → Nat} {k : Nat} (hh : hOk w h) (hk : k % 10 < w.N) : hOk w (bidT w t h k) := by
  unfold bidT
  split
  · intro q; unfold puh; split
    · exact or2_lt (hh _) hk
    · exact hh q
  · exact hh
theorem bidN_ok {w : Wd} {t : Tb} : ∀ {i : Nat} {a : Nat → Bool} {h : Nat → Nat}, hOk w h → hOk w (bidN w t i a h)
  | 0, _, _, hh => hh
  | i + 1, a, h, hh => by
    unfold bidN
    split
    · exact hh
    · next k e => exact bidN_ok (bidT_ok hh (bidO_lt e).2.2.2.1)
/-! one after another -/
def setU (f : Nat → Bool) : Nat → Nat
  | 0 => 0
  | l + 1 => setU f l ||| if f l = true then 2 ^ l else 0
theorem setU_lt (f : Nat → Bool) : ∀ {l : Nat}, setU f l < 2 ^ l
  | 0 => by unfold setU; decide
  | l + 1 => by
    have h := setU_lt f (l := l)
    have hp : 2 ^ l < 2 ^ (l + 1) := Nat.pow_lt_pow_right (by decide) (by omega)
    unfold setU
    refine Nat.or_lt_two_pow (by omega) ?_
    split
    · exact hp
    · omega
theorem setU_tb (f : Nat → Bool) {i : Nat} : ∀ {l : Nat}, (setU f l).testBit i = (decide (i < l) && f i)
  | 0 => by unfold setU; simp
  | l + 1 => by
    unfold setU
    rw [Nat.testBit_or, setU_tb f (l := l)]
    by_cases e : i = l
    · subst e
      by_cases hf : f i = true
      · rw [if_pos hf, Nat.testBit_two_pow_self, hf]; simp
      · rw [if_neg hf, Nat.zero_testBit]; simp at hf; rw [hf]; simp
    · have h2 : (if f l = true then 2 ^ l else 0).testBit i = false := by
        split
        · rw [Nat.testBit_two_pow]; exact decide_eq_false (fun z => e z.symm)
        · exact Nat.zero_testBit i
      rw [h2, Bool.or_false]
      congr 1
      exact decide_eq_decide.mpr (by omega)
theorem setU_ext {f g : Nat → Bool} : ∀ {N : Nat}, (∀ l, l < N → f l = g l) → setU f N = setU g N
  | 0, _ => rfl
  | N + 1, h => by unfold setU; rw [setU_ext (fun l hl => h l (by omega)), h N (by omega)]
/-- lessons that are left, but one -/
def opnS (w : Wd) (h : Nat → Nat) (but : Nat) : Nat := setU (fun l => decide (l ≠ but ∧ 0 < spN w h l)) w.N
def takO (w : Wd) (t : Tb) (h : Nat → Nat) (but p : Nat) : Option Nat := bestW (t.1 p) (t.2 p) (opnS w h but) (2 ^ w.N)
def serT (w : Wd) (t : Tb) (h : Nat → Nat) (p : Nat) : Nat → Nat := puh h p ((takO w t h 99 p).getD 0)
def serN (w : Wd) (t : Tb) : Nat → (Nat → Nat) → (Nat → Nat)
  | 0, h => h
  | p + 1, h => serT w t (serN w t p h) p
theorem takO_lt {w : Wd} {t : Tb} {h : Nat → Nat} {but p : Nat} : (takO w t h but p).getD 0 < 2 ^ w.N := by
  cases ho : takO w t h but p with
  | none => exact Nat.two_pow_pos _
  | some x => exact (bestU_lt ho).1
theorem serN_ok {w : Wd} {t : Tb} {h : Nat → Nat} (hh : hOk w h) : ∀ p, hOk w (serN w t p h)
  | 0 => hh
  | p + 1 => by
    intro q
    unfold serN serT puh
    split
    · exact takO_lt
    · exact serN_ok hh p q
/-- what each has in a way -/
def wayT (w : Wd) (t : Tb) (k : Nat) : Nat → Nat :=
  if k = 0 then buyB w t.1 t.2 w.pr
  else if k = 1 then addsN w t false 81 false (buyB w t.1 t.2 (mndC w t))
  else if k = 2 then addsN w t true 81 false (fun _ => 0)
  else if k = 3 then bidN w t 80 (fun _ => false) (fun _ => 0)
  else if k = 4 then serN w t w.P (fun _ => 0)
  else w.hd
theorem zero_ok (w : Wd) : hOk w (fun _ => 0) := fun _ => Nat.two_pow_pos _
theorem buyB_ok (w : Wd) (t : Tb) (c : Nat → Nat) : hOk w (buyB w t.1 t.2 c) := fun p => by
  unfold buyB
  cases ho : buyO w t.1 t.2 c p with
  | none => exact Nat.two_pow_pos _
  | some x => exact buyO_lt ho
theorem wayT_ok {w : Wd} (hw : WW w) (t : Tb) (k : Nat) : hOk w (wayT w t k) := by
  unfold wayT
  repeat' split
  · exact buyB_ok w t _
  · exact addsN_ok (buyB_ok w t _)
  · exact addsN_ok (zero_ok w)
  · exact bidN_ok (zero_ok w)
  · exact serN_ok (zero_ok w) _
  · exact hw.hd
