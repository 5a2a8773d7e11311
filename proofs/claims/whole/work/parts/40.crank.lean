/-! ===== the component: ranks ===== -/
/-- how many below K are in a set -/
def cntS (S : Nat → Bool) : Nat → Nat
  | 0 => 0
  | k + 1 => cntS S k + if S k = true then 1 else 0
theorem cntS_le (S : Nat → Bool) (k : Nat) : cntS S k ≤ k := by
  induction k with
  | zero => exact Nat.le_refl _
  | succ k ih => simp only [cntS]; split <;> omega
theorem cntS_ext {S T : Nat → Bool} {k : Nat} (h : ∀ b, b < k → S b = T b) : cntS S k = cntS T k := by
  induction k with
  | zero => rfl
  | succ k ih => simp only [cntS]; rw [ih (fun b hb => h b (by omega)), h k (by omega)]
theorem cntS_rm {S : Nat → Bool} {x : Nat} : ∀ {k : Nat}, x < k → cntS S k = cntS (fun b => S b && decide (b ≠ x)) k + if S x = true then 1 else 0
  | 0, h => by omega
  | k + 1, h => by
    simp only [cntS]
    by_cases e : k = x
    · subst e
      have : cntS (fun b => S b && decide (b ≠ k)) k = cntS S k := cntS_ext (fun b hb => by simp [show b ≠ k by omega])
      rw [this]; simp
    · rw [cntS_rm (S := S) (x := x) (k := k) (by omega)]
      have e2 : (S k && decide (k ≠ x)) = S k := by simp [e]
      simp only [e2]; omega
theorem cntS_bij {β : Nat → Nat} {K : Nat} {S : Nat → Bool} : ∀ {m : Nat} {L : Nat → Bool}, (∀ r r', r < r' → r' < m → β r ≠ β r') → (∀ r, r < m → β r < K ∧ L (β r) = true) → (∀ b, b < K → L b = true → ∃ r, r < m ∧ β r = b) → cntS (fun r => S (β r)) m = cntS (fun b => L b && S b) K
  | 0, L, _, _, hs => by
    have : cntS (fun b => L b && S b) K = cntS (fun _ => false) K := cntS_ext (fun b hb => by
      cases hL : L b with
      | false => rfl
      | true => obtain ⟨r, h, -⟩ := hs b hb hL; omega)
    rw [this]
    have z : ∀ k, cntS (fun _ => false) k = 0 := fun k => by
      induction k with
      | zero => rfl
      | succ k ih => simp [cntS, ih]
    rw [z]; rfl
  | m + 1, L, hi, hr, hs => by
    obtain ⟨h1, h2⟩ := hr m (by omega)
    have ih := cntS_bij (β := β) (K := K) (S := S) (m := m) (L := fun b => L b && decide (b ≠ β m)) (fun r r' a b => hi r r' a (by omega)) (fun r h => ⟨(hr r (by omega)).1, by simp only [(hr r (by omega)).2, Bool.true_and]; exact decide_eq_true (hi r m h (by omega))⟩) (fun b hb hL => by
      simp only [Bool.and_eq_true, decide_eq_true_eq] at hL
      obtain ⟨r, a, e⟩ := hs b hb hL.1
      refine ⟨r, ?_, e⟩
      rcases Nat.lt_or_ge r m with z | z
      · exact z
      · exact absurd (by rw [← e, show r = m by omega]) hL.2)
    rw [cntS_rm (S := fun b => L b && S b) h1]
    simp only [cntS]
    rw [ih, h2, Bool.true_and]
    congr 1
    exact cntS_ext (fun b _ => by cases L b <;> cases S b <;> simp)
theorem Rnk.inj {σ : St} {p N m : Nat} {L : Nat → Bool} {V : Nat → Int} {β : Nat → Nat} (h : Rnk σ p N L V m β) {r r' : Nat} (a : r < r') (b : r' < m) : β r ≠ β r' := fun e => by
  have := h.2.2.2.1 r r' a b
  rw [e] at this; omega
theorem Rnk.cnt {σ : St} {p N m : Nat} {L : Nat → Bool} {V : Nat → Int} {β : Nat → Nat} (h : Rnk σ p N L V m β) (S : Nat → Bool) : cntS (fun r => S (β r)) m = cntS (fun b => L b && S b) (2 ^ N) :=
  cntS_bij (fun _ _ a b => h.inj a b) (fun r hr => ⟨(h.2.2.1 r hr).1, (h.2.2.1 r hr).2.1⟩) h.2.2.2.2
theorem Rnk.ord {σ : St} {p N m : Nat} {L : Nat → Bool} {V : Nat → Int} {β : Nat → Nat} (h : Rnk σ p N L V m β) (hV : ∀ b, -1000000 ≤ V b ∧ V b ≤ 1000000) (hN : 2 ^ N ≤ 1024) {x y : Nat} (hxy : x < y) (hy : y < m) : V (β y) < V (β x) ∨ V (β y) = V (β x) ∧ β x < β y := by
  have b1 := (h.2.2.1 x (by omega)).1
  have b2 := (h.2.2.1 y hy).1
  exact key_ord hV (by omega) (by omega) (h.2.2.2.1 x y hxy hy)
theorem cntS_pre {T : Nat → Bool} {k m : Nat} (hk : k ≤ m) (h1 : ∀ r, r < k → T r = true) (h2 : ∀ r, k ≤ r → r < m → T r = false) : cntS T m = k := by
  obtain ⟨j, rfl⟩ := Nat.exists_eq_add_of_le hk
  clear hk
  induction j with
  | zero =>
    clear h2
    show cntS T k = k
    induction k with
    | zero => rfl
    | succ k ih => simp only [cntS]; rw [ih (fun r h => h1 r (by omega)), if_pos (h1 k (by omega))]
  | succ j ih =>
    show cntS T (k + j) + (if T (k + j) = true then 1 else 0) = k
    rw [ih (fun r a b => h2 r a (by omega)), h2 (k + j) (by omega) (by omega)]; rfl
/-- how many lawful bundles are of more worth -/
theorem betterThan_spec {d n : Nat} {σ : St} {p N m : Nat} {L : Nat → Bool} {V : Nat → Int} {β : Nat → Nat} {y : Int32} (hd : 1 ≤ d) (hp : IsP n p) (hR : Rnk σ p N L V m β) (hV : ∀ b, -1000000 ≤ V b ∧ V b ≤ 1000000) (hN : 2 ^ N ≤ 1024) :
    Cn d n M_X5_betterThan md_X5_betterThan [.ref p, .int y] σ (liI (fun v σ' => σ' = σ ∧ ∃ k, k ≤ m ∧ v = nI k ∧ (∀ r, r < m → (y.toInt < V (β r) ↔ r < k)) ∧ k = cntS (fun b => L b && decide (y.toInt < V b)) (2 ^ N))) := by
  have hm := hR.2.1
  refine S_X5_betterThan hd hp ?_
  generalize hQ : (fun (v : Int32) (σ' : St) => σ' = σ ∧ ∃ k, k ≤ m ∧ v = nI k ∧ (∀ r, r < m → (y.toInt < V (β r) ↔ r < k)) ∧ k = cntS (fun b => L b && decide (y.toInt < V b)) (2 ^ N)) = Q
  have fin : ∀ k, k ≤ m → (∀ r, r < m → (y.toInt < V (β r) ↔ r < k)) → Q (nI k) σ := by
    intro k hk h
    rw [← hQ]
    refine ⟨rfl, k, hk, rfl, h, ?_⟩
    rw [← hR.cnt (fun b => decide (y.toInt < V b))]
    exact (cntS_pre hk (fun r hr => decide_eq_true ((h r (by omega)).mpr hr)) (fun r a b => decide_eq_false (fun z => by have := (h r b).mp z; omega))).symm
  have loop : ∀ k, k ≤ m → (∀ r, r < k → y.toInt < V (β r)) → K_X5_betterThan_2 d n σ Q σ p y (nI k) := by
    refine up_ind (N := m) ?_ ?_
    · intro h
      refine B_X5_betterThan_2 hd hp ⟨fun _ => ?_, fun h => absurd (by rw [hR.1]; exact nI_le (Nat.le_refl _) (by omega)) h⟩
      rw [hR.1]
      exact fin m (Nat.le_refl _) (fun r hr => ⟨fun _ => hr, fun _ => h r hr⟩)
    · intro k hk ih h
      obtain ⟨w1, w2⟩ := worthAt_in hR hV hN hk
      refine B_X5_betterThan_2 hd hp ⟨fun h => absurd (by rw [hR.1] at h; exact h) (nI_ge hk (by omega)), fun _ => ⟨w1, fun hl => ?_, fun hl => ?_⟩⟩
      · rw [nI_1]
        refine ih (fun r hr => ?_)
        rcases Nat.lt_or_ge r k with z | z
        · exact h r z
        · rw [show r = k by omega, ← w2]; exact Int32.lt_iff_toInt_lt.mp hl
      · refine fin k (by omega) (fun r hr => ⟨fun z => ?_, fun z => h r z⟩)
        rcases Nat.lt_or_ge r k with z' | z'
        · exact z'
        · exfalso
          have : ¬ y.toInt < V (β k) := by rw [← w2]; exact fun q => hl (Int32.lt_iff_toInt_lt.mpr q)
          by_cases e : r = k
          · rw [e] at z; exact this z
          · have := hR.ord hV hN (x := k) (y := r) (by omega) hr
            omega
  exact loop 0 (Nat.zero_le _) (fun r h => absurd h (by omega))
/-- the best lawful bundle of some lessons alone -/
def bestW (L : Nat → Bool) (V : Nat → Int) (a K : Nat) : Option Nat := bestU (fun b => L b && decide (clr b a = 0)) V (fun _ => 0) 0 K
theorem nI_z {x : Nat} (h : x < 2 ^ 31) : nI x = 0 ↔ x = 0 := nI_eq (b := 0) h (by decide)
theorem key_and {V : Nat → Int} {b : Nat} (hV : -1000000 ≤ V b ∧ V b ≤ 1000000) (hb : b < 1024) : nI (keyN V b) &&& 1023 = nI b := by
  have hk := keyN_lt hV hb
  rw [pk_andN (n := keyN V b) (by omega) 10 (by decide)]
  congr 1
  unfold keyN; omega
theorem rankWithin_spec {d n : Nat} {σ : St} {p N m a : Nat} {L : Nat → Bool} {V : Nat → Int} {β : Nat → Nat} (hp : IsP n p) (hR : Rnk σ p N L V m β) (hV : ∀ b, -1000000 ≤ V b ∧ V b ≤ 1000000) (hN : 2 ^ N ≤ 1024) :
    Cn d n M_X5_rankWithin md_X5_rankWithin [.ref p, .int (nI a)] σ (liI (fun v σ' => σ' = σ ∧ rkO m β (bestW L V a (2 ^ N)) v)) := by
  have hm := hR.2.1
  refine S_X5_rankWithin hp ?_
  generalize hQ : (fun (v : Int32) (σ' : St) => σ' = σ ∧ rkO m β (bestW L V a (2 ^ N)) v) = Q
  have loop : ∀ k, k ≤ m → (∀ r, r < k → clr (β r) a ≠ 0) → K_X5_rankWithin_2 d n σ Q σ p (nI a) (nI k) := by
    refine up_ind (N := m) ?_ ?_
    · intro h
      refine B_X5_rankWithin_2 hp ⟨fun _ => ?_, fun h => absurd (by rw [hR.1]; exact nI_le (Nat.le_refl _) (by omega)) h⟩
      have e : bestW L V a (2 ^ N) = none := bestU_no (fun y hy hL => by
        simp only [Bool.and_eq_true, decide_eq_true_eq] at hL
        obtain ⟨r, hr, e⟩ := hR.2.2.2.2 y hy hL.1
        exact absurd (by rw [e]; exact hL.2) (h r hr))
      rw [← hQ]; refine ⟨rfl, ?_⟩; rw [e]; rfl
    · intro k hk ih h
      obtain ⟨a1, a2, a3⟩ := hR.2.2.1 k hk
      have hcl : clr (β k) a ≤ β k := clr_le _ _
      refine B_X5_rankWithin_2 hp ⟨fun h => absurd (by rw [hR.1] at h; exact h) (nI_ge hk (by omega)), fun _ => ⟨vp_in_nI (by omega) (by decide), ?_⟩⟩
      rw [nI_clamp (by omega), a3, key_and (hV _) (by omega), nI_clr]
      refine ⟨fun hz => ?_, fun hz => ?_⟩
      · rw [nI_1]
        refine ih (fun r hr => ?_)
        rcases Nat.lt_or_ge r k with z | z
        · exact h r z
        · rw [show r = k by omega]; exact fun q => hz ((nI_z (by omega)).mpr q)
      · have hz' := (nI_z (by omega)).mp hz
        have e : bestW L V a (2 ^ N) = some (β k) := bestU_eq a1 (by simp [a2, hz']) (Nat.le_refl _) (fun y hy hL _ hne => by
          simp only [Bool.and_eq_true, decide_eq_true_eq] at hL
          obtain ⟨r, hr, e⟩ := hR.2.2.2.2 y hy hL.1
          have hrk : k < r := by
            rcases Nat.lt_trichotomy r k with z | z | z
            · exact absurd (by rw [e]; exact hL.2) (h r z)
            · exact absurd (by rw [← e, z]) hne
            · exact z
          have := hR.ord hV hN hrk hr
          rw [e] at this
          omega)
        rw [← hQ]; refine ⟨rfl, ?_⟩; rw [e]; exact ⟨k, hk, rfl, rfl⟩
  exact loop 0 (Nat.zero_le _) (fun r h => absurd h (by omega))
/-- the least of a cost over a set -/
def Lst (S : Nat → Prop) (c : Nat → Nat) (o : Option Nat) : Prop := match o with
  | none => ∀ y, ¬ S y
  | some v => (∃ y, S y ∧ c y = v) ∧ ∀ y, S y → v ≤ c y
theorem Lst.uniq {S : Nat → Prop} {c : Nat → Nat} {o o' : Option Nat} (h : Lst S c o) (h' : Lst S c o') : o = o' := by
  cases o with
  | none =>
    cases o' with
    | none => rfl
    | some v => obtain ⟨⟨y, hy, -⟩, -⟩ := h'; exact absurd hy (h y)
  | some u =>
    obtain ⟨⟨y, hy, e⟩, hu⟩ := h
    cases o' with
    | none => exact absurd hy (h' y)
    | some v =>
      obtain ⟨⟨z, hz, e'⟩, hv⟩ := h'
      have := hu z hz
      have := hv y hy
      congr 1; omega
theorem Lst.ext {S T : Nat → Prop} {c : Nat → Nat} {o : Option Nat} (h : Lst S c o) (he : ∀ y, S y ↔ T y) : Lst T c o := by
  have : S = T := funext fun y => propext (he y)
  rw [← this]; exact h
/-- a set grows by one -/
theorem Lst.step_no {S T : Nat → Prop} {c : Nat → Nat} {o : Option Nat} {x : Nat} (h : Lst S c o) (he : ∀ y, T y ↔ S y ∨ y = x) (h1 : ∃ v, o = some v ∧ v ≤ c x) : Lst T c o := by
  obtain ⟨v, rfl, hv⟩ := h1
  obtain ⟨⟨y, hy, e⟩, hu⟩ := h
  refine ⟨⟨y, (he y).mpr (Or.inl hy), e⟩, fun z hz => ?_⟩
  rcases (he z).mp hz with q | q
  · exact hu z q
  · rw [q]; exact hv
theorem Lst.step_yes {S T : Nat → Prop} {c : Nat → Nat} {o : Option Nat} {x : Nat} (h : Lst S c o) (he : ∀ y, T y ↔ S y ∨ y = x) (h1 : ∀ v, o = some v → c x ≤ v) : Lst T c (some (c x)) := by
  refine ⟨⟨x, (he x).mpr (Or.inr rfl), rfl⟩, fun z hz => ?_⟩
  rcases (he z).mp hz with q | q
  · cases o with
    | none => exact absurd q (h z)
    | some v => exact Nat.le_trans (h1 v rfl) (h.2 z q)
  · rw [q]; exact Nat.le_refl _
theorem and_key {V : Nat → Int} {b a : Nat} (hb : b < 1024) (ha : a < 1024) : keyN V b &&& a = b &&& a := by
  have h1 : keyN V b &&& a ≤ a := Nat.and_le_right
  have h2 : b &&& a ≤ a := Nat.and_le_right
  have h3 : (keyN V b &&& a) % 2 ^ 10 = (b &&& a) % 2 ^ 10 := by
    rw [Nat.and_mod_two_pow, Nat.and_mod_two_pow]
    congr 1
    unfold keyN; omega
  omega
theorem hasLawfulWith_spec {d n : Nat} {σ : St} {p N m a : Nat} {L : Nat → Bool} {V : Nat → Int} {β : Nat → Nat} (hp : IsP n p) (hR : Rnk σ p N L V m β) (hV : ∀ b, -1000000 ≤ V b ∧ V b ≤ 1000000) (hN : 2 ^ N ≤ 1024) (ha : a < 1024) :
    Cn d n M_X5_hasLawfulWith md_X5_hasLawfulWith [.ref p, .int (nI a)] σ (liI (fun v σ' => σ' = σ ∧ (v = 1 ∧ (∃ b, b < 2 ^ N ∧ L b = true ∧ b &&& a = a) ∨ v = 0 ∧ ∀ b, b < 2 ^ N → L b = true → b &&& a ≠ a))) := by
  have hm := hR.2.1
  refine S_X5_hasLawfulWith hp ?_
  generalize hQ : (fun (v : Int32) (σ' : St) => σ' = σ ∧ (v = 1 ∧ (∃ b, b < 2 ^ N ∧ L b = true ∧ b &&& a = a) ∨ v = 0 ∧ ∀ b, b < 2 ^ N → L b = true → b &&& a ≠ a)) = Q
  have loop : ∀ k, k ≤ m → (∀ r, r < k → β r &&& a ≠ a) → K_X5_hasLawfulWith_2 d n σ Q σ p (nI a) (nI k) := by
    refine up_ind (N := m) ?_ ?_
    · intro h
      refine B_X5_hasLawfulWith_2 hp ⟨fun _ => ?_, fun h => absurd (by rw [hR.1]; exact nI_le (Nat.le_refl _) (by omega)) h⟩
      rw [← hQ]
      refine ⟨rfl, Or.inr ⟨rfl, fun b hb hL => ?_⟩⟩
      obtain ⟨r, hr, e⟩ := hR.2.2.2.2 b hb hL
      rw [← e]; exact h r hr
    · intro k hk ih h
      obtain ⟨a1, a2, a3⟩ := hR.2.2.1 k hk
      have hle : β k &&& a ≤ a := Nat.and_le_right
      refine B_X5_hasLawfulWith_2 hp ⟨fun h => absurd (by rw [hR.1] at h; exact h) (nI_ge hk (by omega)), fun _ => ⟨vp_in_nI (by omega) (by decide), ?_⟩⟩
      rw [nI_clamp (by omega), a3, nI_and, and_key (by omega) ha]
      refine ⟨fun hz => ?_, fun hz => ?_⟩
      · rw [nI_1]
        refine ih (fun r hr => ?_)
        rcases Nat.lt_or_ge r k with z | z
        · exact h r z
        · rw [show r = k by omega]; exact fun q => hz (by rw [q])
      · rw [← hQ]
        exact ⟨rfl, Or.inl ⟨rfl, β k, a1, a2, (nI_eq (by omega) (by omega)).mp hz⟩⟩
  exact loop 0 (Nat.zero_le _) (fun r h => absurd h (by omega))
/-- what leastBetter ranges over -/
def lbS (N : Nat) (L : Nat → Bool) (V : Nat → Int) (a : Nat) (y : Int) (b : Nat) : Prop := b < 2 ^ N ∧ L b = true ∧ y < V b ∧ b &&& a = a
theorem leastBetter_spec {d n : Nat} {σ : St} {w : Wd} {pd : Nat → Nat} {L : Nat → Nat → Bool} {V : Nat → Nat → Int} {c : Nat → Nat} {j a : Nat} (hn : FIX ≤ n) (hd : 2 ≤ d) (hX : CJ σ n w pd L V j) (hw : WW w) (hV : vW V) (hM : Mrk σ c) (hc : cOk c) (hj : j < w.P) (ha : a < 1024) :
    Cn d n M_X4_leastBetter md_X4_leastBetter [.ref 6, .ref (pd j), .int (nI a)] σ (liI (fun v σ' => ∃ o, Lst (lbS w.N (L j) (V j) a (optV (V j) (buyO w L V c j))) (fun b => costU c b w.N) o ∧ v = optI o)) := by
  obtain ⟨b1, b2, b3, b4⟩ := id hX
  have hpw := pow10 hw.N
  have hN := hw.N
  generalize hQ : (fun (v : Int32) (σ' : St) => ∃ o, Lst (lbS w.N (L j) (V j) a (optV (V j) (buyO w L V c j))) (fun b => costU c b w.N) o ∧ v = optI o) = Q
  refine S_X4_leastBetter hn (by omega) b2 ⟨_, pickC0 hn (by omega) hX hw hV hM (fun l hl => hc l (by have := hw.N; omega)) hj, fun v1 σ1 ⟨_, ⟨hw1, hw2⟩, _⟩ hf1 => ⟨hw1, ?_⟩⟩
  have hX1 := hX.st hf1 (by decide)
  have hM1 := hM.st hf1 (by decide)
  obtain ⟨m, β, hR⟩ := hX1.2.2.2.rnk
  have hm := hR.2.1
  refine ⟨_, betterThan_spec (by omega) b2 hR (hV j) hpw, fun v2 σ2 hv2 hf2 => ?_⟩
  obtain ⟨rfl, k, hk, rfl, hk2, -⟩ := hv2
  rw [hw2] at hk2
  generalize hy : optV (V j) (buyO w L V c j) = y at hk2 hQ
  have hcost : ∀ b, b < 2 ^ w.N → costU c b w.N ≤ 10000000 := fun b _ => Nat.le_trans (costU_le (M := 1000000) (fun i hi => hc i (by omega))) (by omega)
  have loop : ∀ r, r ≤ k → ∀ (o : Option Nat) (x : Int32), x = optI o → Lst (fun b => ∃ r', r' < r ∧ β r' = b ∧ b &&& a = a) (fun b => costU c b w.N) o → K_X4_leastBetter_21 d n σ Q σ2 (pd j) (nI a) (nI k) x (nI r) := by
    refine up_ind (N := k) ?_ ?_
    · intro o x hx h
      refine B_X4_leastBetter_21 hn (by omega) b2 ⟨fun _ => ?_, fun h => absurd (nI_le (Nat.le_refl _) (by omega)) h⟩
      rw [← hQ]
      refine ⟨o, h.ext (fun b => ⟨?_, ?_⟩), hx⟩
      · rintro ⟨r', h1, rfl, h3⟩
        obtain ⟨a1, a2, -⟩ := hR.2.2.1 r' (by omega)
        exact ⟨a1, a2, (hk2 r' (by omega)).mpr h1, h3⟩
      · rintro ⟨h1, h2, h3, h4⟩
        obtain ⟨r', hr', rfl⟩ := hR.2.2.2.2 b h1 h2
        exact ⟨r', (hk2 r' hr').mp h3, rfl, h4⟩
    · intro r hr ih o x hx h
      obtain ⟨a1, a2, -⟩ := hR.2.2.1 r (by omega)
      obtain ⟨p1, p2⟩ := bundleAt_in hR (hV j) hpw (show r < m by omega)
      obtain ⟨c1, c2⟩ := costC hM1 (b := β r) (by omega)
      rw [costU_ext (by omega : β r < 2 ^ w.N) hN] at c2
      have hle : β r &&& a ≤ a := Nat.and_le_right
      have hcr := hcost (β r) a1
      refine B_X4_leastBetter_21 hn (by omega) b2 ⟨fun h => absurd h (nI_ge hr (by omega)), fun _ => ⟨p1, ?_⟩⟩
      rw [p2, nI_and, c2]
      refine ⟨fun hz => ?_, fun hz => ?_⟩
      · rw [nI_1]
        refine ih o x hx (h.ext (fun b => ⟨?_, ?_⟩))
        · rintro ⟨r', h1, h2⟩; exact ⟨r', by omega, h2⟩
        · rintro ⟨r', h1, h2, h3⟩
          refine ⟨r', ?_, h2, h3⟩
          rcases Nat.lt_or_ge r' r with z | z
          · exact z
          · exfalso; apply hz
            rw [show r' = r by omega] at h2
            rw [h2, h3]
      · have hz' := (nI_eq (by omega) (by omega)).mp hz
        have he : ∀ b, (∃ r', r' < r + 1 ∧ β r' = b ∧ b &&& a = a) ↔ (∃ r', r' < r ∧ β r' = b ∧ b &&& a = a) ∨ b = β r := by
          intro b
          constructor
          · rintro ⟨r', h1, h2, h3⟩
            rcases Nat.lt_or_ge r' r with z | z
            · exact Or.inl ⟨r', z, h2, h3⟩
            · exact Or.inr (by rw [← h2, show r' = r by omega])
          · rintro (⟨r', h1, h2⟩ | rfl)
            · exact ⟨r', by omega, h2⟩
            · exact ⟨r, by omega, rfl, hz'⟩
        rw [nI_1]
        have hov : ∀ v, o = some v → v ≤ 10000000 := fun v hv => by
          rw [hv] at h
          obtain ⟨⟨y', ⟨r', h1, h2, -⟩, h4⟩, -⟩ := h
          obtain ⟨a1', -⟩ := hR.2.2.1 r' (by omega)
          have := hcost (β r') a1'
          rw [← h4, ← h2]; exact this
        refine ⟨fun hx1 => ⟨c1, ih (some (costU c (β r) w.N)) _ rfl (h.step_yes he (fun v hv => ?_))⟩, fun hx1 => ⟨c1, fun hle => ih o x hx (h.step_no he ?_), fun hle => ⟨c1, ih (some (costU c (β r) w.N)) _ rfl (h.step_yes he (fun v hv => ?_))⟩⟩⟩
        · rw [hx, hv] at hx1
          exact absurd hx1 (optI_ne (by have := hov v hv; omega))
        · cases o with
          | none => exact absurd hx hx1
          | some v =>
            refine ⟨v, rfl, ?_⟩
            have := hov v rfl
            rw [hx] at hle
            rcases Nat.lt_or_ge (costU c (β r) w.N) v with z | z
            · exact absurd hle (nI_ge z (by omega))
            · exact z
        · have := hov v hv
          rw [hx, hv] at hle
          rcases Nat.lt_or_ge v (costU c (β r) w.N) with z | z
          · exact absurd (nI_le (by omega) (by omega)) hle
          · exact z
  refine loop 0 (Nat.zero_le _) none (-1) rfl (fun b => ?_)
  rintro ⟨r', h, -⟩; omega
theorem alike_spec {d n : Nat} {σ : St} {w : Wd} {pd : Nat → Nat} {L : Nat → Nat → Bool} {V : Nat → Nat → Int} {c : Nat → Nat} {j : Nat} (hn : FIX ≤ n) (hd : 2 ≤ d) (hX : CJ σ n w pd L V j) (hw : WW w) (hV : vW V) (hM : Mrk σ c) (hc : cOk c) (hj : j < w.P) :
    Cn d n M_X4_alike md_X4_alike [.ref 6, .ref (pd j)] σ (liI (fun v σ' => v = optI ((buyO w L V c j).map (fun x => cntS (fun b => L j b && (decide (b ≠ x) && (decide (V j b = V j x) && decide (costU c b w.N ≤ w.pu j)))) (2 ^ w.N))))) := by
  obtain ⟨b1, b2, b3, b4⟩ := id hX
  have hpw := pow10 hw.N
  have hN := hw.N
  have hpu := hw.pu j
  have hp83 : 83 ≤ pd j := b2.1
  generalize hQ : (fun (v : Int32) (σ' : St) => v = optI ((buyO w L V c j).map (fun x => cntS (fun b => L j b && (decide (b ≠ x) && (decide (V j b = V j x) && decide (costU c b w.N ≤ w.pu j)))) (2 ^ w.N)))) = Q
  obtain ⟨m, β, hR⟩ := b4.rnk
  have hm := hR.2.1
  refine S_X4_alike hn (by omega) b2 ⟨_, pick_spec (σ := σ) (p := pd j) (s0 := 0) hn (by omega) b2 hR (hV j) hw.N hM hc b3 (by omega) (Nat.zero_le m) (fun r h => absurd h (by omega)), fun v1 σ1 ⟨hv1, _⟩ hf1 => ?_⟩
  have hM1 := hM.st hf1 (by decide)
  have hR1 : Rnk σ1 (pd j) w.N (L j) (V j) m β := hR.fr (hf1.per (by decide) hp83 8) (fun k => hf1.per (by decide) (show P0 ≤ pd j + 4 from Nat.le_trans hp83 (by omega)) k)
  have hmo : gI σ1 (pd j) 0 = nI (w.pu j) := by rw [hf1.per (by decide) hp83 0]; exact b3
  change rkO m β (buyO w L V c j) v1 at hv1
  have hcost : ∀ b, b < 2 ^ w.N → costU c b w.N ≤ 10000000 := fun b _ => Nat.le_trans (costU_le (M := 1000000) (fun i hi => hc i (by omega))) (by omega)
  cases ho : buyO w L V c j with
  | none =>
    rw [ho] at hv1 hQ
    refine ⟨fun h => absurd hv1 h, fun _ => ?_⟩
    rw [← hQ]; rfl
  | some x =>
    rw [ho] at hv1 hQ
    obtain ⟨f, hf, rfl, hx⟩ := hv1
    refine ⟨fun _ => ?_, fun h => absurd h (optI_ne (x := f) (by omega))⟩
    obtain ⟨wf1, wf2⟩ := worthAt_in hR1 (hV j) hpw hf
    have loop : ∀ r, r ≤ m → K_X4_alike_19 d n σ Q σ1 (pd j) (nI f) (nI (cntS (fun r => decide (β r ≠ x) && (decide (V j (β r) = V j x) && decide (costU c (β r) w.N ≤ w.pu j))) r)) (nI r) := by
      refine up_ind (N := m) ?_ ?_
      · refine B_X4_alike_19 hn (by omega) b2 ⟨fun _ => ?_, fun h => absurd (by rw [hR1.1]; exact nI_le (Nat.le_refl _) (by omega)) h⟩
        rw [← hQ, hR1.cnt (fun b => decide (b ≠ x) && (decide (V j b = V j x) && decide (costU c b w.N ≤ w.pu j)))]; rfl
      · intro r hr ih
        obtain ⟨a1, a2, -⟩ := hR1.2.2.1 r hr
        obtain ⟨p1, p2⟩ := bundleAt_in hR1 (hV j) hpw hr
        obtain ⟨w1, w2⟩ := worthAt_in hR1 (hV j) hpw hr
        obtain ⟨c1, c2⟩ := costC hM1 (b := β r) (by omega)
        rw [costU_ext (by omega : β r < 2 ^ w.N) hN] at c2
        have hcr := hcost (β r) a1
        have no : (decide (β r ≠ x) && (decide (V j (β r) = V j x) && decide (costU c (β r) w.N ≤ w.pu j))) = false → K_X4_alike_19 d n σ Q σ1 (pd j) (nI f) (nI (cntS (fun r => decide (β r ≠ x) && (decide (V j (β r) = V j x) && decide (costU c (β r) w.N ≤ w.pu j))) r)) (nI r + 1) := by
          intro h
          rw [nI_1]
          have := ih
          simp only [cntS, h] at this
          exact this
        have yes : (decide (β r ≠ x) && (decide (V j (β r) = V j x) && decide (costU c (β r) w.N ≤ w.pu j))) = true → K_X4_alike_19 d n σ Q σ1 (pd j) (nI f) (nI (cntS (fun r => decide (β r ≠ x) && (decide (V j (β r) = V j x) && decide (costU c (β r) w.N ≤ w.pu j))) r) + 1) (nI r + 1) := by
          intro h
          rw [nI_1, nI_1]
          have := ih
          simp only [cntS, h, if_true] at this
          exact this
        refine B_X4_alike_19 hn (by omega) b2 ⟨fun h => absurd (by rw [hR1.1] at h; exact h) (nI_ge hr (by omega)), fun _ => ⟨fun e => ⟨fun _ => no ?_, fun h => absurd rfl h⟩, fun e => ⟨w1, wf1, fun hv => ⟨fun _ => no ?_, fun h => absurd rfl h⟩, fun hv => ⟨fun h => absurd h (by decide), fun _ => ⟨p1, by rw [p2]; exact c1, ?_⟩⟩⟩⟩⟩
        · have := (nI_eq (by omega) (by omega)).mp e
          rw [this, hx]; simp
        · have : V j (β r) ≠ V j x := fun z => hv (eq_ti.mpr (by rw [w2, wf2, hx]; exact z))
          simp [this]
        · have e1 : r ≠ f := fun z => e (by rw [z])
          have e2 : β r ≠ x := by
            rw [← hx]
            rcases Nat.lt_or_gt_of_ne e1 with z | z
            · exact hR1.inj z hf
            · exact fun q => hR1.inj z hr q.symm
          have e3 : V j (β r) = V j x := by rw [← hx, ← w2, ← wf2, hv]
          rw [p2, c2, hmo]
          refine ⟨fun hl => no ?_, fun hl => yes ?_⟩
          · have : ¬ costU c (β r) w.N ≤ w.pu j := fun z => by
              have h1 := Int32.lt_iff_toInt_lt.mp hl
              rw [nI_toInt (by omega), nI_toInt (by omega)] at h1; omega
            simp [this]
          · have : costU c (β r) w.N ≤ w.pu j := by
              rcases Nat.lt_or_ge (w.pu j) (costU c (β r) w.N) with z | z
              · exact absurd (nI_lt z (by omega)) hl
              · exact z
            simp [this, e2, e3]
    exact loop 0 (Nat.zero_le _)
