/-! ===== the component: the shell sort ===== -/
def cntF (f : Nat → Int32) (x : Int32) : Nat → Nat
  | 0 => 0
  | m + 1 => cntF f x m + if f m = x then 1 else 0
def PermF (m : Nat) (f g : Nat → Int32) : Prop := ∀ x, cntF f x m = cntF g x m
theorem cntF_congr {f g : Nat → Int32} {x : Int32} {m : Nat} (h : ∀ i, i < m → f i = g i) : cntF f x m = cntF g x m := by
  induction m with
  | zero => rfl
  | succ m ih => simp only [cntF]; rw [ih (fun i hi => h i (by omega)), h m (by omega)]
theorem cntF_upd {f : Nat → Int32} {x v : Int32} {i : Nat} : ∀ {m : Nat}, i < m → cntF (upd f i v) x m + (if f i = x then 1 else 0) = cntF f x m + if v = x then 1 else 0
  | 0, h => by omega
  | m + 1, h => by
    simp only [cntF]
    by_cases e : i = m
    · subst e
      rw [cntF_congr (f := upd f i v) (g := f) (fun j hj => pk_un (by omega)), pk_us]; omega
    · have := cntF_upd (f := f) (x := x) (v := v) (i := i) (m := m) (by omega)
      rw [pk_un (fun q => e q.symm)]; omega
theorem cntF_pos {f : Nat → Int32} {x : Int32} : ∀ {m : Nat}, 0 < cntF f x m → ∃ i, i < m ∧ f i = x
  | 0, h => by simp [cntF] at h
  | m + 1, h => by
    simp only [cntF] at h
    by_cases e : f m = x
    · exact ⟨m, by omega, e⟩
    · rw [if_neg e] at h
      obtain ⟨i, hi, hx⟩ := cntF_pos (m := m) (by omega)
      exact ⟨i, by omega, hx⟩
theorem cntF_ge1 {f : Nat → Int32} {x : Int32} {i : Nat} : ∀ {m : Nat}, i < m → f i = x → 0 < cntF f x m
  | 0, h, _ => by omega
  | m + 1, h, hx => by
    simp only [cntF]
    by_cases e : i = m
    · subst e; rw [if_pos hx]; omega
    · have := cntF_ge1 (m := m) (i := i) (by omega) hx; omega
theorem cntF_ge2 {f : Nat → Int32} {x : Int32} {i j : Nat} : ∀ {m : Nat}, i < j → j < m → f i = x → f j = x → 2 ≤ cntF f x m
  | 0, _, h, _, _ => by omega
  | m + 1, hij, h, h1, h2 => by
    simp only [cntF]
    by_cases e : j = m
    · subst e; rw [if_pos h2]; have := cntF_ge1 (m := j) hij h1; omega
    · have := cntF_ge2 (m := m) hij (by omega) h1 h2; omega
theorem cntF_le1 {f : Nat → Int32} {x : Int32} : ∀ {m : Nat}, (∀ i j, i < j → j < m → f i = x → f j = x → False) → cntF f x m ≤ 1
  | 0, _ => by simp [cntF]
  | m + 1, h => by
    simp only [cntF]
    by_cases e : f m = x
    · rw [if_pos e]
      have : cntF f x m = 0 := by
        rcases Nat.eq_zero_or_pos (cntF f x m) with z | z
        · exact z
        · obtain ⟨i, hi, hx⟩ := cntF_pos z
          exact (h i m hi (by omega) hx e).elim
      omega
    · rw [if_neg e]; have := cntF_le1 (m := m) (fun i j a b => h i j a (by omega)); omega
/-- the hole moves: the same values -/
theorem PermF_hole {m t s : Nat} {f g : Nat → Int32} {v : Int32} (ht : t < m) (hs : s < t) (h : PermF m (upd f t v) g) : PermF m (upd (upd f t (f s)) s v) g := by
  intro x
  rw [← h x]
  have a1 := cntF_upd (f := f) (x := x) (v := v) (i := t) (m := m) ht
  have a2 := cntF_upd (f := f) (x := x) (v := f s) (i := t) (m := m) ht
  have a3 := cntF_upd (f := upd f t (f s)) (x := x) (v := v) (i := s) (m := m) (by omega)
  rw [pk_un (by omega)] at a3
  omega
theorem kst_pos : ∀ k, k < 8 → 1 ≤ (kStrides.getD k 0).toInt ∧ (kStrides.getD k 0).toInt ≤ 701 := by decide
theorem gI_upd (σ : St) (q t : Nat) (v : Int32) : gI (sI σ q t v) q = upd (gI σ q) t v := upd_sI.symm
theorem sort_spec {d n : Nat} {σ : St} {p m : Nat} (hp : IsP n p) (hm : gI σ p 8 = nI m) (hm2 : m ≤ 1024) :
    Cn d n M_X5_sortRanked (md_X5_sortRanked p) [.ref p] σ (liV (fun σ' => PermF m (gI σ' (p + 4)) (gI σ (p + 4)) ∧ ∀ i j, i < j → j < m → (gI σ' (p + 4) i).toInt ≤ (gI σ' (p + 4) j).toInt)) := by
  refine S_X5_sortRanked hp ?_
  generalize hQ : (fun σ' : St => PermF m (gI σ' (p + 4)) (gI σ (p + 4)) ∧ ∀ i j, i < j → j < m → (gI σ' (p + 4) i).toInt ≤ (gI σ' (p + 4) j).toInt) = Q
  -- one pass with a stride
  have pass : ∀ (x1 : Int32) (s : Nat), 1 ≤ s → s ≤ 701 → (∀ σ1 : St, gI σ1 p 8 = nI m → PermF m (gI σ1 (p + 4)) (gI σ (p + 4)) → (s = 1 → ∀ i j, i < j → j < m → (gI σ1 (p + 4) i).toInt ≤ (gI σ1 (p + 4) j).toInt) → K_X5_sortRanked_2 d n σ Q p σ1 (x1 + 1)) →
      ∀ i, i ≤ max m s → s ≤ i → ∀ σ1 : St, gI σ1 p 8 = nI m → PermF m (gI σ1 (p + 4)) (gI σ (p + 4)) → (s = 1 → ∀ a b, a < b → b < i → b < m → (gI σ1 (p + 4) a).toInt ≤ (gI σ1 (p + 4) b).toInt) → K_X5_sortRanked_18 d n σ Q p σ1 x1 (nI s) (nI i) := by
    intro x1 s hs1 hs2 next
    refine up_ind (N := max m s) ?_ ?_
    · intro hsi σ1 h1 h2 h3
      refine B_X5_sortRanked_18 hp ⟨fun _ => next σ1 h1 h2 (fun e a b h4 h5 => h3 e a b h4 (by omega) h5), fun h => absurd ?_ h⟩
      rw [h1]; exact nI_le (by omega) (by omega)
    · intro i hi ih hsi σ1 h1 h2 h3
      have him : i < m := by omega
      refine B_X5_sortRanked_18 hp ⟨fun h => absurd (by rw [h1] at h; exact h) (nI_ge him (by omega)), fun _ => ⟨vp_in_nI (by omega) (by decide), ?_⟩⟩
      rw [nI_clamp (by omega)]
      generalize hv : gI σ1 (p + 4) i = v
      -- the hole goes down
      have hole : ∀ t, t ≤ i → ∀ σ2 : St, gI σ2 p 8 = nI m → PermF m (upd (gI σ2 (p + 4)) t v) (gI σ (p + 4)) → (s = 1 → (∀ a b, a < b → b < t → (gI σ2 (p + 4) a).toInt ≤ (gI σ2 (p + 4) b).toInt) ∧ (∀ a b, t < a → a < b → b ≤ i → (gI σ2 (p + 4) a).toInt ≤ (gI σ2 (p + 4) b).toInt) ∧ (∀ a, t < a → a ≤ i → v.toInt < (gI σ2 (p + 4) a).toInt) ∧ (∀ a b, a < t → t < b → b ≤ i → (gI σ2 (p + 4) a).toInt ≤ (gI σ2 (p + 4) b).toInt)) → K_X5_sortRanked_37 d n σ Q p σ2 x1 (nI s) (nI i) v (nI t) := by
        intro t
        induction t using Nat.strongRecOn with
        | ind t iht =>
          intro ht σ2 g1 g2 g3
          have fin : (s = 1 → ∀ a, a < t → (gI σ2 (p + 4) a).toInt ≤ v.toInt) → K_X5_sortRanked_18 d n σ Q p (sI σ2 (p + 4) t v) x1 (nI s) (nI i + 1) := by
            intro hle
            rw [nI_1]
            refine ih (by omega) _ ?_ ?_ ?_
            · rw [gI_sI_ne (by omega)]; exact g1
            · rw [gI_upd]; exact g2
            · intro e a b hab hbi hbm
              obtain ⟨q1, q2, q3, q4⟩ := g3 e
              have q0 := hle e
              rw [gI_upd]
              by_cases ea : a = t
              · subst ea
                rw [pk_us, pk_un (by omega)]
                exact Int.le_of_lt (q3 b (by omega) (by omega))
              · rw [pk_un ea]
                by_cases eb : b = t
                · subst eb; rw [pk_us]; exact q0 a (by omega)
                · rw [pk_un eb]
                  rcases Nat.lt_or_ge b t with z | z
                  · exact q1 a b hab z
                  · rcases Nat.lt_or_ge a t with z2 | z2
                    · exact q4 a b z2 (by omega) (by omega)
                    · exact q2 a b (by omega) hab (by omega)
          have hvt : vp_in (nI t) 1024 := vp_in_nI (by omega) (by decide)
          by_cases hts : t < s
          · refine B_X5_sortRanked_37 hp ⟨fun _ => ⟨hvt, ?_⟩, fun h => absurd (nI_lt hts (by omega)) h⟩
            rw [nI_clamp (by omega)]
            exact fin (fun e a ha => by omega)
          · refine B_X5_sortRanked_37 hp ⟨fun h => absurd h (nI_nlt (by omega) (by omega)), fun _ => ?_⟩
            rw [pk_sub (by omega), nI_clamp (by omega), nI_clamp (by omega)]
            have hv2 : vp_in (nI (t - s)) 1024 := vp_in_nI (by omega) (by decide)
            refine ⟨hv2, fun hle => ⟨hvt, fin (fun e a ha => ?_)⟩, fun hle => ⟨hv2, hvt, ?_⟩⟩
            · have hle' := le_ti.mp hle
              subst e
              rcases Nat.lt_or_ge a (t - 1) with z | z
              · exact Int.le_trans ((g3 rfl).1 a (t - 1) z (by omega)) hle'
              · rw [show a = t - 1 by omega]; exact hle'
            · have hlt : v.toInt < (gI σ2 (p + 4) (t - s)).toInt := by
                have : ¬ (gI σ2 (p + 4) (t - s)).toInt ≤ v.toInt := fun z => hle (le_ti.mpr z)
                omega
              refine iht (t - s) (by omega) (by omega) _ ?_ ?_ ?_
              · rw [gI_sI_ne (by omega)]; exact g1
              · rw [gI_upd]; exact PermF_hole (by omega) (by omega) g2
              · intro e
                subst e
                obtain ⟨q1, q2, q3, q4⟩ := g3 rfl
                rw [gI_upd]
                refine ⟨fun a b h4 h5 => ?_, fun a b h4 h5 h6 => ?_, fun a h4 h5 => ?_, fun a b h4 h5 h6 => ?_⟩
                · rw [pk_un (by omega), pk_un (by omega)]; exact q1 a b h4 (by omega)
                · by_cases ea : a = t
                  · subst ea; rw [pk_us, pk_un (by omega)]; exact q4 (a - 1) b (by omega) (by omega) h6
                  · rw [pk_un ea, pk_un (by omega)]; exact q2 a b (by omega) h5 h6
                · by_cases ea : a = t
                  · subst ea; rw [pk_us]; exact hlt
                  · rw [pk_un ea]; exact q3 a (by omega) h5
                · rw [pk_un (by omega)]
                  by_cases eb : b = t
                  · subst eb; rw [pk_us]
                    exact q1 a (b - 1) (by omega) (by omega)
                  · rw [pk_un eb]; exact q4 a b (by omega) (by omega) h6
      refine hole i (Nat.le_refl _) σ1 h1 ?_ (fun e => ⟨fun a b h4 h5 => h3 e a b h4 h5 (by omega), fun a b h4 h5 h6 => by omega, fun a h4 h5 => by omega, fun a b h4 h5 h6 => by omega⟩)
      have e : upd (gI σ1 (p + 4)) i v = gI σ1 (p + 4) := by
        funext j
        by_cases ej : j = i
        · subst ej; rw [pk_us, hv]
        · rw [pk_un ej]
      rw [e]; exact h2
  have loop : ∀ k, k ≤ 8 → ∀ σ1 : St, gI σ1 p 8 = nI m → PermF m (gI σ1 (p + 4)) (gI σ (p + 4)) → (k = 8 → ∀ i j, i < j → j < m → (gI σ1 (p + 4) i).toInt ≤ (gI σ1 (p + 4) j).toInt) → K_X5_sortRanked_2 d n σ Q p σ1 (nI k) := by
    refine up_ind (N := 8) ?_ ?_
    · intro σ1 h1 h2 h3
      refine B_X5_sortRanked_2 hp ⟨fun _ => ?_, fun h => absurd (show (8 : Int32) ≤ nI 8 by decide) h⟩
      rw [← hQ]; exact ⟨h2, h3 rfl⟩
    · intro k hk ih σ1 h1 h2 h3
      have hks := kst_pos k hk
      refine B_X5_sortRanked_2 hp ⟨fun h => absurd h (nI_ge (b := 8) hk (by decide)), fun _ => ⟨vp_in_nI hk (by decide), ?_⟩⟩
      rw [nI_clamp (by omega)]
      have es : kStrides.getD k 0 = nI (kStrides.getD k 0).toInt.toNat := eq_ti.mpr (by rw [nI_toInt (by omega)]; omega)
      rw [es]
      refine pass (nI k) (kStrides.getD k 0).toInt.toNat (by omega) (by omega) ?_ _ (by omega) (Nat.le_refl _) σ1 h1 h2 (fun e a b h4 h5 h6 => by omega)
      intro σ2 g1 g2 g3
      rw [nI_1]
      refine ih σ2 g1 g2 (fun e => ?_)
      have e7 : k = 7 := by omega
      subst e7
      exact g3 (by decide)
  exact loop 0 (by decide) σ hm (fun x => rfl) (fun e => by omega)
